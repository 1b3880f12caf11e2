def kc_M_added4_39 {R : Type} (c : Int32 → Int32 → Sg → Option R) : ACut R := fun L st σ => match L, st with
  | [.inr (.inr (.inl (g1, i1))), .inl v1, _, _], [.inl w0] => match Nat.beq g1 30 && Nat.beq i1 0 with
    | true => c v1 w0 σ
    | false => none
  | _, _ => none
def kc_M_added4_23 {R : Type} (c : Int32 → Sg → Option R) : ACut R := fun L st σ => match L, st with
  | [.inr (.inr (.inl (g1, i1))), .inl v1, _, _], [] => match Nat.beq g1 30 && Nat.beq i1 0 with
    | true => c v1 σ
    | false => none
  | _, _ => none
def kc_M_added4_5 {R : Type} (c : Int32 → Sg → Option R) : ACut R := fun L st σ => match L, st with
  | [.inr (.inr (.inl (g1, i1))), .inl v1, _, _], [] => match Nat.beq g1 30 && Nat.beq i1 0 with
    | true => c v1 σ
    | false => none
  | _, _ => none
def tab_M_added4 : List (Nat × List AOp) := [(0, [(3, 0, 0, vU, []), (44, 93, 1, vU, []), (4, 1, 0, vU, []), (40, 5, 1, vU, [])]),
  (5, [(3, 0, 0, vU, []), (0, 0, 0, vI 43, []), (44, 83, 2, vU, []), (41, 1, 23, vU, []), (40, 14, 1, vU, [])]),
  (14, [(3, 0, 0, vU, []), (0, 0, 0, vI 45, []), (44, 83, 2, vU, []), (41, 0, 66, vU, []), (40, 23, 1, vU, [])]),
  (23, [(3, 0, 0, vU, []), (19, 30, 22, vU, []), (0, 0, 0, vL 43, []), (15, 0, 0, vU, []), (41, 1, 38, vU, []), (40, 34, 1, vU, [])]),
  (34, [(0, 0, 0, vI 1, []), (40, 39, 0, vU, [])]),
  (38, [(0, 0, 0, vI 0, []), (40, 39, 1, vU, [])]),
  (39, [(4, 2, 0, vU, []), (3, 0, 0, vU, []), (44, 79, 1, vU, []), (3, 0, 0, vU, []), (44, 93, 1, vU, []), (4, 3, 0, vU, []), (1, 2, 0, vU, []), (41, 0, 59, vU, []), (40, 53, 1, vU, [])]),
  (53, [(1, 1, 0, vU, []), (1, 3, 0, vU, []), (8, 0, 0, vU, []), (40, 62, 0, vU, [])]),
  (59, [(1, 1, 0, vU, []), (1, 3, 0, vU, []), (8, 1, 0, vU, []), (40, 62, 1, vU, [])]),
  (62, [(4, 1, 0, vU, []), (40, 5, 0, vU, [])]),
  (66, [(1, 1, 0, vU, []), (45, 1, 0, vU, [])])]
theorem e_M_added4_J39 (k5 : Int32 → Sg → Option (Int32 × Sg)) (u2 u3 : AV) (v1 : Int32) (w0 : Int32) (σ : Sg) : ab_ev tab_M_added4 [(79, cp_M_next), (83, cp_M_isSign), (93, cp_M_term4)] [(5, kc_M_added4_5 k5)] finI 300 (ab_row tab_M_added4 39) [(vR 30 0), (.inl v1), u2, u3] [(.inl w0)] σ = M_added4_J39 k5 v1 w0 σ := rfl
theorem e_M_added4_J23 (k5 : Int32 → Sg → Option (Int32 × Sg)) (u2 u3 : AV) (v1 : Int32) (σ : Sg) : ab_ev tab_M_added4 [(79, cp_M_next), (83, cp_M_isSign), (93, cp_M_term4)] [(39, kc_M_added4_39 (M_added4_J39 k5))] finI 300 (ab_row tab_M_added4 23) [(vR 30 0), (.inl v1), u2, u3] [] σ = M_added4_J23 k5 v1 σ := rfl
theorem e_M_added4_L5 (n : Nat) (u2 u3 : AV) (v1 : Int32) (σ : Sg) : ab_ev tab_M_added4 [(79, cp_M_next), (83, cp_M_isSign), (93, cp_M_term4)] [(23, kc_M_added4_23 (M_added4_J23 (fun y0 τ => M_added4_L5 n y0 τ)))] finI 300 (ab_row tab_M_added4 5) [(vR 30 0), (.inl v1), u2, u3] [] σ = M_added4_L5 (n + 1) v1 σ := rfl
theorem e_M_added4 (σ : Sg) : ab_ev tab_M_added4 [(79, cp_M_next), (83, cp_M_isSign), (93, cp_M_term4)] [(5, kc_M_added4_5 (M_added4_L5 FU))] finI 300 (ab_row tab_M_added4 0) [(vR 30 0), vU, vU, vU] [] σ = M_added4  σ := rfl
def kc_M_not4_93 {R : Type} (c : Int32 → Int32 → Sg → Option R) : ACut R := fun L st σ => match L, st with
  | [.inr (.inr (.inl (g1, i1))), .inl v1, _, _], [.inl w0] => match Nat.beq g1 30 && Nat.beq i1 0 with
    | true => c v1 w0 σ
    | false => none
  | _, _ => none
def kc_M_not4_77 {R : Type} (c : Int32 → Sg → Option R) : ACut R := fun L st σ => match L, st with
  | [.inr (.inr (.inl (g1, i1))), .inl v1, _, _], [] => match Nat.beq g1 30 && Nat.beq i1 0 with
    | true => c v1 σ
    | false => none
  | _, _ => none
def tab_M_not4 : List (Nat × List AOp) := [(0, [(3, 0, 0, vU, []), (0, 0, 0, vI 110, []), (0, 0, 0, vI 111, []), (0, 0, 0, vI 116, []), (0, 0, 0, vI 0, []), (0, 0, 0, vI 0, []), (0, 0, 0, vI 0, []), (0, 0, 0, vI 0, []), (0, 0, 0, vI 0, []), (44, 82, 9, vU, []), (41, 0, 52, vU, []), (40, 18, 1, vU, [])]),
  (18, [(3, 0, 0, vU, []), (44, 84, 1, vU, []), (41, 1, 27, vU, []), (40, 25, 1, vU, [])]),
  (25, [(0, 0, 0, vI 0, []), (45, 1, 0, vU, [])]),
  (27, [(3, 0, 0, vU, []), (44, 89, 1, vU, []), (4, 1, 0, vU, []), (3, 0, 0, vU, []), (16, 0, 0, vU, []), (18, 30, 23, vU, []), (0, 0, 0, vI 1, []), (8, 1, 0, vU, []), (21, 30, 23, vU, []), (1, 1, 0, vU, []), (41, 1, 50, vU, []), (40, 46, 1, vU, [])]),
  (46, [(0, 0, 0, vI 1, []), (40, 51, 0, vU, [])]),
  (50, [(0, 0, 0, vI 0, []), (40, 51, 1, vU, [])]),
  (51, [(45, 1, 0, vU, [])]),
  (52, [(3, 0, 0, vU, []), (44, 94, 1, vU, []), (4, 1, 0, vU, []), (3, 0, 0, vU, []), (0, 0, 0, vI 60, []), (44, 83, 2, vU, []), (41, 1, 77, vU, []), (40, 66, 1, vU, [])]),
  (66, [(3, 0, 0, vU, []), (0, 0, 0, vI 61, []), (44, 83, 2, vU, []), (41, 1, 77, vU, []), (40, 75, 1, vU, [])]),
  (75, [(1, 1, 0, vU, []), (45, 1, 0, vU, [])]),
  (77, [(3, 0, 0, vU, []), (19, 30, 22, vU, []), (0, 0, 0, vL 60, []), (15, 0, 0, vU, []), (41, 1, 92, vU, []), (40, 88, 1, vU, [])]),
  (88, [(0, 0, 0, vI 1, []), (40, 93, 0, vU, [])]),
  (92, [(0, 0, 0, vI 0, []), (40, 93, 1, vU, [])]),
  (93, [(4, 2, 0, vU, []), (3, 0, 0, vU, []), (44, 79, 1, vU, []), (3, 0, 0, vU, []), (44, 94, 1, vU, []), (4, 3, 0, vU, []), (1, 2, 0, vU, []), (41, 0, 115, vU, []), (40, 107, 1, vU, [])]),
  (107, [(1, 1, 0, vU, []), (1, 3, 0, vU, []), (42, 3, 124, vU, []), (40, 112, 1, vU, [])]),
  (112, [(40, 120, 0, vU, [])]),
  (115, [(1, 1, 0, vU, []), (1, 3, 0, vU, []), (42, 1, 124, vU, []), (40, 120, 1, vU, [])]),
  (120, [(0, 0, 0, vI 1, []), (40, 125, 0, vU, [])]),
  (124, [(0, 0, 0, vI 0, []), (40, 125, 1, vU, [])]),
  (125, [(45, 1, 0, vU, [])])]
theorem e_M_not4_J93 (u2 u3 : AV) (v1 : Int32) (w0 : Int32) (σ : Sg) : ab_ev tab_M_not4 [(79, cp_M_next), (82, cp_M_isWord), (83, cp_M_isSign), (84, cp_M_opens), (89, cp_M_not5), (94, cp_M_added4)] [] finI 300 (ab_row tab_M_not4 93) [(vR 30 0), (.inl v1), u2, u3] [(.inl w0)] σ = M_not4_J93 v1 w0 σ := rfl
theorem e_M_not4_J77 (u2 u3 : AV) (v1 : Int32) (σ : Sg) : ab_ev tab_M_not4 [(79, cp_M_next), (82, cp_M_isWord), (83, cp_M_isSign), (84, cp_M_opens), (89, cp_M_not5), (94, cp_M_added4)] [(93, kc_M_not4_93 (M_not4_J93))] finI 300 (ab_row tab_M_not4 77) [(vR 30 0), (.inl v1), u2, u3] [] σ = M_not4_J77 v1 σ := rfl
theorem e_M_not4 (σ : Sg) : ab_ev tab_M_not4 [(79, cp_M_next), (82, cp_M_isWord), (83, cp_M_isSign), (84, cp_M_opens), (89, cp_M_not5), (94, cp_M_added4)] [(77, kc_M_not4_77 (M_not4_J77))] finI 300 (ab_row tab_M_not4 0) [(vR 30 0), vU, vU, vU] [] σ = M_not4  σ := rfl
def kc_M_both4_5 {R : Type} (c : Int32 → Sg → Option R) : ACut R := fun L st σ => match L, st with
  | [.inr (.inr (.inl (g1, i1))), .inl v1, _], [] => match Nat.beq g1 30 && Nat.beq i1 0 with
    | true => c v1 σ
    | false => none
  | _, _ => none
def tab_M_both4 : List (Nat × List AOp) := [(0, [(3, 0, 0, vU, []), (44, 95, 1, vU, []), (4, 1, 0, vU, []), (40, 5, 1, vU, [])]),
  (5, [(3, 0, 0, vU, []), (0, 0, 0, vI 97, []), (0, 0, 0, vI 110, []), (0, 0, 0, vI 100, []), (0, 0, 0, vI 0, []), (0, 0, 0, vI 0, []), (0, 0, 0, vI 0, []), (0, 0, 0, vI 0, []), (0, 0, 0, vI 0, []), (44, 82, 9, vU, []), (41, 0, 49, vU, []), (40, 23, 1, vU, [])]),
  (23, [(3, 0, 0, vU, []), (44, 79, 1, vU, []), (3, 0, 0, vU, []), (44, 95, 1, vU, []), (4, 2, 0, vU, []), (1, 1, 0, vU, []), (41, 0, 44, vU, []), (40, 36, 1, vU, [])]),
  (36, [(1, 2, 0, vU, []), (41, 0, 44, vU, []), (40, 40, 1, vU, [])]),
  (40, [(0, 0, 0, vI 1, []), (40, 45, 0, vU, [])]),
  (44, [(0, 0, 0, vI 0, []), (40, 45, 1, vU, [])]),
  (45, [(4, 1, 0, vU, []), (40, 5, 0, vU, [])]),
  (49, [(1, 1, 0, vU, []), (45, 1, 0, vU, [])])]
theorem e_M_both4_L5 (n : Nat) (u2 : AV) (v1 : Int32) (σ : Sg) : ab_ev tab_M_both4 [(79, cp_M_next), (82, cp_M_isWord), (95, cp_M_not4)] [(5, kc_M_both4_5 (M_both4_L5 n))] finI 300 (ab_row tab_M_both4 5) [(vR 30 0), (.inl v1), u2] [] σ = M_both4_L5 (n + 1) v1 σ := rfl
theorem e_M_both4 (σ : Sg) : ab_ev tab_M_both4 [(79, cp_M_next), (82, cp_M_isWord), (95, cp_M_not4)] [(5, kc_M_both4_5 (M_both4_L5 FU))] finI 300 (ab_row tab_M_both4 0) [(vR 30 0), vU, vU] [] σ = M_both4  σ := rfl
def kc_M_either4_5 {R : Type} (c : Int32 → Sg → Option R) : ACut R := fun L st σ => match L, st with
  | [.inr (.inr (.inl (g1, i1))), .inl v1, _], [] => match Nat.beq g1 30 && Nat.beq i1 0 with
    | true => c v1 σ
    | false => none
  | _, _ => none
def tab_M_either4 : List (Nat × List AOp) := [(0, [(3, 0, 0, vU, []), (44, 96, 1, vU, []), (4, 1, 0, vU, []), (40, 5, 1, vU, [])]),
  (5, [(3, 0, 0, vU, []), (0, 0, 0, vI 111, []), (0, 0, 0, vI 114, []), (0, 0, 0, vI 0, []), (0, 0, 0, vI 0, []), (0, 0, 0, vI 0, []), (0, 0, 0, vI 0, []), (0, 0, 0, vI 0, []), (0, 0, 0, vI 0, []), (44, 82, 9, vU, []), (41, 0, 48, vU, []), (40, 22, 1, vU, [])]),
  (22, [(3, 0, 0, vU, []), (44, 79, 1, vU, []), (3, 0, 0, vU, []), (44, 96, 1, vU, []), (4, 2, 0, vU, []), (1, 1, 0, vU, []), (41, 1, 39, vU, []), (40, 35, 1, vU, [])]),
  (35, [(1, 2, 0, vU, []), (41, 0, 43, vU, []), (40, 39, 1, vU, [])]),
  (39, [(0, 0, 0, vI 1, []), (40, 44, 0, vU, [])]),
  (43, [(0, 0, 0, vI 0, []), (40, 44, 1, vU, [])]),
  (44, [(4, 1, 0, vU, []), (40, 5, 0, vU, [])]),
  (48, [(1, 1, 0, vU, []), (45, 1, 0, vU, [])])]
theorem e_M_either4_L5 (n : Nat) (u2 : AV) (v1 : Int32) (σ : Sg) : ab_ev tab_M_either4 [(79, cp_M_next), (82, cp_M_isWord), (96, cp_M_both4)] [(5, kc_M_either4_5 (M_either4_L5 n))] finI 300 (ab_row tab_M_either4 5) [(vR 30 0), (.inl v1), u2] [] σ = M_either4_L5 (n + 1) v1 σ := rfl
theorem e_M_either4 (σ : Sg) : ab_ev tab_M_either4 [(79, cp_M_next), (82, cp_M_isWord), (96, cp_M_both4)] [(5, kc_M_either4_5 (M_either4_L5 FU))] finI 300 (ab_row tab_M_either4 0) [(vR 30 0), vU, vU] [] σ = M_either4  σ := rfl
def kc_M_atom3_123 {R : Type} (c : Int32 → Sg → Option R) : ACut R := fun L st σ => match L, st with
  | [.inr (.inr (.inl (g1, i1))), .inl v1], [] => match Nat.beq g1 30 && Nat.beq i1 0 with
    | true => c v1 σ
    | false => none
  | _, _ => none
def kc_M_atom3_71 {R : Type} (c : Int32 → Sg → Option R) : ACut R := fun L st σ => match L, st with
  | [.inr (.inr (.inl (g1, i1))), .inl v1], [] => match Nat.beq g1 30 && Nat.beq i1 0 with
    | true => c v1 σ
    | false => none
  | _, _ => none
def tab_M_atom3 : List (Nat × List AOp) := [(0, [(0, 0, 0, vI 0, []), (4, 1, 0, vU, []), (3, 0, 0, vU, []), (0, 0, 0, vI 45, []), (44, 83, 2, vU, []), (41, 0, 37, vU, []), (40, 11, 1, vU, [])]),
  (11, [(3, 0, 0, vU, []), (44, 84, 1, vU, []), (41, 0, 161, vU, []), (40, 18, 1, vU, [])]),
  (18, [(3, 0, 0, vU, []), (44, 92, 1, vU, []), (10, 0, 0, vU, []), (4, 1, 0, vU, []), (3, 0, 0, vU, []), (16, 0, 0, vU, []), (18, 30, 23, vU, []), (0, 0, 0, vI 1, []), (8, 1, 0, vU, []), (21, 30, 23, vU, []), (40, 161, 0, vU, [])]),
  (37, [(3, 0, 0, vU, []), (0, 0, 0, vI 40, []), (44, 83, 2, vU, []), (41, 0, 95, vU, []), (40, 46, 1, vU, [])]),
  (46, [(3, 0, 0, vU, []), (44, 84, 1, vU, []), (41, 0, 161, vU, []), (40, 53, 1, vU, [])]),
  (53, [(3, 0, 0, vU, []), (44, 97, 1, vU, []), (4, 1, 0, vU, []), (3, 0, 0, vU, []), (0, 0, 0, vI 41, []), (44, 83, 2, vU, []), (41, 1, 71, vU, []), (40, 67, 1, vU, [])]),
  (67, [(3, 0, 0, vU, []), (44, 80, 1, vU, []), (40, 71, 1, vU, [])]),
  (71, [(3, 0, 0, vU, []), (16, 0, 0, vU, []), (18, 30, 23, vU, []), (0, 0, 0, vI 1, []), (8, 1, 0, vU, []), (21, 30, 23, vU, []), (3, 0, 0, vU, []), (18, 30, 24, vU, []), (41, 1, 161, vU, []), (40, 88, 1, vU, [])]),
  (88, [(3, 0, 0, vU, []), (44, 79, 1, vU, []), (40, 161, 0, vU, [])]),
  (95, [(3, 0, 0, vU, []), (18, 30, 24, vU, []), (41, 1, 123, vU, []), (40, 102, 1, vU, [])]),
  (102, [(3, 0, 0, vU, []), (18, 30, 20, vU, []), (0, 0, 0, vI 2, []), (42, 1, 123, vU, []), (40, 110, 1, vU, [])]),
  (110, [(3, 0, 0, vU, []), (19, 30, 22, vU, []), (12, 0, 0, vU, []), (4, 1, 0, vU, []), (3, 0, 0, vU, []), (44, 79, 1, vU, []), (40, 161, 0, vU, [])]),
  (123, [(3, 0, 0, vU, []), (18, 30, 24, vU, []), (41, 1, 157, vU, []), (40, 130, 1, vU, [])]),
  (130, [(3, 0, 0, vU, []), (18, 30, 20, vU, []), (0, 0, 0, vI 1, []), (42, 1, 157, vU, []), (40, 138, 1, vU, [])]),
  (138, [(3, 0, 0, vU, []), (44, 85, 1, vU, []), (4, 1, 0, vU, []), (3, 0, 0, vU, []), (18, 30, 24, vU, []), (41, 1, 161, vU, []), (40, 150, 1, vU, [])]),
  (150, [(3, 0, 0, vU, []), (44, 79, 1, vU, []), (40, 161, 0, vU, [])]),
  (157, [(3, 0, 0, vU, []), (44, 80, 1, vU, []), (40, 161, 1, vU, [])]),
  (161, [(1, 1, 0, vU, []), (45, 1, 0, vU, [])])]
theorem e_M_atom3_J123 (v1 : Int32) (σ : Sg) : ab_ev tab_M_atom3 [(79, cp_M_next), (80, cp_M_fail), (83, cp_M_isSign), (84, cp_M_opens), (85, cp_M_name), (92, cp_M_atom4), (97, cp_M_either4)] [] finI 300 (ab_row tab_M_atom3 123) [(vR 30 0), (.inl v1)] [] σ = M_atom3_J123 v1 σ := rfl
theorem e_M_atom3_J71 (v1 : Int32) (σ : Sg) : ab_ev tab_M_atom3 [(79, cp_M_next), (80, cp_M_fail), (83, cp_M_isSign), (84, cp_M_opens), (85, cp_M_name), (92, cp_M_atom4), (97, cp_M_either4)] [] finI 300 (ab_row tab_M_atom3 71) [(vR 30 0), (.inl v1)] [] σ = M_atom3_J71 v1 σ := rfl
theorem e_M_atom3 (σ : Sg) : ab_ev tab_M_atom3 [(79, cp_M_next), (80, cp_M_fail), (83, cp_M_isSign), (84, cp_M_opens), (85, cp_M_name), (92, cp_M_atom4), (97, cp_M_either4)] [(71, kc_M_atom3_71 (M_atom3_J71)), (123, kc_M_atom3_123 (M_atom3_J123))] finI 300 (ab_row tab_M_atom3 0) [(vR 30 0), vU] [] σ = M_atom3  σ := rfl
def kc_M_term3_5 {R : Type} (c : Int32 → Sg → Option R) : ACut R := fun L st σ => match L, st with
  | [.inr (.inr (.inl (g1, i1))), .inl v1], [] => match Nat.beq g1 30 && Nat.beq i1 0 with
    | true => c v1 σ
    | false => none
  | _, _ => none
def tab_M_term3 : List (Nat × List AOp) := [(0, [(3, 0, 0, vU, []), (44, 98, 1, vU, []), (4, 1, 0, vU, []), (40, 5, 1, vU, [])]),
  (5, [(3, 0, 0, vU, []), (0, 0, 0, vI 42, []), (44, 83, 2, vU, []), (41, 0, 28, vU, []), (40, 14, 1, vU, [])]),
  (14, [(3, 0, 0, vU, []), (44, 79, 1, vU, []), (1, 1, 0, vU, []), (3, 0, 0, vU, []), (44, 98, 1, vU, []), (8, 2, 0, vU, []), (4, 1, 0, vU, []), (40, 5, 0, vU, [])]),
  (28, [(1, 1, 0, vU, []), (45, 1, 0, vU, [])])]
theorem e_M_term3_L5 (n : Nat) (v1 : Int32) (σ : Sg) : ab_ev tab_M_term3 [(79, cp_M_next), (83, cp_M_isSign), (98, cp_M_atom3)] [(5, kc_M_term3_5 (M_term3_L5 n))] finI 300 (ab_row tab_M_term3 5) [(vR 30 0), (.inl v1)] [] σ = M_term3_L5 (n + 1) v1 σ := rfl
theorem e_M_term3 (σ : Sg) : ab_ev tab_M_term3 [(79, cp_M_next), (83, cp_M_isSign), (98, cp_M_atom3)] [(5, kc_M_term3_5 (M_term3_L5 FU))] finI 300 (ab_row tab_M_term3 0) [(vR 30 0), vU] [] σ = M_term3  σ := rfl
def kc_M_added3_39 {R : Type} (c : Int32 → Int32 → Sg → Option R) : ACut R := fun L st σ => match L, st with
  | [.inr (.inr (.inl (g1, i1))), .inl v1, _, _], [.inl w0] => match Nat.beq g1 30 && Nat.beq i1 0 with
    | true => c v1 w0 σ
    | false => none
  | _, _ => none
def kc_M_added3_23 {R : Type} (c : Int32 → Sg → Option R) : ACut R := fun L st σ => match L, st with
  | [.inr (.inr (.inl (g1, i1))), .inl v1, _, _], [] => match Nat.beq g1 30 && Nat.beq i1 0 with
    | true => c v1 σ
    | false => none
  | _, _ => none
def kc_M_added3_5 {R : Type} (c : Int32 → Sg → Option R) : ACut R := fun L st σ => match L, st with
  | [.inr (.inr (.inl (g1, i1))), .inl v1, _, _], [] => match Nat.beq g1 30 && Nat.beq i1 0 with
    | true => c v1 σ
    | false => none
  | _, _ => none
def tab_M_added3 : List (Nat × List AOp) := [(0, [(3, 0, 0, vU, []), (44, 99, 1, vU, []), (4, 1, 0, vU, []), (40, 5, 1, vU, [])]),
  (5, [(3, 0, 0, vU, []), (0, 0, 0, vI 43, []), (44, 83, 2, vU, []), (41, 1, 23, vU, []), (40, 14, 1, vU, [])]),
  (14, [(3, 0, 0, vU, []), (0, 0, 0, vI 45, []), (44, 83, 2, vU, []), (41, 0, 66, vU, []), (40, 23, 1, vU, [])]),
  (23, [(3, 0, 0, vU, []), (19, 30, 22, vU, []), (0, 0, 0, vL 43, []), (15, 0, 0, vU, []), (41, 1, 38, vU, []), (40, 34, 1, vU, [])]),
  (34, [(0, 0, 0, vI 1, []), (40, 39, 0, vU, [])]),
  (38, [(0, 0, 0, vI 0, []), (40, 39, 1, vU, [])]),
  (39, [(4, 2, 0, vU, []), (3, 0, 0, vU, []), (44, 79, 1, vU, []), (3, 0, 0, vU, []), (44, 99, 1, vU, []), (4, 3, 0, vU, []), (1, 2, 0, vU, []), (41, 0, 59, vU, []), (40, 53, 1, vU, [])]),
  (53, [(1, 1, 0, vU, []), (1, 3, 0, vU, []), (8, 0, 0, vU, []), (40, 62, 0, vU, [])]),
  (59, [(1, 1, 0, vU, []), (1, 3, 0, vU, []), (8, 1, 0, vU, []), (40, 62, 1, vU, [])]),
  (62, [(4, 1, 0, vU, []), (40, 5, 0, vU, [])]),
  (66, [(1, 1, 0, vU, []), (45, 1, 0, vU, [])])]
theorem e_M_added3_J39 (k5 : Int32 → Sg → Option (Int32 × Sg)) (u2 u3 : AV) (v1 : Int32) (w0 : Int32) (σ : Sg) : ab_ev tab_M_added3 [(79, cp_M_next), (83, cp_M_isSign), (99, cp_M_term3)] [(5, kc_M_added3_5 k5)] finI 300 (ab_row tab_M_added3 39) [(vR 30 0), (.inl v1), u2, u3] [(.inl w0)] σ = M_added3_J39 k5 v1 w0 σ := rfl
theorem e_M_added3_J23 (k5 : Int32 → Sg → Option (Int32 × Sg)) (u2 u3 : AV) (v1 : Int32) (σ : Sg) : ab_ev tab_M_added3 [(79, cp_M_next), (83, cp_M_isSign), (99, cp_M_term3)] [(39, kc_M_added3_39 (M_added3_J39 k5))] finI 300 (ab_row tab_M_added3 23) [(vR 30 0), (.inl v1), u2, u3] [] σ = M_added3_J23 k5 v1 σ := rfl
theorem e_M_added3_L5 (n : Nat) (u2 u3 : AV) (v1 : Int32) (σ : Sg) : ab_ev tab_M_added3 [(79, cp_M_next), (83, cp_M_isSign), (99, cp_M_term3)] [(23, kc_M_added3_23 (M_added3_J23 (fun y0 τ => M_added3_L5 n y0 τ)))] finI 300 (ab_row tab_M_added3 5) [(vR 30 0), (.inl v1), u2, u3] [] σ = M_added3_L5 (n + 1) v1 σ := rfl
theorem e_M_added3 (σ : Sg) : ab_ev tab_M_added3 [(79, cp_M_next), (83, cp_M_isSign), (99, cp_M_term3)] [(5, kc_M_added3_5 (M_added3_L5 FU))] finI 300 (ab_row tab_M_added3 0) [(vR 30 0), vU, vU, vU] [] σ = M_added3  σ := rfl
def kc_M_not3_93 {R : Type} (c : Int32 → Int32 → Sg → Option R) : ACut R := fun L st σ => match L, st with
  | [.inr (.inr (.inl (g1, i1))), .inl v1, _, _], [.inl w0] => match Nat.beq g1 30 && Nat.beq i1 0 with
    | true => c v1 w0 σ
    | false => none
  | _, _ => none
def kc_M_not3_77 {R : Type} (c : Int32 → Sg → Option R) : ACut R := fun L st σ => match L, st with
  | [.inr (.inr (.inl (g1, i1))), .inl v1, _, _], [] => match Nat.beq g1 30 && Nat.beq i1 0 with
    | true => c v1 σ
    | false => none
  | _, _ => none
def tab_M_not3 : List (Nat × List AOp) := [(0, [(3, 0, 0, vU, []), (0, 0, 0, vI 110, []), (0, 0, 0, vI 111, []), (0, 0, 0, vI 116, []), (0, 0, 0, vI 0, []), (0, 0, 0, vI 0, []), (0, 0, 0, vI 0, []), (0, 0, 0, vI 0, []), (0, 0, 0, vI 0, []), (44, 82, 9, vU, []), (41, 0, 52, vU, []), (40, 18, 1, vU, [])]),
  (18, [(3, 0, 0, vU, []), (44, 84, 1, vU, []), (41, 1, 27, vU, []), (40, 25, 1, vU, [])]),
  (25, [(0, 0, 0, vI 0, []), (45, 1, 0, vU, [])]),
  (27, [(3, 0, 0, vU, []), (44, 95, 1, vU, []), (4, 1, 0, vU, []), (3, 0, 0, vU, []), (16, 0, 0, vU, []), (18, 30, 23, vU, []), (0, 0, 0, vI 1, []), (8, 1, 0, vU, []), (21, 30, 23, vU, []), (1, 1, 0, vU, []), (41, 1, 50, vU, []), (40, 46, 1, vU, [])]),
  (46, [(0, 0, 0, vI 1, []), (40, 51, 0, vU, [])]),
  (50, [(0, 0, 0, vI 0, []), (40, 51, 1, vU, [])]),
  (51, [(45, 1, 0, vU, [])]),
  (52, [(3, 0, 0, vU, []), (44, 100, 1, vU, []), (4, 1, 0, vU, []), (3, 0, 0, vU, []), (0, 0, 0, vI 60, []), (44, 83, 2, vU, []), (41, 1, 77, vU, []), (40, 66, 1, vU, [])]),
  (66, [(3, 0, 0, vU, []), (0, 0, 0, vI 61, []), (44, 83, 2, vU, []), (41, 1, 77, vU, []), (40, 75, 1, vU, [])]),
  (75, [(1, 1, 0, vU, []), (45, 1, 0, vU, [])]),
  (77, [(3, 0, 0, vU, []), (19, 30, 22, vU, []), (0, 0, 0, vL 60, []), (15, 0, 0, vU, []), (41, 1, 92, vU, []), (40, 88, 1, vU, [])]),
  (88, [(0, 0, 0, vI 1, []), (40, 93, 0, vU, [])]),
  (92, [(0, 0, 0, vI 0, []), (40, 93, 1, vU, [])]),
  (93, [(4, 2, 0, vU, []), (3, 0, 0, vU, []), (44, 79, 1, vU, []), (3, 0, 0, vU, []), (44, 100, 1, vU, []), (4, 3, 0, vU, []), (1, 2, 0, vU, []), (41, 0, 115, vU, []), (40, 107, 1, vU, [])]),
  (107, [(1, 1, 0, vU, []), (1, 3, 0, vU, []), (42, 3, 124, vU, []), (40, 112, 1, vU, [])]),
  (112, [(40, 120, 0, vU, [])]),
  (115, [(1, 1, 0, vU, []), (1, 3, 0, vU, []), (42, 1, 124, vU, []), (40, 120, 1, vU, [])]),
  (120, [(0, 0, 0, vI 1, []), (40, 125, 0, vU, [])]),
  (124, [(0, 0, 0, vI 0, []), (40, 125, 1, vU, [])]),
  (125, [(45, 1, 0, vU, [])])]
theorem e_M_not3_J93 (u2 u3 : AV) (v1 : Int32) (w0 : Int32) (σ : Sg) : ab_ev tab_M_not3 [(79, cp_M_next), (82, cp_M_isWord), (83, cp_M_isSign), (84, cp_M_opens), (95, cp_M_not4), (100, cp_M_added3)] [] finI 300 (ab_row tab_M_not3 93) [(vR 30 0), (.inl v1), u2, u3] [(.inl w0)] σ = M_not3_J93 v1 w0 σ := rfl
theorem e_M_not3_J77 (u2 u3 : AV) (v1 : Int32) (σ : Sg) : ab_ev tab_M_not3 [(79, cp_M_next), (82, cp_M_isWord), (83, cp_M_isSign), (84, cp_M_opens), (95, cp_M_not4), (100, cp_M_added3)] [(93, kc_M_not3_93 (M_not3_J93))] finI 300 (ab_row tab_M_not3 77) [(vR 30 0), (.inl v1), u2, u3] [] σ = M_not3_J77 v1 σ := rfl
theorem e_M_not3 (σ : Sg) : ab_ev tab_M_not3 [(79, cp_M_next), (82, cp_M_isWord), (83, cp_M_isSign), (84, cp_M_opens), (95, cp_M_not4), (100, cp_M_added3)] [(77, kc_M_not3_77 (M_not3_J77))] finI 300 (ab_row tab_M_not3 0) [(vR 30 0), vU, vU, vU] [] σ = M_not3  σ := rfl
def kc_M_both3_5 {R : Type} (c : Int32 → Sg → Option R) : ACut R := fun L st σ => match L, st with
  | [.inr (.inr (.inl (g1, i1))), .inl v1, _], [] => match Nat.beq g1 30 && Nat.beq i1 0 with
    | true => c v1 σ
    | false => none
  | _, _ => none
def tab_M_both3 : List (Nat × List AOp) := [(0, [(3, 0, 0, vU, []), (44, 101, 1, vU, []), (4, 1, 0, vU, []), (40, 5, 1, vU, [])]),
  (5, [(3, 0, 0, vU, []), (0, 0, 0, vI 97, []), (0, 0, 0, vI 110, []), (0, 0, 0, vI 100, []), (0, 0, 0, vI 0, []), (0, 0, 0, vI 0, []), (0, 0, 0, vI 0, []), (0, 0, 0, vI 0, []), (0, 0, 0, vI 0, []), (44, 82, 9, vU, []), (41, 0, 49, vU, []), (40, 23, 1, vU, [])]),
  (23, [(3, 0, 0, vU, []), (44, 79, 1, vU, []), (3, 0, 0, vU, []), (44, 101, 1, vU, []), (4, 2, 0, vU, []), (1, 1, 0, vU, []), (41, 0, 44, vU, []), (40, 36, 1, vU, [])]),
  (36, [(1, 2, 0, vU, []), (41, 0, 44, vU, []), (40, 40, 1, vU, [])]),
  (40, [(0, 0, 0, vI 1, []), (40, 45, 0, vU, [])]),
  (44, [(0, 0, 0, vI 0, []), (40, 45, 1, vU, [])]),
  (45, [(4, 1, 0, vU, []), (40, 5, 0, vU, [])]),
  (49, [(1, 1, 0, vU, []), (45, 1, 0, vU, [])])]
theorem e_M_both3_L5 (n : Nat) (u2 : AV) (v1 : Int32) (σ : Sg) : ab_ev tab_M_both3 [(79, cp_M_next), (82, cp_M_isWord), (101, cp_M_not3)] [(5, kc_M_both3_5 (M_both3_L5 n))] finI 300 (ab_row tab_M_both3 5) [(vR 30 0), (.inl v1), u2] [] σ = M_both3_L5 (n + 1) v1 σ := rfl
theorem e_M_both3 (σ : Sg) : ab_ev tab_M_both3 [(79, cp_M_next), (82, cp_M_isWord), (101, cp_M_not3)] [(5, kc_M_both3_5 (M_both3_L5 FU))] finI 300 (ab_row tab_M_both3 0) [(vR 30 0), vU, vU] [] σ = M_both3  σ := rfl
def kc_M_either3_5 {R : Type} (c : Int32 → Sg → Option R) : ACut R := fun L st σ => match L, st with
  | [.inr (.inr (.inl (g1, i1))), .inl v1, _], [] => match Nat.beq g1 30 && Nat.beq i1 0 with
    | true => c v1 σ
    | false => none
  | _, _ => none
def tab_M_either3 : List (Nat × List AOp) := [(0, [(3, 0, 0, vU, []), (44, 102, 1, vU, []), (4, 1, 0, vU, []), (40, 5, 1, vU, [])]),
  (5, [(3, 0, 0, vU, []), (0, 0, 0, vI 111, []), (0, 0, 0, vI 114, []), (0, 0, 0, vI 0, []), (0, 0, 0, vI 0, []), (0, 0, 0, vI 0, []), (0, 0, 0, vI 0, []), (0, 0, 0, vI 0, []), (0, 0, 0, vI 0, []), (44, 82, 9, vU, []), (41, 0, 48, vU, []), (40, 22, 1, vU, [])]),
  (22, [(3, 0, 0, vU, []), (44, 79, 1, vU, []), (3, 0, 0, vU, []), (44, 102, 1, vU, []), (4, 2, 0, vU, []), (1, 1, 0, vU, []), (41, 1, 39, vU, []), (40, 35, 1, vU, [])]),
  (35, [(1, 2, 0, vU, []), (41, 0, 43, vU, []), (40, 39, 1, vU, [])]),
  (39, [(0, 0, 0, vI 1, []), (40, 44, 0, vU, [])]),
  (43, [(0, 0, 0, vI 0, []), (40, 44, 1, vU, [])]),
  (44, [(4, 1, 0, vU, []), (40, 5, 0, vU, [])]),
  (48, [(1, 1, 0, vU, []), (45, 1, 0, vU, [])])]
theorem e_M_either3_L5 (n : Nat) (u2 : AV) (v1 : Int32) (σ : Sg) : ab_ev tab_M_either3 [(79, cp_M_next), (82, cp_M_isWord), (102, cp_M_both3)] [(5, kc_M_either3_5 (M_either3_L5 n))] finI 300 (ab_row tab_M_either3 5) [(vR 30 0), (.inl v1), u2] [] σ = M_either3_L5 (n + 1) v1 σ := rfl
theorem e_M_either3 (σ : Sg) : ab_ev tab_M_either3 [(79, cp_M_next), (82, cp_M_isWord), (102, cp_M_both3)] [(5, kc_M_either3_5 (M_either3_L5 FU))] finI 300 (ab_row tab_M_either3 0) [(vR 30 0), vU, vU] [] σ = M_either3  σ := rfl
def kc_M_atom2_123 {R : Type} (c : Int32 → Sg → Option R) : ACut R := fun L st σ => match L, st with
  | [.inr (.inr (.inl (g1, i1))), .inl v1], [] => match Nat.beq g1 30 && Nat.beq i1 0 with
    | true => c v1 σ
    | false => none
  | _, _ => none
def kc_M_atom2_71 {R : Type} (c : Int32 → Sg → Option R) : ACut R := fun L st σ => match L, st with
  | [.inr (.inr (.inl (g1, i1))), .inl v1], [] => match Nat.beq g1 30 && Nat.beq i1 0 with
    | true => c v1 σ
    | false => none
  | _, _ => none
def tab_M_atom2 : List (Nat × List AOp) := [(0, [(0, 0, 0, vI 0, []), (4, 1, 0, vU, []), (3, 0, 0, vU, []), (0, 0, 0, vI 45, []), (44, 83, 2, vU, []), (41, 0, 37, vU, []), (40, 11, 1, vU, [])]),
  (11, [(3, 0, 0, vU, []), (44, 84, 1, vU, []), (41, 0, 161, vU, []), (40, 18, 1, vU, [])]),
  (18, [(3, 0, 0, vU, []), (44, 98, 1, vU, []), (10, 0, 0, vU, []), (4, 1, 0, vU, []), (3, 0, 0, vU, []), (16, 0, 0, vU, []), (18, 30, 23, vU, []), (0, 0, 0, vI 1, []), (8, 1, 0, vU, []), (21, 30, 23, vU, []), (40, 161, 0, vU, [])]),
  (37, [(3, 0, 0, vU, []), (0, 0, 0, vI 40, []), (44, 83, 2, vU, []), (41, 0, 95, vU, []), (40, 46, 1, vU, [])]),
  (46, [(3, 0, 0, vU, []), (44, 84, 1, vU, []), (41, 0, 161, vU, []), (40, 53, 1, vU, [])]),
  (53, [(3, 0, 0, vU, []), (44, 103, 1, vU, []), (4, 1, 0, vU, []), (3, 0, 0, vU, []), (0, 0, 0, vI 41, []), (44, 83, 2, vU, []), (41, 1, 71, vU, []), (40, 67, 1, vU, [])]),
  (67, [(3, 0, 0, vU, []), (44, 80, 1, vU, []), (40, 71, 1, vU, [])]),
  (71, [(3, 0, 0, vU, []), (16, 0, 0, vU, []), (18, 30, 23, vU, []), (0, 0, 0, vI 1, []), (8, 1, 0, vU, []), (21, 30, 23, vU, []), (3, 0, 0, vU, []), (18, 30, 24, vU, []), (41, 1, 161, vU, []), (40, 88, 1, vU, [])]),
  (88, [(3, 0, 0, vU, []), (44, 79, 1, vU, []), (40, 161, 0, vU, [])]),
  (95, [(3, 0, 0, vU, []), (18, 30, 24, vU, []), (41, 1, 123, vU, []), (40, 102, 1, vU, [])]),
  (102, [(3, 0, 0, vU, []), (18, 30, 20, vU, []), (0, 0, 0, vI 2, []), (42, 1, 123, vU, []), (40, 110, 1, vU, [])]),
  (110, [(3, 0, 0, vU, []), (19, 30, 22, vU, []), (12, 0, 0, vU, []), (4, 1, 0, vU, []), (3, 0, 0, vU, []), (44, 79, 1, vU, []), (40, 161, 0, vU, [])]),
  (123, [(3, 0, 0, vU, []), (18, 30, 24, vU, []), (41, 1, 157, vU, []), (40, 130, 1, vU, [])]),
  (130, [(3, 0, 0, vU, []), (18, 30, 20, vU, []), (0, 0, 0, vI 1, []), (42, 1, 157, vU, []), (40, 138, 1, vU, [])]),
  (138, [(3, 0, 0, vU, []), (44, 85, 1, vU, []), (4, 1, 0, vU, []), (3, 0, 0, vU, []), (18, 30, 24, vU, []), (41, 1, 161, vU, []), (40, 150, 1, vU, [])]),
  (150, [(3, 0, 0, vU, []), (44, 79, 1, vU, []), (40, 161, 0, vU, [])]),
  (157, [(3, 0, 0, vU, []), (44, 80, 1, vU, []), (40, 161, 1, vU, [])]),
  (161, [(1, 1, 0, vU, []), (45, 1, 0, vU, [])])]
theorem e_M_atom2_J123 (v1 : Int32) (σ : Sg) : ab_ev tab_M_atom2 [(79, cp_M_next), (80, cp_M_fail), (83, cp_M_isSign), (84, cp_M_opens), (85, cp_M_name), (98, cp_M_atom3), (103, cp_M_either3)] [] finI 300 (ab_row tab_M_atom2 123) [(vR 30 0), (.inl v1)] [] σ = M_atom2_J123 v1 σ := rfl
theorem e_M_atom2_J71 (v1 : Int32) (σ : Sg) : ab_ev tab_M_atom2 [(79, cp_M_next), (80, cp_M_fail), (83, cp_M_isSign), (84, cp_M_opens), (85, cp_M_name), (98, cp_M_atom3), (103, cp_M_either3)] [] finI 300 (ab_row tab_M_atom2 71) [(vR 30 0), (.inl v1)] [] σ = M_atom2_J71 v1 σ := rfl
theorem e_M_atom2 (σ : Sg) : ab_ev tab_M_atom2 [(79, cp_M_next), (80, cp_M_fail), (83, cp_M_isSign), (84, cp_M_opens), (85, cp_M_name), (98, cp_M_atom3), (103, cp_M_either3)] [(71, kc_M_atom2_71 (M_atom2_J71)), (123, kc_M_atom2_123 (M_atom2_J123))] finI 300 (ab_row tab_M_atom2 0) [(vR 30 0), vU] [] σ = M_atom2  σ := rfl
def kc_M_term2_5 {R : Type} (c : Int32 → Sg → Option R) : ACut R := fun L st σ => match L, st with
  | [.inr (.inr (.inl (g1, i1))), .inl v1], [] => match Nat.beq g1 30 && Nat.beq i1 0 with
    | true => c v1 σ
    | false => none
  | _, _ => none
def tab_M_term2 : List (Nat × List AOp) := [(0, [(3, 0, 0, vU, []), (44, 104, 1, vU, []), (4, 1, 0, vU, []), (40, 5, 1, vU, [])]),
  (5, [(3, 0, 0, vU, []), (0, 0, 0, vI 42, []), (44, 83, 2, vU, []), (41, 0, 28, vU, []), (40, 14, 1, vU, [])]),
  (14, [(3, 0, 0, vU, []), (44, 79, 1, vU, []), (1, 1, 0, vU, []), (3, 0, 0, vU, []), (44, 104, 1, vU, []), (8, 2, 0, vU, []), (4, 1, 0, vU, []), (40, 5, 0, vU, [])]),
  (28, [(1, 1, 0, vU, []), (45, 1, 0, vU, [])])]
theorem e_M_term2_L5 (n : Nat) (v1 : Int32) (σ : Sg) : ab_ev tab_M_term2 [(79, cp_M_next), (83, cp_M_isSign), (104, cp_M_atom2)] [(5, kc_M_term2_5 (M_term2_L5 n))] finI 300 (ab_row tab_M_term2 5) [(vR 30 0), (.inl v1)] [] σ = M_term2_L5 (n + 1) v1 σ := rfl
theorem e_M_term2 (σ : Sg) : ab_ev tab_M_term2 [(79, cp_M_next), (83, cp_M_isSign), (104, cp_M_atom2)] [(5, kc_M_term2_5 (M_term2_L5 FU))] finI 300 (ab_row tab_M_term2 0) [(vR 30 0), vU] [] σ = M_term2  σ := rfl
def kc_M_added2_39 {R : Type} (c : Int32 → Int32 → Sg → Option R) : ACut R := fun L st σ => match L, st with
  | [.inr (.inr (.inl (g1, i1))), .inl v1, _, _], [.inl w0] => match Nat.beq g1 30 && Nat.beq i1 0 with
    | true => c v1 w0 σ
    | false => none
  | _, _ => none
def kc_M_added2_23 {R : Type} (c : Int32 → Sg → Option R) : ACut R := fun L st σ => match L, st with
  | [.inr (.inr (.inl (g1, i1))), .inl v1, _, _], [] => match Nat.beq g1 30 && Nat.beq i1 0 with
    | true => c v1 σ
    | false => none
  | _, _ => none
def kc_M_added2_5 {R : Type} (c : Int32 → Sg → Option R) : ACut R := fun L st σ => match L, st with
  | [.inr (.inr (.inl (g1, i1))), .inl v1, _, _], [] => match Nat.beq g1 30 && Nat.beq i1 0 with
    | true => c v1 σ
    | false => none
  | _, _ => none
def tab_M_added2 : List (Nat × List AOp) := [(0, [(3, 0, 0, vU, []), (44, 105, 1, vU, []), (4, 1, 0, vU, []), (40, 5, 1, vU, [])]),
  (5, [(3, 0, 0, vU, []), (0, 0, 0, vI 43, []), (44, 83, 2, vU, []), (41, 1, 23, vU, []), (40, 14, 1, vU, [])]),
  (14, [(3, 0, 0, vU, []), (0, 0, 0, vI 45, []), (44, 83, 2, vU, []), (41, 0, 66, vU, []), (40, 23, 1, vU, [])]),
  (23, [(3, 0, 0, vU, []), (19, 30, 22, vU, []), (0, 0, 0, vL 43, []), (15, 0, 0, vU, []), (41, 1, 38, vU, []), (40, 34, 1, vU, [])]),
  (34, [(0, 0, 0, vI 1, []), (40, 39, 0, vU, [])]),
  (38, [(0, 0, 0, vI 0, []), (40, 39, 1, vU, [])]),
  (39, [(4, 2, 0, vU, []), (3, 0, 0, vU, []), (44, 79, 1, vU, []), (3, 0, 0, vU, []), (44, 105, 1, vU, []), (4, 3, 0, vU, []), (1, 2, 0, vU, []), (41, 0, 59, vU, []), (40, 53, 1, vU, [])]),
  (53, [(1, 1, 0, vU, []), (1, 3, 0, vU, []), (8, 0, 0, vU, []), (40, 62, 0, vU, [])]),
  (59, [(1, 1, 0, vU, []), (1, 3, 0, vU, []), (8, 1, 0, vU, []), (40, 62, 1, vU, [])]),
  (62, [(4, 1, 0, vU, []), (40, 5, 0, vU, [])]),
  (66, [(1, 1, 0, vU, []), (45, 1, 0, vU, [])])]
theorem e_M_added2_J39 (k5 : Int32 → Sg → Option (Int32 × Sg)) (u2 u3 : AV) (v1 : Int32) (w0 : Int32) (σ : Sg) : ab_ev tab_M_added2 [(79, cp_M_next), (83, cp_M_isSign), (105, cp_M_term2)] [(5, kc_M_added2_5 k5)] finI 300 (ab_row tab_M_added2 39) [(vR 30 0), (.inl v1), u2, u3] [(.inl w0)] σ = M_added2_J39 k5 v1 w0 σ := rfl
theorem e_M_added2_J23 (k5 : Int32 → Sg → Option (Int32 × Sg)) (u2 u3 : AV) (v1 : Int32) (σ : Sg) : ab_ev tab_M_added2 [(79, cp_M_next), (83, cp_M_isSign), (105, cp_M_term2)] [(39, kc_M_added2_39 (M_added2_J39 k5))] finI 300 (ab_row tab_M_added2 23) [(vR 30 0), (.inl v1), u2, u3] [] σ = M_added2_J23 k5 v1 σ := rfl
theorem e_M_added2_L5 (n : Nat) (u2 u3 : AV) (v1 : Int32) (σ : Sg) : ab_ev tab_M_added2 [(79, cp_M_next), (83, cp_M_isSign), (105, cp_M_term2)] [(23, kc_M_added2_23 (M_added2_J23 (fun y0 τ => M_added2_L5 n y0 τ)))] finI 300 (ab_row tab_M_added2 5) [(vR 30 0), (.inl v1), u2, u3] [] σ = M_added2_L5 (n + 1) v1 σ := rfl
theorem e_M_added2 (σ : Sg) : ab_ev tab_M_added2 [(79, cp_M_next), (83, cp_M_isSign), (105, cp_M_term2)] [(5, kc_M_added2_5 (M_added2_L5 FU))] finI 300 (ab_row tab_M_added2 0) [(vR 30 0), vU, vU, vU] [] σ = M_added2  σ := rfl
def kc_M_not2_93 {R : Type} (c : Int32 → Int32 → Sg → Option R) : ACut R := fun L st σ => match L, st with
  | [.inr (.inr (.inl (g1, i1))), .inl v1, _, _], [.inl w0] => match Nat.beq g1 30 && Nat.beq i1 0 with
    | true => c v1 w0 σ
    | false => none
  | _, _ => none
def kc_M_not2_77 {R : Type} (c : Int32 → Sg → Option R) : ACut R := fun L st σ => match L, st with
  | [.inr (.inr (.inl (g1, i1))), .inl v1, _, _], [] => match Nat.beq g1 30 && Nat.beq i1 0 with
    | true => c v1 σ
    | false => none
  | _, _ => none
def tab_M_not2 : List (Nat × List AOp) := [(0, [(3, 0, 0, vU, []), (0, 0, 0, vI 110, []), (0, 0, 0, vI 111, []), (0, 0, 0, vI 116, []), (0, 0, 0, vI 0, []), (0, 0, 0, vI 0, []), (0, 0, 0, vI 0, []), (0, 0, 0, vI 0, []), (0, 0, 0, vI 0, []), (44, 82, 9, vU, []), (41, 0, 52, vU, []), (40, 18, 1, vU, [])]),
  (18, [(3, 0, 0, vU, []), (44, 84, 1, vU, []), (41, 1, 27, vU, []), (40, 25, 1, vU, [])]),
  (25, [(0, 0, 0, vI 0, []), (45, 1, 0, vU, [])]),
  (27, [(3, 0, 0, vU, []), (44, 101, 1, vU, []), (4, 1, 0, vU, []), (3, 0, 0, vU, []), (16, 0, 0, vU, []), (18, 30, 23, vU, []), (0, 0, 0, vI 1, []), (8, 1, 0, vU, []), (21, 30, 23, vU, []), (1, 1, 0, vU, []), (41, 1, 50, vU, []), (40, 46, 1, vU, [])]),
  (46, [(0, 0, 0, vI 1, []), (40, 51, 0, vU, [])]),
  (50, [(0, 0, 0, vI 0, []), (40, 51, 1, vU, [])]),
  (51, [(45, 1, 0, vU, [])]),
  (52, [(3, 0, 0, vU, []), (44, 106, 1, vU, []), (4, 1, 0, vU, []), (3, 0, 0, vU, []), (0, 0, 0, vI 60, []), (44, 83, 2, vU, []), (41, 1, 77, vU, []), (40, 66, 1, vU, [])]),
  (66, [(3, 0, 0, vU, []), (0, 0, 0, vI 61, []), (44, 83, 2, vU, []), (41, 1, 77, vU, []), (40, 75, 1, vU, [])]),
  (75, [(1, 1, 0, vU, []), (45, 1, 0, vU, [])]),
  (77, [(3, 0, 0, vU, []), (19, 30, 22, vU, []), (0, 0, 0, vL 60, []), (15, 0, 0, vU, []), (41, 1, 92, vU, []), (40, 88, 1, vU, [])]),
  (88, [(0, 0, 0, vI 1, []), (40, 93, 0, vU, [])]),
  (92, [(0, 0, 0, vI 0, []), (40, 93, 1, vU, [])]),
  (93, [(4, 2, 0, vU, []), (3, 0, 0, vU, []), (44, 79, 1, vU, []), (3, 0, 0, vU, []), (44, 106, 1, vU, []), (4, 3, 0, vU, []), (1, 2, 0, vU, []), (41, 0, 115, vU, []), (40, 107, 1, vU, [])]),
  (107, [(1, 1, 0, vU, []), (1, 3, 0, vU, []), (42, 3, 124, vU, []), (40, 112, 1, vU, [])]),
  (112, [(40, 120, 0, vU, [])]),
  (115, [(1, 1, 0, vU, []), (1, 3, 0, vU, []), (42, 1, 124, vU, []), (40, 120, 1, vU, [])]),
  (120, [(0, 0, 0, vI 1, []), (40, 125, 0, vU, [])]),
  (124, [(0, 0, 0, vI 0, []), (40, 125, 1, vU, [])]),
  (125, [(45, 1, 0, vU, [])])]
theorem e_M_not2_J93 (u2 u3 : AV) (v1 : Int32) (w0 : Int32) (σ : Sg) : ab_ev tab_M_not2 [(79, cp_M_next), (82, cp_M_isWord), (83, cp_M_isSign), (84, cp_M_opens), (101, cp_M_not3), (106, cp_M_added2)] [] finI 300 (ab_row tab_M_not2 93) [(vR 30 0), (.inl v1), u2, u3] [(.inl w0)] σ = M_not2_J93 v1 w0 σ := rfl
theorem e_M_not2_J77 (u2 u3 : AV) (v1 : Int32) (σ : Sg) : ab_ev tab_M_not2 [(79, cp_M_next), (82, cp_M_isWord), (83, cp_M_isSign), (84, cp_M_opens), (101, cp_M_not3), (106, cp_M_added2)] [(93, kc_M_not2_93 (M_not2_J93))] finI 300 (ab_row tab_M_not2 77) [(vR 30 0), (.inl v1), u2, u3] [] σ = M_not2_J77 v1 σ := rfl
theorem e_M_not2 (σ : Sg) : ab_ev tab_M_not2 [(79, cp_M_next), (82, cp_M_isWord), (83, cp_M_isSign), (84, cp_M_opens), (101, cp_M_not3), (106, cp_M_added2)] [(77, kc_M_not2_77 (M_not2_J77))] finI 300 (ab_row tab_M_not2 0) [(vR 30 0), vU, vU, vU] [] σ = M_not2  σ := rfl
def kc_M_both2_5 {R : Type} (c : Int32 → Sg → Option R) : ACut R := fun L st σ => match L, st with
  | [.inr (.inr (.inl (g1, i1))), .inl v1, _], [] => match Nat.beq g1 30 && Nat.beq i1 0 with
    | true => c v1 σ
    | false => none
  | _, _ => none
def tab_M_both2 : List (Nat × List AOp) := [(0, [(3, 0, 0, vU, []), (44, 107, 1, vU, []), (4, 1, 0, vU, []), (40, 5, 1, vU, [])]),
  (5, [(3, 0, 0, vU, []), (0, 0, 0, vI 97, []), (0, 0, 0, vI 110, []), (0, 0, 0, vI 100, []), (0, 0, 0, vI 0, []), (0, 0, 0, vI 0, []), (0, 0, 0, vI 0, []), (0, 0, 0, vI 0, []), (0, 0, 0, vI 0, []), (44, 82, 9, vU, []), (41, 0, 49, vU, []), (40, 23, 1, vU, [])]),
  (23, [(3, 0, 0, vU, []), (44, 79, 1, vU, []), (3, 0, 0, vU, []), (44, 107, 1, vU, []), (4, 2, 0, vU, []), (1, 1, 0, vU, []), (41, 0, 44, vU, []), (40, 36, 1, vU, [])]),
  (36, [(1, 2, 0, vU, []), (41, 0, 44, vU, []), (40, 40, 1, vU, [])]),
  (40, [(0, 0, 0, vI 1, []), (40, 45, 0, vU, [])]),
  (44, [(0, 0, 0, vI 0, []), (40, 45, 1, vU, [])]),
  (45, [(4, 1, 0, vU, []), (40, 5, 0, vU, [])]),
  (49, [(1, 1, 0, vU, []), (45, 1, 0, vU, [])])]
theorem e_M_both2_L5 (n : Nat) (u2 : AV) (v1 : Int32) (σ : Sg) : ab_ev tab_M_both2 [(79, cp_M_next), (82, cp_M_isWord), (107, cp_M_not2)] [(5, kc_M_both2_5 (M_both2_L5 n))] finI 300 (ab_row tab_M_both2 5) [(vR 30 0), (.inl v1), u2] [] σ = M_both2_L5 (n + 1) v1 σ := rfl
theorem e_M_both2 (σ : Sg) : ab_ev tab_M_both2 [(79, cp_M_next), (82, cp_M_isWord), (107, cp_M_not2)] [(5, kc_M_both2_5 (M_both2_L5 FU))] finI 300 (ab_row tab_M_both2 0) [(vR 30 0), vU, vU] [] σ = M_both2  σ := rfl
def kc_M_either2_5 {R : Type} (c : Int32 → Sg → Option R) : ACut R := fun L st σ => match L, st with
  | [.inr (.inr (.inl (g1, i1))), .inl v1, _], [] => match Nat.beq g1 30 && Nat.beq i1 0 with
    | true => c v1 σ
    | false => none
  | _, _ => none
def tab_M_either2 : List (Nat × List AOp) := [(0, [(3, 0, 0, vU, []), (44, 108, 1, vU, []), (4, 1, 0, vU, []), (40, 5, 1, vU, [])]),
  (5, [(3, 0, 0, vU, []), (0, 0, 0, vI 111, []), (0, 0, 0, vI 114, []), (0, 0, 0, vI 0, []), (0, 0, 0, vI 0, []), (0, 0, 0, vI 0, []), (0, 0, 0, vI 0, []), (0, 0, 0, vI 0, []), (0, 0, 0, vI 0, []), (44, 82, 9, vU, []), (41, 0, 48, vU, []), (40, 22, 1, vU, [])]),
  (22, [(3, 0, 0, vU, []), (44, 79, 1, vU, []), (3, 0, 0, vU, []), (44, 108, 1, vU, []), (4, 2, 0, vU, []), (1, 1, 0, vU, []), (41, 1, 39, vU, []), (40, 35, 1, vU, [])]),
  (35, [(1, 2, 0, vU, []), (41, 0, 43, vU, []), (40, 39, 1, vU, [])]),
  (39, [(0, 0, 0, vI 1, []), (40, 44, 0, vU, [])]),
  (43, [(0, 0, 0, vI 0, []), (40, 44, 1, vU, [])]),
  (44, [(4, 1, 0, vU, []), (40, 5, 0, vU, [])]),
  (48, [(1, 1, 0, vU, []), (45, 1, 0, vU, [])])]
theorem e_M_either2_L5 (n : Nat) (u2 : AV) (v1 : Int32) (σ : Sg) : ab_ev tab_M_either2 [(79, cp_M_next), (82, cp_M_isWord), (108, cp_M_both2)] [(5, kc_M_either2_5 (M_either2_L5 n))] finI 300 (ab_row tab_M_either2 5) [(vR 30 0), (.inl v1), u2] [] σ = M_either2_L5 (n + 1) v1 σ := rfl
theorem e_M_either2 (σ : Sg) : ab_ev tab_M_either2 [(79, cp_M_next), (82, cp_M_isWord), (108, cp_M_both2)] [(5, kc_M_either2_5 (M_either2_L5 FU))] finI 300 (ab_row tab_M_either2 0) [(vR 30 0), vU, vU] [] σ = M_either2  σ := rfl
def kc_M_atom1_123 {R : Type} (c : Int32 → Sg → Option R) : ACut R := fun L st σ => match L, st with
  | [.inr (.inr (.inl (g1, i1))), .inl v1], [] => match Nat.beq g1 30 && Nat.beq i1 0 with
    | true => c v1 σ
    | false => none
  | _, _ => none
def kc_M_atom1_71 {R : Type} (c : Int32 → Sg → Option R) : ACut R := fun L st σ => match L, st with
  | [.inr (.inr (.inl (g1, i1))), .inl v1], [] => match Nat.beq g1 30 && Nat.beq i1 0 with
    | true => c v1 σ
    | false => none
  | _, _ => none
def tab_M_atom1 : List (Nat × List AOp) := [(0, [(0, 0, 0, vI 0, []), (4, 1, 0, vU, []), (3, 0, 0, vU, []), (0, 0, 0, vI 45, []), (44, 83, 2, vU, []), (41, 0, 37, vU, []), (40, 11, 1, vU, [])]),
  (11, [(3, 0, 0, vU, []), (44, 84, 1, vU, []), (41, 0, 161, vU, []), (40, 18, 1, vU, [])]),
  (18, [(3, 0, 0, vU, []), (44, 104, 1, vU, []), (10, 0, 0, vU, []), (4, 1, 0, vU, []), (3, 0, 0, vU, []), (16, 0, 0, vU, []), (18, 30, 23, vU, []), (0, 0, 0, vI 1, []), (8, 1, 0, vU, []), (21, 30, 23, vU, []), (40, 161, 0, vU, [])]),
  (37, [(3, 0, 0, vU, []), (0, 0, 0, vI 40, []), (44, 83, 2, vU, []), (41, 0, 95, vU, []), (40, 46, 1, vU, [])]),
  (46, [(3, 0, 0, vU, []), (44, 84, 1, vU, []), (41, 0, 161, vU, []), (40, 53, 1, vU, [])]),
  (53, [(3, 0, 0, vU, []), (44, 109, 1, vU, []), (4, 1, 0, vU, []), (3, 0, 0, vU, []), (0, 0, 0, vI 41, []), (44, 83, 2, vU, []), (41, 1, 71, vU, []), (40, 67, 1, vU, [])]),
  (67, [(3, 0, 0, vU, []), (44, 80, 1, vU, []), (40, 71, 1, vU, [])]),
  (71, [(3, 0, 0, vU, []), (16, 0, 0, vU, []), (18, 30, 23, vU, []), (0, 0, 0, vI 1, []), (8, 1, 0, vU, []), (21, 30, 23, vU, []), (3, 0, 0, vU, []), (18, 30, 24, vU, []), (41, 1, 161, vU, []), (40, 88, 1, vU, [])]),
  (88, [(3, 0, 0, vU, []), (44, 79, 1, vU, []), (40, 161, 0, vU, [])]),
  (95, [(3, 0, 0, vU, []), (18, 30, 24, vU, []), (41, 1, 123, vU, []), (40, 102, 1, vU, [])]),
  (102, [(3, 0, 0, vU, []), (18, 30, 20, vU, []), (0, 0, 0, vI 2, []), (42, 1, 123, vU, []), (40, 110, 1, vU, [])]),
  (110, [(3, 0, 0, vU, []), (19, 30, 22, vU, []), (12, 0, 0, vU, []), (4, 1, 0, vU, []), (3, 0, 0, vU, []), (44, 79, 1, vU, []), (40, 161, 0, vU, [])]),
  (123, [(3, 0, 0, vU, []), (18, 30, 24, vU, []), (41, 1, 157, vU, []), (40, 130, 1, vU, [])]),
  (130, [(3, 0, 0, vU, []), (18, 30, 20, vU, []), (0, 0, 0, vI 1, []), (42, 1, 157, vU, []), (40, 138, 1, vU, [])]),
  (138, [(3, 0, 0, vU, []), (44, 85, 1, vU, []), (4, 1, 0, vU, []), (3, 0, 0, vU, []), (18, 30, 24, vU, []), (41, 1, 161, vU, []), (40, 150, 1, vU, [])]),
  (150, [(3, 0, 0, vU, []), (44, 79, 1, vU, []), (40, 161, 0, vU, [])]),
  (157, [(3, 0, 0, vU, []), (44, 80, 1, vU, []), (40, 161, 1, vU, [])]),
  (161, [(1, 1, 0, vU, []), (45, 1, 0, vU, [])])]
theorem e_M_atom1_J123 (v1 : Int32) (σ : Sg) : ab_ev tab_M_atom1 [(79, cp_M_next), (80, cp_M_fail), (83, cp_M_isSign), (84, cp_M_opens), (85, cp_M_name), (104, cp_M_atom2), (109, cp_M_either2)] [] finI 300 (ab_row tab_M_atom1 123) [(vR 30 0), (.inl v1)] [] σ = M_atom1_J123 v1 σ := rfl
theorem e_M_atom1_J71 (v1 : Int32) (σ : Sg) : ab_ev tab_M_atom1 [(79, cp_M_next), (80, cp_M_fail), (83, cp_M_isSign), (84, cp_M_opens), (85, cp_M_name), (104, cp_M_atom2), (109, cp_M_either2)] [] finI 300 (ab_row tab_M_atom1 71) [(vR 30 0), (.inl v1)] [] σ = M_atom1_J71 v1 σ := rfl
theorem e_M_atom1 (σ : Sg) : ab_ev tab_M_atom1 [(79, cp_M_next), (80, cp_M_fail), (83, cp_M_isSign), (84, cp_M_opens), (85, cp_M_name), (104, cp_M_atom2), (109, cp_M_either2)] [(71, kc_M_atom1_71 (M_atom1_J71)), (123, kc_M_atom1_123 (M_atom1_J123))] finI 300 (ab_row tab_M_atom1 0) [(vR 30 0), vU] [] σ = M_atom1  σ := rfl
def kc_M_term1_5 {R : Type} (c : Int32 → Sg → Option R) : ACut R := fun L st σ => match L, st with
  | [.inr (.inr (.inl (g1, i1))), .inl v1], [] => match Nat.beq g1 30 && Nat.beq i1 0 with
    | true => c v1 σ
    | false => none
  | _, _ => none
def tab_M_term1 : List (Nat × List AOp) := [(0, [(3, 0, 0, vU, []), (44, 110, 1, vU, []), (4, 1, 0, vU, []), (40, 5, 1, vU, [])]),
  (5, [(3, 0, 0, vU, []), (0, 0, 0, vI 42, []), (44, 83, 2, vU, []), (41, 0, 28, vU, []), (40, 14, 1, vU, [])]),
  (14, [(3, 0, 0, vU, []), (44, 79, 1, vU, []), (1, 1, 0, vU, []), (3, 0, 0, vU, []), (44, 110, 1, vU, []), (8, 2, 0, vU, []), (4, 1, 0, vU, []), (40, 5, 0, vU, [])]),
  (28, [(1, 1, 0, vU, []), (45, 1, 0, vU, [])])]
theorem e_M_term1_L5 (n : Nat) (v1 : Int32) (σ : Sg) : ab_ev tab_M_term1 [(79, cp_M_next), (83, cp_M_isSign), (110, cp_M_atom1)] [(5, kc_M_term1_5 (M_term1_L5 n))] finI 300 (ab_row tab_M_term1 5) [(vR 30 0), (.inl v1)] [] σ = M_term1_L5 (n + 1) v1 σ := rfl
theorem e_M_term1 (σ : Sg) : ab_ev tab_M_term1 [(79, cp_M_next), (83, cp_M_isSign), (110, cp_M_atom1)] [(5, kc_M_term1_5 (M_term1_L5 FU))] finI 300 (ab_row tab_M_term1 0) [(vR 30 0), vU] [] σ = M_term1  σ := rfl
def kc_M_added1_39 {R : Type} (c : Int32 → Int32 → Sg → Option R) : ACut R := fun L st σ => match L, st with
  | [.inr (.inr (.inl (g1, i1))), .inl v1, _, _], [.inl w0] => match Nat.beq g1 30 && Nat.beq i1 0 with
    | true => c v1 w0 σ
    | false => none
  | _, _ => none
def kc_M_added1_23 {R : Type} (c : Int32 → Sg → Option R) : ACut R := fun L st σ => match L, st with
  | [.inr (.inr (.inl (g1, i1))), .inl v1, _, _], [] => match Nat.beq g1 30 && Nat.beq i1 0 with
    | true => c v1 σ
    | false => none
  | _, _ => none
def kc_M_added1_5 {R : Type} (c : Int32 → Sg → Option R) : ACut R := fun L st σ => match L, st with
  | [.inr (.inr (.inl (g1, i1))), .inl v1, _, _], [] => match Nat.beq g1 30 && Nat.beq i1 0 with
    | true => c v1 σ
    | false => none
  | _, _ => none
def tab_M_added1 : List (Nat × List AOp) := [(0, [(3, 0, 0, vU, []), (44, 111, 1, vU, []), (4, 1, 0, vU, []), (40, 5, 1, vU, [])]),
  (5, [(3, 0, 0, vU, []), (0, 0, 0, vI 43, []), (44, 83, 2, vU, []), (41, 1, 23, vU, []), (40, 14, 1, vU, [])]),
  (14, [(3, 0, 0, vU, []), (0, 0, 0, vI 45, []), (44, 83, 2, vU, []), (41, 0, 66, vU, []), (40, 23, 1, vU, [])]),
  (23, [(3, 0, 0, vU, []), (19, 30, 22, vU, []), (0, 0, 0, vL 43, []), (15, 0, 0, vU, []), (41, 1, 38, vU, []), (40, 34, 1, vU, [])]),
  (34, [(0, 0, 0, vI 1, []), (40, 39, 0, vU, [])]),
  (38, [(0, 0, 0, vI 0, []), (40, 39, 1, vU, [])]),
  (39, [(4, 2, 0, vU, []), (3, 0, 0, vU, []), (44, 79, 1, vU, []), (3, 0, 0, vU, []), (44, 111, 1, vU, []), (4, 3, 0, vU, []), (1, 2, 0, vU, []), (41, 0, 59, vU, []), (40, 53, 1, vU, [])]),
  (53, [(1, 1, 0, vU, []), (1, 3, 0, vU, []), (8, 0, 0, vU, []), (40, 62, 0, vU, [])]),
  (59, [(1, 1, 0, vU, []), (1, 3, 0, vU, []), (8, 1, 0, vU, []), (40, 62, 1, vU, [])]),
  (62, [(4, 1, 0, vU, []), (40, 5, 0, vU, [])]),
  (66, [(1, 1, 0, vU, []), (45, 1, 0, vU, [])])]
theorem e_M_added1_J39 (k5 : Int32 → Sg → Option (Int32 × Sg)) (u2 u3 : AV) (v1 : Int32) (w0 : Int32) (σ : Sg) : ab_ev tab_M_added1 [(79, cp_M_next), (83, cp_M_isSign), (111, cp_M_term1)] [(5, kc_M_added1_5 k5)] finI 300 (ab_row tab_M_added1 39) [(vR 30 0), (.inl v1), u2, u3] [(.inl w0)] σ = M_added1_J39 k5 v1 w0 σ := rfl
theorem e_M_added1_J23 (k5 : Int32 → Sg → Option (Int32 × Sg)) (u2 u3 : AV) (v1 : Int32) (σ : Sg) : ab_ev tab_M_added1 [(79, cp_M_next), (83, cp_M_isSign), (111, cp_M_term1)] [(39, kc_M_added1_39 (M_added1_J39 k5))] finI 300 (ab_row tab_M_added1 23) [(vR 30 0), (.inl v1), u2, u3] [] σ = M_added1_J23 k5 v1 σ := rfl
theorem e_M_added1_L5 (n : Nat) (u2 u3 : AV) (v1 : Int32) (σ : Sg) : ab_ev tab_M_added1 [(79, cp_M_next), (83, cp_M_isSign), (111, cp_M_term1)] [(23, kc_M_added1_23 (M_added1_J23 (fun y0 τ => M_added1_L5 n y0 τ)))] finI 300 (ab_row tab_M_added1 5) [(vR 30 0), (.inl v1), u2, u3] [] σ = M_added1_L5 (n + 1) v1 σ := rfl
theorem e_M_added1 (σ : Sg) : ab_ev tab_M_added1 [(79, cp_M_next), (83, cp_M_isSign), (111, cp_M_term1)] [(5, kc_M_added1_5 (M_added1_L5 FU))] finI 300 (ab_row tab_M_added1 0) [(vR 30 0), vU, vU, vU] [] σ = M_added1  σ := rfl
def kc_M_not1_93 {R : Type} (c : Int32 → Int32 → Sg → Option R) : ACut R := fun L st σ => match L, st with
  | [.inr (.inr (.inl (g1, i1))), .inl v1, _, _], [.inl w0] => match Nat.beq g1 30 && Nat.beq i1 0 with
    | true => c v1 w0 σ
    | false => none
  | _, _ => none
def kc_M_not1_77 {R : Type} (c : Int32 → Sg → Option R) : ACut R := fun L st σ => match L, st with
  | [.inr (.inr (.inl (g1, i1))), .inl v1, _, _], [] => match Nat.beq g1 30 && Nat.beq i1 0 with
    | true => c v1 σ
    | false => none
  | _, _ => none
def tab_M_not1 : List (Nat × List AOp) := [(0, [(3, 0, 0, vU, []), (0, 0, 0, vI 110, []), (0, 0, 0, vI 111, []), (0, 0, 0, vI 116, []), (0, 0, 0, vI 0, []), (0, 0, 0, vI 0, []), (0, 0, 0, vI 0, []), (0, 0, 0, vI 0, []), (0, 0, 0, vI 0, []), (44, 82, 9, vU, []), (41, 0, 52, vU, []), (40, 18, 1, vU, [])]),
  (18, [(3, 0, 0, vU, []), (44, 84, 1, vU, []), (41, 1, 27, vU, []), (40, 25, 1, vU, [])]),
  (25, [(0, 0, 0, vI 0, []), (45, 1, 0, vU, [])]),
  (27, [(3, 0, 0, vU, []), (44, 107, 1, vU, []), (4, 1, 0, vU, []), (3, 0, 0, vU, []), (16, 0, 0, vU, []), (18, 30, 23, vU, []), (0, 0, 0, vI 1, []), (8, 1, 0, vU, []), (21, 30, 23, vU, []), (1, 1, 0, vU, []), (41, 1, 50, vU, []), (40, 46, 1, vU, [])]),
  (46, [(0, 0, 0, vI 1, []), (40, 51, 0, vU, [])]),
  (50, [(0, 0, 0, vI 0, []), (40, 51, 1, vU, [])]),
  (51, [(45, 1, 0, vU, [])]),
  (52, [(3, 0, 0, vU, []), (44, 112, 1, vU, []), (4, 1, 0, vU, []), (3, 0, 0, vU, []), (0, 0, 0, vI 60, []), (44, 83, 2, vU, []), (41, 1, 77, vU, []), (40, 66, 1, vU, [])]),
  (66, [(3, 0, 0, vU, []), (0, 0, 0, vI 61, []), (44, 83, 2, vU, []), (41, 1, 77, vU, []), (40, 75, 1, vU, [])]),
  (75, [(1, 1, 0, vU, []), (45, 1, 0, vU, [])]),
  (77, [(3, 0, 0, vU, []), (19, 30, 22, vU, []), (0, 0, 0, vL 60, []), (15, 0, 0, vU, []), (41, 1, 92, vU, []), (40, 88, 1, vU, [])]),
  (88, [(0, 0, 0, vI 1, []), (40, 93, 0, vU, [])]),
  (92, [(0, 0, 0, vI 0, []), (40, 93, 1, vU, [])]),
  (93, [(4, 2, 0, vU, []), (3, 0, 0, vU, []), (44, 79, 1, vU, []), (3, 0, 0, vU, []), (44, 112, 1, vU, []), (4, 3, 0, vU, []), (1, 2, 0, vU, []), (41, 0, 115, vU, []), (40, 107, 1, vU, [])]),
  (107, [(1, 1, 0, vU, []), (1, 3, 0, vU, []), (42, 3, 124, vU, []), (40, 112, 1, vU, [])]),
  (112, [(40, 120, 0, vU, [])]),
  (115, [(1, 1, 0, vU, []), (1, 3, 0, vU, []), (42, 1, 124, vU, []), (40, 120, 1, vU, [])]),
  (120, [(0, 0, 0, vI 1, []), (40, 125, 0, vU, [])]),
  (124, [(0, 0, 0, vI 0, []), (40, 125, 1, vU, [])]),
  (125, [(45, 1, 0, vU, [])])]
theorem e_M_not1_J93 (u2 u3 : AV) (v1 : Int32) (w0 : Int32) (σ : Sg) : ab_ev tab_M_not1 [(79, cp_M_next), (82, cp_M_isWord), (83, cp_M_isSign), (84, cp_M_opens), (107, cp_M_not2), (112, cp_M_added1)] [] finI 300 (ab_row tab_M_not1 93) [(vR 30 0), (.inl v1), u2, u3] [(.inl w0)] σ = M_not1_J93 v1 w0 σ := rfl
theorem e_M_not1_J77 (u2 u3 : AV) (v1 : Int32) (σ : Sg) : ab_ev tab_M_not1 [(79, cp_M_next), (82, cp_M_isWord), (83, cp_M_isSign), (84, cp_M_opens), (107, cp_M_not2), (112, cp_M_added1)] [(93, kc_M_not1_93 (M_not1_J93))] finI 300 (ab_row tab_M_not1 77) [(vR 30 0), (.inl v1), u2, u3] [] σ = M_not1_J77 v1 σ := rfl
theorem e_M_not1 (σ : Sg) : ab_ev tab_M_not1 [(79, cp_M_next), (82, cp_M_isWord), (83, cp_M_isSign), (84, cp_M_opens), (107, cp_M_not2), (112, cp_M_added1)] [(77, kc_M_not1_77 (M_not1_J77))] finI 300 (ab_row tab_M_not1 0) [(vR 30 0), vU, vU, vU] [] σ = M_not1  σ := rfl
def kc_M_both1_5 {R : Type} (c : Int32 → Sg → Option R) : ACut R := fun L st σ => match L, st with
  | [.inr (.inr (.inl (g1, i1))), .inl v1, _], [] => match Nat.beq g1 30 && Nat.beq i1 0 with
    | true => c v1 σ
    | false => none
  | _, _ => none
def tab_M_both1 : List (Nat × List AOp) := [(0, [(3, 0, 0, vU, []), (44, 113, 1, vU, []), (4, 1, 0, vU, []), (40, 5, 1, vU, [])]),
  (5, [(3, 0, 0, vU, []), (0, 0, 0, vI 97, []), (0, 0, 0, vI 110, []), (0, 0, 0, vI 100, []), (0, 0, 0, vI 0, []), (0, 0, 0, vI 0, []), (0, 0, 0, vI 0, []), (0, 0, 0, vI 0, []), (0, 0, 0, vI 0, []), (44, 82, 9, vU, []), (41, 0, 49, vU, []), (40, 23, 1, vU, [])]),
  (23, [(3, 0, 0, vU, []), (44, 79, 1, vU, []), (3, 0, 0, vU, []), (44, 113, 1, vU, []), (4, 2, 0, vU, []), (1, 1, 0, vU, []), (41, 0, 44, vU, []), (40, 36, 1, vU, [])]),
  (36, [(1, 2, 0, vU, []), (41, 0, 44, vU, []), (40, 40, 1, vU, [])]),
  (40, [(0, 0, 0, vI 1, []), (40, 45, 0, vU, [])]),
  (44, [(0, 0, 0, vI 0, []), (40, 45, 1, vU, [])]),
  (45, [(4, 1, 0, vU, []), (40, 5, 0, vU, [])]),
  (49, [(1, 1, 0, vU, []), (45, 1, 0, vU, [])])]
theorem e_M_both1_L5 (n : Nat) (u2 : AV) (v1 : Int32) (σ : Sg) : ab_ev tab_M_both1 [(79, cp_M_next), (82, cp_M_isWord), (113, cp_M_not1)] [(5, kc_M_both1_5 (M_both1_L5 n))] finI 300 (ab_row tab_M_both1 5) [(vR 30 0), (.inl v1), u2] [] σ = M_both1_L5 (n + 1) v1 σ := rfl
theorem e_M_both1 (σ : Sg) : ab_ev tab_M_both1 [(79, cp_M_next), (82, cp_M_isWord), (113, cp_M_not1)] [(5, kc_M_both1_5 (M_both1_L5 FU))] finI 300 (ab_row tab_M_both1 0) [(vR 30 0), vU, vU] [] σ = M_both1  σ := rfl
def kc_M_either1_5 {R : Type} (c : Int32 → Sg → Option R) : ACut R := fun L st σ => match L, st with
  | [.inr (.inr (.inl (g1, i1))), .inl v1, _], [] => match Nat.beq g1 30 && Nat.beq i1 0 with
    | true => c v1 σ
    | false => none
  | _, _ => none
def tab_M_either1 : List (Nat × List AOp) := [(0, [(3, 0, 0, vU, []), (44, 114, 1, vU, []), (4, 1, 0, vU, []), (40, 5, 1, vU, [])]),
  (5, [(3, 0, 0, vU, []), (0, 0, 0, vI 111, []), (0, 0, 0, vI 114, []), (0, 0, 0, vI 0, []), (0, 0, 0, vI 0, []), (0, 0, 0, vI 0, []), (0, 0, 0, vI 0, []), (0, 0, 0, vI 0, []), (0, 0, 0, vI 0, []), (44, 82, 9, vU, []), (41, 0, 48, vU, []), (40, 22, 1, vU, [])]),
  (22, [(3, 0, 0, vU, []), (44, 79, 1, vU, []), (3, 0, 0, vU, []), (44, 114, 1, vU, []), (4, 2, 0, vU, []), (1, 1, 0, vU, []), (41, 1, 39, vU, []), (40, 35, 1, vU, [])]),
  (35, [(1, 2, 0, vU, []), (41, 0, 43, vU, []), (40, 39, 1, vU, [])]),
  (39, [(0, 0, 0, vI 1, []), (40, 44, 0, vU, [])]),
  (43, [(0, 0, 0, vI 0, []), (40, 44, 1, vU, [])]),
  (44, [(4, 1, 0, vU, []), (40, 5, 0, vU, [])]),
  (48, [(1, 1, 0, vU, []), (45, 1, 0, vU, [])])]
theorem e_M_either1_L5 (n : Nat) (u2 : AV) (v1 : Int32) (σ : Sg) : ab_ev tab_M_either1 [(79, cp_M_next), (82, cp_M_isWord), (114, cp_M_both1)] [(5, kc_M_either1_5 (M_either1_L5 n))] finI 300 (ab_row tab_M_either1 5) [(vR 30 0), (.inl v1), u2] [] σ = M_either1_L5 (n + 1) v1 σ := rfl
theorem e_M_either1 (σ : Sg) : ab_ev tab_M_either1 [(79, cp_M_next), (82, cp_M_isWord), (114, cp_M_both1)] [(5, kc_M_either1_5 (M_either1_L5 FU))] finI 300 (ab_row tab_M_either1 0) [(vR 30 0), vU, vU] [] σ = M_either1  σ := rfl
def kc_M_atom0_123 {R : Type} (c : Int32 → Sg → Option R) : ACut R := fun L st σ => match L, st with
  | [.inr (.inr (.inl (g1, i1))), .inl v1], [] => match Nat.beq g1 30 && Nat.beq i1 0 with
    | true => c v1 σ
    | false => none
  | _, _ => none
def kc_M_atom0_71 {R : Type} (c : Int32 → Sg → Option R) : ACut R := fun L st σ => match L, st with
  | [.inr (.inr (.inl (g1, i1))), .inl v1], [] => match Nat.beq g1 30 && Nat.beq i1 0 with
    | true => c v1 σ
    | false => none
  | _, _ => none
def tab_M_atom0 : List (Nat × List AOp) := [(0, [(0, 0, 0, vI 0, []), (4, 1, 0, vU, []), (3, 0, 0, vU, []), (0, 0, 0, vI 45, []), (44, 83, 2, vU, []), (41, 0, 37, vU, []), (40, 11, 1, vU, [])]),
  (11, [(3, 0, 0, vU, []), (44, 84, 1, vU, []), (41, 0, 161, vU, []), (40, 18, 1, vU, [])]),
  (18, [(3, 0, 0, vU, []), (44, 110, 1, vU, []), (10, 0, 0, vU, []), (4, 1, 0, vU, []), (3, 0, 0, vU, []), (16, 0, 0, vU, []), (18, 30, 23, vU, []), (0, 0, 0, vI 1, []), (8, 1, 0, vU, []), (21, 30, 23, vU, []), (40, 161, 0, vU, [])]),
  (37, [(3, 0, 0, vU, []), (0, 0, 0, vI 40, []), (44, 83, 2, vU, []), (41, 0, 95, vU, []), (40, 46, 1, vU, [])]),
  (46, [(3, 0, 0, vU, []), (44, 84, 1, vU, []), (41, 0, 161, vU, []), (40, 53, 1, vU, [])]),
  (53, [(3, 0, 0, vU, []), (44, 115, 1, vU, []), (4, 1, 0, vU, []), (3, 0, 0, vU, []), (0, 0, 0, vI 41, []), (44, 83, 2, vU, []), (41, 1, 71, vU, []), (40, 67, 1, vU, [])]),
  (67, [(3, 0, 0, vU, []), (44, 80, 1, vU, []), (40, 71, 1, vU, [])]),
  (71, [(3, 0, 0, vU, []), (16, 0, 0, vU, []), (18, 30, 23, vU, []), (0, 0, 0, vI 1, []), (8, 1, 0, vU, []), (21, 30, 23, vU, []), (3, 0, 0, vU, []), (18, 30, 24, vU, []), (41, 1, 161, vU, []), (40, 88, 1, vU, [])]),
  (88, [(3, 0, 0, vU, []), (44, 79, 1, vU, []), (40, 161, 0, vU, [])]),
  (95, [(3, 0, 0, vU, []), (18, 30, 24, vU, []), (41, 1, 123, vU, []), (40, 102, 1, vU, [])]),
  (102, [(3, 0, 0, vU, []), (18, 30, 20, vU, []), (0, 0, 0, vI 2, []), (42, 1, 123, vU, []), (40, 110, 1, vU, [])]),
  (110, [(3, 0, 0, vU, []), (19, 30, 22, vU, []), (12, 0, 0, vU, []), (4, 1, 0, vU, []), (3, 0, 0, vU, []), (44, 79, 1, vU, []), (40, 161, 0, vU, [])]),
  (123, [(3, 0, 0, vU, []), (18, 30, 24, vU, []), (41, 1, 157, vU, []), (40, 130, 1, vU, [])]),
  (130, [(3, 0, 0, vU, []), (18, 30, 20, vU, []), (0, 0, 0, vI 1, []), (42, 1, 157, vU, []), (40, 138, 1, vU, [])]),
  (138, [(3, 0, 0, vU, []), (44, 85, 1, vU, []), (4, 1, 0, vU, []), (3, 0, 0, vU, []), (18, 30, 24, vU, []), (41, 1, 161, vU, []), (40, 150, 1, vU, [])]),
  (150, [(3, 0, 0, vU, []), (44, 79, 1, vU, []), (40, 161, 0, vU, [])]),
  (157, [(3, 0, 0, vU, []), (44, 80, 1, vU, []), (40, 161, 1, vU, [])]),
  (161, [(1, 1, 0, vU, []), (45, 1, 0, vU, [])])]
theorem e_M_atom0_J123 (v1 : Int32) (σ : Sg) : ab_ev tab_M_atom0 [(79, cp_M_next), (80, cp_M_fail), (83, cp_M_isSign), (84, cp_M_opens), (85, cp_M_name), (110, cp_M_atom1), (115, cp_M_either1)] [] finI 300 (ab_row tab_M_atom0 123) [(vR 30 0), (.inl v1)] [] σ = M_atom0_J123 v1 σ := rfl
theorem e_M_atom0_J71 (v1 : Int32) (σ : Sg) : ab_ev tab_M_atom0 [(79, cp_M_next), (80, cp_M_fail), (83, cp_M_isSign), (84, cp_M_opens), (85, cp_M_name), (110, cp_M_atom1), (115, cp_M_either1)] [] finI 300 (ab_row tab_M_atom0 71) [(vR 30 0), (.inl v1)] [] σ = M_atom0_J71 v1 σ := rfl
theorem e_M_atom0 (σ : Sg) : ab_ev tab_M_atom0 [(79, cp_M_next), (80, cp_M_fail), (83, cp_M_isSign), (84, cp_M_opens), (85, cp_M_name), (110, cp_M_atom1), (115, cp_M_either1)] [(71, kc_M_atom0_71 (M_atom0_J71)), (123, kc_M_atom0_123 (M_atom0_J123))] finI 300 (ab_row tab_M_atom0 0) [(vR 30 0), vU] [] σ = M_atom0  σ := rfl
