def kc_M_term0_5 {R : Type} (c : Int32 → Sg → Option R) : ACut R := fun L st σ => match L, st with
  | [.inr (.inr (.inl (g1, i1))), .inl v1], [] => match Nat.beq g1 30 && Nat.beq i1 0 with
    | true => c v1 σ
    | false => none
  | _, _ => none
def tab_M_term0 : List (Nat × List AOp) := [(0, [(3, 0, 0, vU, []), (44, 116, 1, vU, []), (4, 1, 0, vU, []), (40, 5, 1, vU, [])]),
  (5, [(3, 0, 0, vU, []), (0, 0, 0, vI 42, []), (44, 83, 2, vU, []), (41, 0, 28, vU, []), (40, 14, 1, vU, [])]),
  (14, [(3, 0, 0, vU, []), (44, 79, 1, vU, []), (1, 1, 0, vU, []), (3, 0, 0, vU, []), (44, 116, 1, vU, []), (8, 2, 0, vU, []), (4, 1, 0, vU, []), (40, 5, 0, vU, [])]),
  (28, [(1, 1, 0, vU, []), (45, 1, 0, vU, [])])]
theorem e_M_term0_L5 (n : Nat) (v1 : Int32) (σ : Sg) : ab_ev tab_M_term0 [(79, cp_M_next), (83, cp_M_isSign), (116, cp_M_atom0)] [(5, kc_M_term0_5 (M_term0_L5 n))] finI 300 (ab_row tab_M_term0 5) [(vR 30 0), (.inl v1)] [] σ = M_term0_L5 (n + 1) v1 σ := rfl
theorem e_M_term0 (σ : Sg) : ab_ev tab_M_term0 [(79, cp_M_next), (83, cp_M_isSign), (116, cp_M_atom0)] [(5, kc_M_term0_5 (M_term0_L5 FU))] finI 300 (ab_row tab_M_term0 0) [(vR 30 0), vU] [] σ = M_term0  σ := rfl
def kc_M_added0_39 {R : Type} (c : Int32 → Int32 → Sg → Option R) : ACut R := fun L st σ => match L, st with
  | [.inr (.inr (.inl (g1, i1))), .inl v1, _, _], [.inl w0] => match Nat.beq g1 30 && Nat.beq i1 0 with
    | true => c v1 w0 σ
    | false => none
  | _, _ => none
def kc_M_added0_23 {R : Type} (c : Int32 → Sg → Option R) : ACut R := fun L st σ => match L, st with
  | [.inr (.inr (.inl (g1, i1))), .inl v1, _, _], [] => match Nat.beq g1 30 && Nat.beq i1 0 with
    | true => c v1 σ
    | false => none
  | _, _ => none
def kc_M_added0_5 {R : Type} (c : Int32 → Sg → Option R) : ACut R := fun L st σ => match L, st with
  | [.inr (.inr (.inl (g1, i1))), .inl v1, _, _], [] => match Nat.beq g1 30 && Nat.beq i1 0 with
    | true => c v1 σ
    | false => none
  | _, _ => none
def tab_M_added0 : List (Nat × List AOp) := [(0, [(3, 0, 0, vU, []), (44, 117, 1, vU, []), (4, 1, 0, vU, []), (40, 5, 1, vU, [])]),
  (5, [(3, 0, 0, vU, []), (0, 0, 0, vI 43, []), (44, 83, 2, vU, []), (41, 1, 23, vU, []), (40, 14, 1, vU, [])]),
  (14, [(3, 0, 0, vU, []), (0, 0, 0, vI 45, []), (44, 83, 2, vU, []), (41, 0, 66, vU, []), (40, 23, 1, vU, [])]),
  (23, [(3, 0, 0, vU, []), (19, 30, 22, vU, []), (0, 0, 0, vL 43, []), (15, 0, 0, vU, []), (41, 1, 38, vU, []), (40, 34, 1, vU, [])]),
  (34, [(0, 0, 0, vI 1, []), (40, 39, 0, vU, [])]),
  (38, [(0, 0, 0, vI 0, []), (40, 39, 1, vU, [])]),
  (39, [(4, 2, 0, vU, []), (3, 0, 0, vU, []), (44, 79, 1, vU, []), (3, 0, 0, vU, []), (44, 117, 1, vU, []), (4, 3, 0, vU, []), (1, 2, 0, vU, []), (41, 0, 59, vU, []), (40, 53, 1, vU, [])]),
  (53, [(1, 1, 0, vU, []), (1, 3, 0, vU, []), (8, 0, 0, vU, []), (40, 62, 0, vU, [])]),
  (59, [(1, 1, 0, vU, []), (1, 3, 0, vU, []), (8, 1, 0, vU, []), (40, 62, 1, vU, [])]),
  (62, [(4, 1, 0, vU, []), (40, 5, 0, vU, [])]),
  (66, [(1, 1, 0, vU, []), (45, 1, 0, vU, [])])]
theorem e_M_added0_J39 (k5 : Int32 → Sg → Option (Int32 × Sg)) (u2 u3 : AV) (v1 : Int32) (w0 : Int32) (σ : Sg) : ab_ev tab_M_added0 [(79, cp_M_next), (83, cp_M_isSign), (117, cp_M_term0)] [(5, kc_M_added0_5 k5)] finI 300 (ab_row tab_M_added0 39) [(vR 30 0), (.inl v1), u2, u3] [(.inl w0)] σ = M_added0_J39 k5 v1 w0 σ := rfl
theorem e_M_added0_J23 (k5 : Int32 → Sg → Option (Int32 × Sg)) (u2 u3 : AV) (v1 : Int32) (σ : Sg) : ab_ev tab_M_added0 [(79, cp_M_next), (83, cp_M_isSign), (117, cp_M_term0)] [(39, kc_M_added0_39 (M_added0_J39 k5))] finI 300 (ab_row tab_M_added0 23) [(vR 30 0), (.inl v1), u2, u3] [] σ = M_added0_J23 k5 v1 σ := rfl
theorem e_M_added0_L5 (n : Nat) (u2 u3 : AV) (v1 : Int32) (σ : Sg) : ab_ev tab_M_added0 [(79, cp_M_next), (83, cp_M_isSign), (117, cp_M_term0)] [(23, kc_M_added0_23 (M_added0_J23 (fun y0 τ => M_added0_L5 n y0 τ)))] finI 300 (ab_row tab_M_added0 5) [(vR 30 0), (.inl v1), u2, u3] [] σ = M_added0_L5 (n + 1) v1 σ := rfl
theorem e_M_added0 (σ : Sg) : ab_ev tab_M_added0 [(79, cp_M_next), (83, cp_M_isSign), (117, cp_M_term0)] [(5, kc_M_added0_5 (M_added0_L5 FU))] finI 300 (ab_row tab_M_added0 0) [(vR 30 0), vU, vU, vU] [] σ = M_added0  σ := rfl
def kc_M_not0_93 {R : Type} (c : Int32 → Int32 → Sg → Option R) : ACut R := fun L st σ => match L, st with
  | [.inr (.inr (.inl (g1, i1))), .inl v1, _, _], [.inl w0] => match Nat.beq g1 30 && Nat.beq i1 0 with
    | true => c v1 w0 σ
    | false => none
  | _, _ => none
def kc_M_not0_77 {R : Type} (c : Int32 → Sg → Option R) : ACut R := fun L st σ => match L, st with
  | [.inr (.inr (.inl (g1, i1))), .inl v1, _, _], [] => match Nat.beq g1 30 && Nat.beq i1 0 with
    | true => c v1 σ
    | false => none
  | _, _ => none
def tab_M_not0 : List (Nat × List AOp) := [(0, [(3, 0, 0, vU, []), (0, 0, 0, vI 110, []), (0, 0, 0, vI 111, []), (0, 0, 0, vI 116, []), (0, 0, 0, vI 0, []), (0, 0, 0, vI 0, []), (0, 0, 0, vI 0, []), (0, 0, 0, vI 0, []), (0, 0, 0, vI 0, []), (44, 82, 9, vU, []), (41, 0, 52, vU, []), (40, 18, 1, vU, [])]),
  (18, [(3, 0, 0, vU, []), (44, 84, 1, vU, []), (41, 1, 27, vU, []), (40, 25, 1, vU, [])]),
  (25, [(0, 0, 0, vI 0, []), (45, 1, 0, vU, [])]),
  (27, [(3, 0, 0, vU, []), (44, 113, 1, vU, []), (4, 1, 0, vU, []), (3, 0, 0, vU, []), (16, 0, 0, vU, []), (18, 30, 23, vU, []), (0, 0, 0, vI 1, []), (8, 1, 0, vU, []), (21, 30, 23, vU, []), (1, 1, 0, vU, []), (41, 1, 50, vU, []), (40, 46, 1, vU, [])]),
  (46, [(0, 0, 0, vI 1, []), (40, 51, 0, vU, [])]),
  (50, [(0, 0, 0, vI 0, []), (40, 51, 1, vU, [])]),
  (51, [(45, 1, 0, vU, [])]),
  (52, [(3, 0, 0, vU, []), (44, 118, 1, vU, []), (4, 1, 0, vU, []), (3, 0, 0, vU, []), (0, 0, 0, vI 60, []), (44, 83, 2, vU, []), (41, 1, 77, vU, []), (40, 66, 1, vU, [])]),
  (66, [(3, 0, 0, vU, []), (0, 0, 0, vI 61, []), (44, 83, 2, vU, []), (41, 1, 77, vU, []), (40, 75, 1, vU, [])]),
  (75, [(1, 1, 0, vU, []), (45, 1, 0, vU, [])]),
  (77, [(3, 0, 0, vU, []), (19, 30, 22, vU, []), (0, 0, 0, vL 60, []), (15, 0, 0, vU, []), (41, 1, 92, vU, []), (40, 88, 1, vU, [])]),
  (88, [(0, 0, 0, vI 1, []), (40, 93, 0, vU, [])]),
  (92, [(0, 0, 0, vI 0, []), (40, 93, 1, vU, [])]),
  (93, [(4, 2, 0, vU, []), (3, 0, 0, vU, []), (44, 79, 1, vU, []), (3, 0, 0, vU, []), (44, 118, 1, vU, []), (4, 3, 0, vU, []), (1, 2, 0, vU, []), (41, 0, 115, vU, []), (40, 107, 1, vU, [])]),
  (107, [(1, 1, 0, vU, []), (1, 3, 0, vU, []), (42, 3, 124, vU, []), (40, 112, 1, vU, [])]),
  (112, [(40, 120, 0, vU, [])]),
  (115, [(1, 1, 0, vU, []), (1, 3, 0, vU, []), (42, 1, 124, vU, []), (40, 120, 1, vU, [])]),
  (120, [(0, 0, 0, vI 1, []), (40, 125, 0, vU, [])]),
  (124, [(0, 0, 0, vI 0, []), (40, 125, 1, vU, [])]),
  (125, [(45, 1, 0, vU, [])])]
theorem e_M_not0_J93 (u2 u3 : AV) (v1 : Int32) (w0 : Int32) (σ : Sg) : ab_ev tab_M_not0 [(79, cp_M_next), (82, cp_M_isWord), (83, cp_M_isSign), (84, cp_M_opens), (113, cp_M_not1), (118, cp_M_added0)] [] finI 300 (ab_row tab_M_not0 93) [(vR 30 0), (.inl v1), u2, u3] [(.inl w0)] σ = M_not0_J93 v1 w0 σ := rfl
theorem e_M_not0_J77 (u2 u3 : AV) (v1 : Int32) (σ : Sg) : ab_ev tab_M_not0 [(79, cp_M_next), (82, cp_M_isWord), (83, cp_M_isSign), (84, cp_M_opens), (113, cp_M_not1), (118, cp_M_added0)] [(93, kc_M_not0_93 (M_not0_J93))] finI 300 (ab_row tab_M_not0 77) [(vR 30 0), (.inl v1), u2, u3] [] σ = M_not0_J77 v1 σ := rfl
theorem e_M_not0 (σ : Sg) : ab_ev tab_M_not0 [(79, cp_M_next), (82, cp_M_isWord), (83, cp_M_isSign), (84, cp_M_opens), (113, cp_M_not1), (118, cp_M_added0)] [(77, kc_M_not0_77 (M_not0_J77))] finI 300 (ab_row tab_M_not0 0) [(vR 30 0), vU, vU, vU] [] σ = M_not0  σ := rfl
def kc_M_both0_5 {R : Type} (c : Int32 → Sg → Option R) : ACut R := fun L st σ => match L, st with
  | [.inr (.inr (.inl (g1, i1))), .inl v1, _], [] => match Nat.beq g1 30 && Nat.beq i1 0 with
    | true => c v1 σ
    | false => none
  | _, _ => none
def tab_M_both0 : List (Nat × List AOp) := [(0, [(3, 0, 0, vU, []), (44, 119, 1, vU, []), (4, 1, 0, vU, []), (40, 5, 1, vU, [])]),
  (5, [(3, 0, 0, vU, []), (0, 0, 0, vI 97, []), (0, 0, 0, vI 110, []), (0, 0, 0, vI 100, []), (0, 0, 0, vI 0, []), (0, 0, 0, vI 0, []), (0, 0, 0, vI 0, []), (0, 0, 0, vI 0, []), (0, 0, 0, vI 0, []), (44, 82, 9, vU, []), (41, 0, 49, vU, []), (40, 23, 1, vU, [])]),
  (23, [(3, 0, 0, vU, []), (44, 79, 1, vU, []), (3, 0, 0, vU, []), (44, 119, 1, vU, []), (4, 2, 0, vU, []), (1, 1, 0, vU, []), (41, 0, 44, vU, []), (40, 36, 1, vU, [])]),
  (36, [(1, 2, 0, vU, []), (41, 0, 44, vU, []), (40, 40, 1, vU, [])]),
  (40, [(0, 0, 0, vI 1, []), (40, 45, 0, vU, [])]),
  (44, [(0, 0, 0, vI 0, []), (40, 45, 1, vU, [])]),
  (45, [(4, 1, 0, vU, []), (40, 5, 0, vU, [])]),
  (49, [(1, 1, 0, vU, []), (45, 1, 0, vU, [])])]
theorem e_M_both0_L5 (n : Nat) (u2 : AV) (v1 : Int32) (σ : Sg) : ab_ev tab_M_both0 [(79, cp_M_next), (82, cp_M_isWord), (119, cp_M_not0)] [(5, kc_M_both0_5 (M_both0_L5 n))] finI 300 (ab_row tab_M_both0 5) [(vR 30 0), (.inl v1), u2] [] σ = M_both0_L5 (n + 1) v1 σ := rfl
theorem e_M_both0 (σ : Sg) : ab_ev tab_M_both0 [(79, cp_M_next), (82, cp_M_isWord), (119, cp_M_not0)] [(5, kc_M_both0_5 (M_both0_L5 FU))] finI 300 (ab_row tab_M_both0 0) [(vR 30 0), vU, vU] [] σ = M_both0  σ := rfl
def kc_M_either0_5 {R : Type} (c : Int32 → Sg → Option R) : ACut R := fun L st σ => match L, st with
  | [.inr (.inr (.inl (g1, i1))), .inl v1, _], [] => match Nat.beq g1 30 && Nat.beq i1 0 with
    | true => c v1 σ
    | false => none
  | _, _ => none
def tab_M_either0 : List (Nat × List AOp) := [(0, [(3, 0, 0, vU, []), (44, 120, 1, vU, []), (4, 1, 0, vU, []), (40, 5, 1, vU, [])]),
  (5, [(3, 0, 0, vU, []), (0, 0, 0, vI 111, []), (0, 0, 0, vI 114, []), (0, 0, 0, vI 0, []), (0, 0, 0, vI 0, []), (0, 0, 0, vI 0, []), (0, 0, 0, vI 0, []), (0, 0, 0, vI 0, []), (0, 0, 0, vI 0, []), (44, 82, 9, vU, []), (41, 0, 48, vU, []), (40, 22, 1, vU, [])]),
  (22, [(3, 0, 0, vU, []), (44, 79, 1, vU, []), (3, 0, 0, vU, []), (44, 120, 1, vU, []), (4, 2, 0, vU, []), (1, 1, 0, vU, []), (41, 1, 39, vU, []), (40, 35, 1, vU, [])]),
  (35, [(1, 2, 0, vU, []), (41, 0, 43, vU, []), (40, 39, 1, vU, [])]),
  (39, [(0, 0, 0, vI 1, []), (40, 44, 0, vU, [])]),
  (43, [(0, 0, 0, vI 0, []), (40, 44, 1, vU, [])]),
  (44, [(4, 1, 0, vU, []), (40, 5, 0, vU, [])]),
  (48, [(1, 1, 0, vU, []), (45, 1, 0, vU, [])])]
theorem e_M_either0_L5 (n : Nat) (u2 : AV) (v1 : Int32) (σ : Sg) : ab_ev tab_M_either0 [(79, cp_M_next), (82, cp_M_isWord), (120, cp_M_both0)] [(5, kc_M_either0_5 (M_either0_L5 n))] finI 300 (ab_row tab_M_either0 5) [(vR 30 0), (.inl v1), u2] [] σ = M_either0_L5 (n + 1) v1 σ := rfl
theorem e_M_either0 (σ : Sg) : ab_ev tab_M_either0 [(79, cp_M_next), (82, cp_M_isWord), (120, cp_M_both0)] [(5, kc_M_either0_5 (M_either0_L5 FU))] finI 300 (ab_row tab_M_either0 0) [(vR 30 0), vU, vU] [] σ = M_either0  σ := rfl
def kc_M_part_48 {R : Type} (c : Int32 → Sg → Option R) : ACut R := fun L st σ => match L, st with
  | [.inr (.inr (.inl (g1, i1))), _, .inl v2], [] => match Nat.beq g1 30 && Nat.beq i1 0 with
    | true => c v2 σ
    | false => none
  | _, _ => none
def kc_M_part_34 {R : Type} (c : Int32 → Sg → Option R) : ACut R := fun L st σ => match L, st with
  | [.inr (.inr (.inl (g1, i1))), _, _], [.inl w0] => match Nat.beq g1 30 && Nat.beq i1 0 with
    | true => c w0 σ
    | false => none
  | _, _ => none
def kc_M_part_19 {R : Type} (c : Sg → Option R) : ACut R := fun L st σ => match L, st with
  | [.inr (.inr (.inl (g1, i1))), _, _], [] => match Nat.beq g1 30 && Nat.beq i1 0 with
    | true => c  σ
    | false => none
  | _, _ => none
def kc_M_part_8 {R : Type} (c : Sg → Option R) : ACut R := fun L st σ => match L, st with
  | [.inr (.inr (.inl (g1, i1))), _, _], [] => match Nat.beq g1 30 && Nat.beq i1 0 with
    | true => c  σ
    | false => none
  | _, _ => none
def tab_M_part : List (Nat × List AOp) := [(0, [(1, 1, 0, vU, []), (41, 1, 8, vU, []), (40, 4, 1, vU, [])]),
  (4, [(3, 0, 0, vU, []), (44, 80, 1, vU, []), (40, 8, 1, vU, [])]),
  (8, [(3, 0, 0, vU, []), (18, 30, 24, vU, []), (41, 1, 19, vU, []), (40, 15, 1, vU, [])]),
  (15, [(3, 0, 0, vU, []), (44, 79, 1, vU, []), (40, 19, 1, vU, [])]),
  (19, [(3, 0, 0, vU, []), (18, 30, 24, vU, []), (41, 0, 30, vU, []), (40, 26, 1, vU, [])]),
  (26, [(0, 0, 0, vI 0, []), (40, 34, 0, vU, [])]),
  (30, [(3, 0, 0, vU, []), (44, 121, 1, vU, []), (40, 34, 1, vU, [])]),
  (34, [(4, 2, 0, vU, []), (3, 0, 0, vU, []), (0, 0, 0, vI 59, []), (44, 83, 2, vU, []), (41, 1, 48, vU, []), (40, 44, 1, vU, [])]),
  (44, [(3, 0, 0, vU, []), (44, 80, 1, vU, []), (40, 48, 1, vU, [])]),
  (48, [(3, 0, 0, vU, []), (18, 30, 24, vU, []), (41, 1, 59, vU, []), (40, 55, 1, vU, [])]),
  (55, [(3, 0, 0, vU, []), (44, 79, 1, vU, []), (40, 59, 1, vU, [])]),
  (59, [(1, 2, 0, vU, []), (45, 1, 0, vU, [])])]
theorem e_M_part_J48 (u1 : AV) (v2 : Int32) (σ : Sg) : ab_ev tab_M_part [(79, cp_M_next), (80, cp_M_fail), (83, cp_M_isSign), (121, cp_M_either0)] [] finI 300 (ab_row tab_M_part 48) [(vR 30 0), u1, (.inl v2)] [] σ = M_part_J48 v2 σ := rfl
theorem e_M_part_J34 (u1 u2 : AV) (w0 : Int32) (σ : Sg) : ab_ev tab_M_part [(79, cp_M_next), (80, cp_M_fail), (83, cp_M_isSign), (121, cp_M_either0)] [(48, kc_M_part_48 (M_part_J48))] finI 300 (ab_row tab_M_part 34) [(vR 30 0), u1, u2] [(.inl w0)] σ = M_part_J34 w0 σ := rfl
theorem e_M_part_J19 (u1 u2 : AV) (σ : Sg) : ab_ev tab_M_part [(79, cp_M_next), (80, cp_M_fail), (83, cp_M_isSign), (121, cp_M_either0)] [(34, kc_M_part_34 (M_part_J34))] finI 300 (ab_row tab_M_part 19) [(vR 30 0), u1, u2] [] σ = M_part_J19  σ := rfl
theorem e_M_part_J8 (u1 u2 : AV) (σ : Sg) : ab_ev tab_M_part [(79, cp_M_next), (80, cp_M_fail), (83, cp_M_isSign), (121, cp_M_either0)] [(19, kc_M_part_19 (M_part_J19))] finI 300 (ab_row tab_M_part 8) [(vR 30 0), u1, u2] [] σ = M_part_J8  σ := rfl
theorem e_M_part (p1 : Int32) (σ : Sg) : ab_ev tab_M_part [(79, cp_M_next), (80, cp_M_fail), (83, cp_M_isSign), (121, cp_M_either0)] [(8, kc_M_part_8 (M_part_J8))] finI 300 (ab_row tab_M_part 0) [(vR 30 0), (.inl p1), vU] [] σ = M_part p1 σ := rfl
def kc_M_read_146 {R : Type} (c : Int32 → Int32 → Int32 → Int32 → Sg → Option R) : ACut R := fun L st σ => match L, st with
  | [_, _, .inl v2, .inl v3, .inl v4, .inl v5], [] => c v2 v3 v4 v5 σ
  | _, _ => none
def kc_M_read_126 {R : Type} (c : Int32 → Int32 → Int32 → Int32 → Sg → Option R) : ACut R := fun L st σ => match L, st with
  | [.inr (.inr (.inl (g1, i1))), _, .inl v2, .inl v3, .inl v4, _], [.inl w0] => match Nat.beq g1 30 && Nat.beq i1 0 with
    | true => c v2 v3 v4 w0 σ
    | false => none
  | _, _ => none
def kc_M_read_92 {R : Type} (c : Int32 → Int32 → Int32 → Sg → Option R) : ACut R := fun L st σ => match L, st with
  | [.inr (.inr (.inl (g1, i1))), _, .inl v2, .inl v3, _, _], [.inl w0] => match Nat.beq g1 30 && Nat.beq i1 0 with
    | true => c v2 v3 w0 σ
    | false => none
  | _, _ => none
def tab_M_read : List (Nat × List AOp) := [(0, [(3, 0, 0, vU, []), (0, 0, 0, vI 160, []), (1, 1, 0, vU, []), (8, 2, 0, vU, []), (21, 30, 17, vU, []), (3, 0, 0, vU, []), (3, 0, 0, vU, []), (20, 30, 2, vR 32 0, []), (1, 1, 0, vU, []), (24, 32, 0, vU, []), (21, 30, 18, vU, []), (3, 0, 0, vU, []), (0, 0, 0, vI 0, []), (21, 30, 19, vU, []), (3, 0, 0, vU, []), (0, 0, 0, vI 0, []), (21, 30, 23, vU, []), (3, 0, 0, vU, []), (0, 0, 0, vI 0, []), (22, 30, 24, vU, []), (3, 0, 0, vU, []), (44, 79, 1, vU, []), (3, 0, 0, vU, []), (3, 0, 0, vU, []), (0, 0, 0, vI 101, []), (0, 0, 0, vI 97, []), (0, 0, 0, vI 115, []), (0, 0, 0, vI 101, []), (0, 0, 0, vI 115, []), (0, 0, 0, vI 0, []), (0, 0, 0, vI 0, []), (0, 0, 0, vI 0, []), (44, 82, 9, vU, []), (44, 122, 2, vU, []), (4, 3, 0, vU, []), (3, 0, 0, vU, []), (18, 30, 24, vU, []), (41, 0, 71, vU, []), (40, 67, 1, vU, [])]),
  (67, [(0, 0, 0, vI 0, []), (40, 92, 0, vU, [])]),
  (71, [(3, 0, 0, vU, []), (3, 0, 0, vU, []), (0, 0, 0, vI 102, []), (0, 0, 0, vI 105, []), (0, 0, 0, vI 110, []), (0, 0, 0, vI 101, []), (0, 0, 0, vI 115, []), (0, 0, 0, vI 0, []), (0, 0, 0, vI 0, []), (0, 0, 0, vI 0, []), (44, 82, 9, vU, []), (44, 122, 2, vU, []), (40, 92, 1, vU, [])]),
  (92, [(4, 4, 0, vU, []), (3, 0, 0, vU, []), (18, 30, 24, vU, []), (41, 0, 105, vU, []), (40, 101, 1, vU, [])]),
  (101, [(0, 0, 0, vI 0, []), (40, 126, 0, vU, [])]),
  (105, [(3, 0, 0, vU, []), (3, 0, 0, vU, []), (0, 0, 0, vI 99, []), (0, 0, 0, vI 111, []), (0, 0, 0, vI 115, []), (0, 0, 0, vI 116, []), (0, 0, 0, vI 115, []), (0, 0, 0, vI 0, []), (0, 0, 0, vI 0, []), (0, 0, 0, vI 0, []), (44, 82, 9, vU, []), (44, 122, 2, vU, []), (40, 126, 1, vU, [])]),
  (126, [(4, 5, 0, vU, []), (3, 0, 0, vU, []), (18, 30, 24, vU, []), (41, 1, 146, vU, []), (40, 135, 1, vU, [])]),
  (135, [(3, 0, 0, vU, []), (18, 30, 20, vU, []), (41, 0, 146, vU, []), (40, 142, 1, vU, [])]),
  (142, [(3, 0, 0, vU, []), (44, 80, 1, vU, []), (40, 146, 1, vU, [])]),
  (146, [(1, 2, 0, vU, []), (41, 1, 154, vU, []), (40, 150, 1, vU, [])]),
  (150, [(1, 3, 0, vU, []), (40, 166, 0, vU, [])]),
  (154, [(1, 2, 0, vU, []), (0, 0, 0, vI 1, []), (42, 1, 164, vU, []), (40, 159, 1, vU, [])]),
  (159, [(1, 4, 0, vU, []), (40, 166, 0, vU, [])]),
  (164, [(1, 5, 0, vU, []), (40, 166, 1, vU, [])]),
  (166, [(45, 1, 0, vU, [])])]
theorem e_M_read_J146 (u0 u1 : AV) (v2 : Int32) (v3 : Int32) (v4 : Int32) (v5 : Int32) (σ : Sg) : ab_ev tab_M_read [(79, cp_M_next), (80, cp_M_fail), (82, cp_M_isWord), (122, cp_M_part)] [] finI 300 (ab_row tab_M_read 146) [u0, u1, (.inl v2), (.inl v3), (.inl v4), (.inl v5)] [] σ = M_read_J146 v2 v3 v4 v5 σ := rfl
theorem e_M_read_J126 (u1 u5 : AV) (v2 : Int32) (v3 : Int32) (v4 : Int32) (w0 : Int32) (σ : Sg) : ab_ev tab_M_read [(79, cp_M_next), (80, cp_M_fail), (82, cp_M_isWord), (122, cp_M_part)] [(146, kc_M_read_146 (M_read_J146))] finI 300 (ab_row tab_M_read 126) [(vR 30 0), u1, (.inl v2), (.inl v3), (.inl v4), u5] [(.inl w0)] σ = M_read_J126 v2 v3 v4 w0 σ := rfl
theorem e_M_read_J92 (u1 u4 u5 : AV) (v2 : Int32) (v3 : Int32) (w0 : Int32) (σ : Sg) : ab_ev tab_M_read [(79, cp_M_next), (80, cp_M_fail), (82, cp_M_isWord), (122, cp_M_part)] [(126, kc_M_read_126 (M_read_J126))] finI 300 (ab_row tab_M_read 92) [(vR 30 0), u1, (.inl v2), (.inl v3), u4, u5] [(.inl w0)] σ = M_read_J92 v2 v3 w0 σ := rfl
theorem e_M_read (p1 : Int32) (p2 : Int32) (σ : Sg) : ab_ev tab_M_read [(79, cp_M_next), (80, cp_M_fail), (82, cp_M_isWord), (122, cp_M_part)] [(92, kc_M_read_92 (M_read_J92))] finI 300 (ab_row tab_M_read 0) [(vR 30 0), (.inl p1), (.inl p2), vU, vU, vU] [] σ = M_read p1 p2 σ := rfl
def tab_M_says : List (Nat × List AOp) := [(0, [(3, 0, 0, vU, []), (3, 0, 0, vU, []), (20, 30, 9, vR 36 0, []), (0, 0, 0, vI 3, []), (1, 2, 0, vU, []), (8, 2, 0, vU, []), (0, 0, 0, vI 1, []), (8, 0, 0, vU, []), (24, 36, 0, vU, []), (21, 30, 11, vU, []), (3, 0, 0, vU, []), (1, 3, 0, vU, []), (21, 30, 12, vU, []), (3, 0, 0, vU, []), (3, 0, 0, vU, []), (20, 30, 9, vR 36 0, []), (0, 0, 0, vI 3, []), (1, 2, 0, vU, []), (8, 2, 0, vU, []), (24, 36, 0, vU, []), (21, 30, 13, vU, []), (3, 0, 0, vU, []), (1, 4, 0, vU, []), (21, 30, 14, vU, []), (3, 0, 0, vU, []), (3, 0, 0, vU, []), (20, 30, 9, vR 36 0, []), (0, 0, 0, vI 3, []), (1, 2, 0, vU, []), (8, 2, 0, vU, []), (0, 0, 0, vI 2, []), (8, 0, 0, vU, []), (24, 36, 0, vU, []), (21, 30, 15, vU, []), (3, 0, 0, vU, []), (3, 0, 0, vU, []), (1, 2, 0, vU, []), (1, 3, 0, vU, []), (44, 126, 3, vU, []), (21, 30, 16, vU, []), (3, 0, 0, vU, []), (3, 0, 0, vU, []), (18, 30, 4, vU, []), (1, 1, 0, vU, []), (44, 123, 3, vU, []), (0, 0, 0, vI 0, []), (0, 0, 0, vI 99, []), (44, 66, 3, vU, []), (45, 1, 0, vU, [])])]
theorem e_M_says (p1 : Int32) (p2 : Int32) (p3 : Int32) (p4 : Int32) (σ : Sg) : ab_ev tab_M_says [(66, cp_M_within), (123, cp_M_read), (126, cp_M_offOf)] [] finI 300 (ab_row tab_M_says 0) [(vR 30 0), (.inl p1), (.inl p2), (.inl p3), (.inl p4)] [] σ = M_says p1 p2 p3 p4 σ := rfl
def kc_M_fits_101 {R : Type} (c : Int32 → Int32 → Sg → Option R) : ACut R := fun L st σ => match L, st with
  | [_, _, _, _, .inl v4, _, _, .inl v7], [] => c v4 v7 σ
  | _, _ => none
def kc_M_fits_62 {R : Type} (c : Int32 → Int32 → Int32 → Int32 → Sg → Option R) : ACut R := fun L st σ => match L, st with
  | [_, _, .inl v2, _, .inl v4, .inl v5, .inl v6, _], [] => c v2 v4 v5 v6 σ
  | _, _ => none
def kc_M_fits_48 {R : Type} (c : Int32 → Int32 → Int32 → Int32 → Int32 → Int32 → Sg → Option R) : ACut R := fun L st σ => match L, st with
  | [.inr (.inr (.inl (g1, i1))), .inl v1, .inl v2, _, .inl v4, .inl v5, .inl v6, _], [.inl w0] => match Nat.beq g1 30 && Nat.beq i1 0 with
    | true => c v1 v2 v4 v5 v6 w0 σ
    | false => none
  | _, _ => none
def tab_M_fits : List (Nat × List AOp) := [(0, [(1, 1, 0, vU, []), (0, 0, 0, vI (-1), []), (42, 1, 7, vU, []), (40, 5, 1, vU, [])]),
  (5, [(0, 0, 0, vI 0, []), (45, 3, 0, vU, [])]),
  (7, [(3, 0, 0, vU, []), (20, 30, 8, vR 35 0, []), (1, 1, 0, vU, []), (24, 35, 0, vU, []), (4, 4, 0, vU, []), (3, 0, 0, vU, []), (0, 0, 0, vI 0, []), (1, 1, 0, vU, []), (1, 2, 0, vU, []), (1, 3, 0, vU, []), (44, 127, 5, vU, []), (4, 5, 0, vU, []), (3, 0, 0, vU, []), (1, 1, 0, vU, []), (1, 2, 0, vU, []), (44, 126, 3, vU, []), (4, 6, 0, vU, []), (1, 6, 0, vU, []), (0, 0, 0, vI 10, []), (1, 5, 0, vU, []), (8, 0, 0, vU, []), (42, 4, 47, vU, []), (40, 43, 1, vU, [])]),
  (43, [(0, 0, 0, vI 1, []), (40, 48, 0, vU, [])]),
  (47, [(0, 0, 0, vI 0, []), (40, 48, 1, vU, [])]),
  (48, [(4, 7, 0, vU, []), (1, 4, 0, vU, []), (0, 0, 0, vI 1, []), (42, 0, 62, vU, []), (40, 56, 1, vU, [])]),
  (56, [(1, 4, 0, vU, []), (0, 0, 0, vI 3, []), (42, 1, 89, vU, []), (40, 62, 1, vU, [])]),
  (62, [(0, 0, 0, vI 2, []), (1, 6, 0, vU, []), (8, 2, 0, vU, []), (1, 5, 0, vU, []), (42, 4, 87, vU, []), (40, 71, 1, vU, [])]),
  (71, [(1, 4, 0, vU, []), (0, 0, 0, vI 1, []), (42, 0, 83, vU, []), (40, 77, 1, vU, [])]),
  (77, [(1, 2, 0, vU, []), (0, 0, 0, vI 50, []), (42, 3, 87, vU, []), (40, 83, 1, vU, [])]),
  (83, [(0, 0, 0, vI 1, []), (40, 88, 0, vU, [])]),
  (87, [(0, 0, 0, vI 0, []), (40, 88, 1, vU, [])]),
  (88, [(45, 3, 0, vU, [])]),
  (89, [(1, 4, 0, vU, []), (0, 0, 0, vI 2, []), (42, 0, 101, vU, []), (40, 95, 1, vU, [])]),
  (95, [(1, 4, 0, vU, []), (0, 0, 0, vI 4, []), (42, 1, 123, vU, []), (40, 101, 1, vU, [])]),
  (101, [(1, 4, 0, vU, []), (0, 0, 0, vI 2, []), (42, 1, 112, vU, []), (40, 107, 1, vU, [])]),
  (107, [(1, 7, 0, vU, []), (40, 122, 0, vU, [])]),
  (112, [(1, 7, 0, vU, []), (41, 1, 121, vU, []), (40, 117, 1, vU, [])]),
  (117, [(0, 0, 0, vI 1, []), (40, 122, 0, vU, [])]),
  (121, [(0, 0, 0, vI 0, []), (40, 122, 1, vU, [])]),
  (122, [(45, 3, 0, vU, [])]),
  (123, [(1, 6, 0, vU, []), (1, 5, 0, vU, []), (42, 5, 151, vU, []), (40, 130, 1, vU, [])]),
  (130, [(1, 4, 0, vU, []), (0, 0, 0, vI 5, []), (42, 1, 155, vU, []), (40, 136, 1, vU, [])]),
  (136, [(1, 2, 0, vU, []), (0, 0, 0, vI 10, []), (9, 1, 0, vU, []), (3, 0, 0, vU, []), (20, 30, 9, vR 36 0, []), (0, 0, 0, vI 3, []), (1, 1, 0, vU, []), (8, 2, 0, vU, []), (24, 36, 0, vU, []), (42, 1, 155, vU, []), (40, 151, 1, vU, [])]),
  (151, [(0, 0, 0, vI 1, []), (40, 156, 0, vU, [])]),
  (155, [(0, 0, 0, vI 0, []), (40, 156, 1, vU, [])]),
  (156, [(45, 3, 0, vU, [])])]
theorem e_M_fits_J101 (u0 u1 u2 u3 u5 u6 : AV) (v4 : Int32) (v7 : Int32) (σ : Sg) : ab_ev tab_M_fits [(126, cp_M_offOf), (127, cp_M_says)] [] finI 300 (ab_row tab_M_fits 101) [u0, u1, u2, u3, (.inl v4), u5, u6, (.inl v7)] [] σ = M_fits_J101 v4 v7 σ := rfl
theorem e_M_fits_J62 (u0 u1 u3 u7 : AV) (v2 : Int32) (v4 : Int32) (v5 : Int32) (v6 : Int32) (σ : Sg) : ab_ev tab_M_fits [(126, cp_M_offOf), (127, cp_M_says)] [] finI 300 (ab_row tab_M_fits 62) [u0, u1, (.inl v2), u3, (.inl v4), (.inl v5), (.inl v6), u7] [] σ = M_fits_J62 v2 v4 v5 v6 σ := rfl
theorem e_M_fits_J48 (u3 u7 : AV) (v1 : Int32) (v2 : Int32) (v4 : Int32) (v5 : Int32) (v6 : Int32) (w0 : Int32) (σ : Sg) : ab_ev tab_M_fits [(126, cp_M_offOf), (127, cp_M_says)] [(62, kc_M_fits_62 (M_fits_J62)), (101, kc_M_fits_101 (M_fits_J101))] finI 300 (ab_row tab_M_fits 48) [(vR 30 0), (.inl v1), (.inl v2), u3, (.inl v4), (.inl v5), (.inl v6), u7] [(.inl w0)] σ = M_fits_J48 v1 v2 v4 v5 v6 w0 σ := rfl
theorem e_M_fits (p1 : Int32) (p2 : Int32) (p3 : Int32) (σ : Sg) : ab_ev tab_M_fits [(126, cp_M_offOf), (127, cp_M_says)] [(48, kc_M_fits_48 (M_fits_J48))] finI 300 (ab_row tab_M_fits 0) [(vR 30 0), (.inl p1), (.inl p2), (.inl p3), vU, vU, vU, vU] [] σ = M_fits p1 p2 p3 σ := rfl
def kc_M_rightAt_5 {R : Type} (c : Int32 → Int32 → Int32 → Int32 → Sg → Option R) : ACut R := fun L st σ => match L, st with
  | [.inr (.inr (.inl (g1, i1))), .inl v1, .inl v2, .inl v3, .inl v4], [] => match Nat.beq g1 30 && Nat.beq i1 0 with
    | true => c v1 v2 v3 v4 σ
    | false => none
  | _, _ => none
def tab_M_rightAt : List (Nat × List AOp) := [(0, [(0, 0, 0, vI 0, []), (4, 3, 0, vU, []), (0, 0, 0, vI 0, []), (4, 4, 0, vU, []), (40, 5, 1, vU, [])]),
  (5, [(1, 4, 0, vU, []), (3, 0, 0, vU, []), (18, 30, 10, vU, []), (42, 3, 52, vU, []), (40, 14, 1, vU, [])]),
  (14, [(1, 3, 0, vU, []), (3, 0, 0, vU, []), (1, 4, 0, vU, []), (3, 0, 0, vU, []), (20, 30, 7, vR 34 0, []), (0, 0, 0, vI 24, []), (1, 1, 0, vU, []), (8, 2, 0, vU, []), (1, 2, 0, vU, []), (8, 0, 0, vU, []), (24, 34, 0, vU, []), (1, 2, 0, vU, []), (44, 128, 4, vU, []), (41, 0, 40, vU, []), (40, 36, 1, vU, [])]),
  (36, [(0, 0, 0, vI 1, []), (40, 41, 0, vU, [])]),
  (40, [(0, 0, 0, vI 0, []), (40, 41, 1, vU, [])]),
  (41, [(1, 4, 0, vU, []), (8, 5, 0, vU, []), (8, 4, 0, vU, []), (4, 3, 0, vU, []), (7, 4, 0, vI 1, []), (40, 5, 0, vU, [])]),
  (52, [(1, 3, 0, vU, []), (45, 1, 0, vU, [])])]
theorem e_M_rightAt_L5 (n : Nat) (v1 : Int32) (v2 : Int32) (v3 : Int32) (v4 : Int32) (σ : Sg) : ab_ev tab_M_rightAt [(128, cp_M_fits)] [(5, kc_M_rightAt_5 (M_rightAt_L5 n))] finI 300 (ab_row tab_M_rightAt 5) [(vR 30 0), (.inl v1), (.inl v2), (.inl v3), (.inl v4)] [] σ = M_rightAt_L5 (n + 1) v1 v2 v3 v4 σ := rfl
theorem e_M_rightAt (p1 : Int32) (p2 : Int32) (σ : Sg) : ab_ev tab_M_rightAt [(128, cp_M_fits)] [(5, kc_M_rightAt_5 (M_rightAt_L5 FU))] finI 300 (ab_row tab_M_rightAt 0) [(vR 30 0), (.inl p1), (.inl p2), vU, vU] [] σ = M_rightAt p1 p2 σ := rfl
def kc_M_hoursBy_5 {R : Type} (c : Int32 → Int32 → Int32 → Int32 → Sg → Option R) : ACut R := fun L st σ => match L, st with
  | [.inr (.inr (.inl (g1, i1))), .inl v1, .inl v2, .inl v3, .inl v4], [] => match Nat.beq g1 30 && Nat.beq i1 0 with
    | true => c v1 v2 v3 v4 σ
    | false => none
  | _, _ => none
def tab_M_hoursBy : List (Nat × List AOp) := [(0, [(0, 0, 0, vI 0, []), (4, 3, 0, vU, []), (0, 0, 0, vI 0, []), (4, 4, 0, vU, []), (40, 5, 1, vU, [])]),
  (5, [(1, 4, 0, vU, []), (0, 0, 0, vI 24, []), (42, 3, 48, vU, []), (40, 12, 1, vU, [])]),
  (12, [(1, 3, 0, vU, []), (3, 0, 0, vU, []), (1, 1, 0, vU, []), (3, 0, 0, vU, []), (20, 30, 7, vR 34 0, []), (0, 0, 0, vI 24, []), (1, 2, 0, vU, []), (8, 2, 0, vU, []), (1, 4, 0, vU, []), (8, 0, 0, vU, []), (24, 34, 0, vU, []), (1, 4, 0, vU, []), (44, 128, 4, vU, []), (41, 0, 39, vU, []), (40, 35, 1, vU, [])]),
  (35, [(0, 0, 0, vI 1, []), (40, 40, 0, vU, [])]),
  (39, [(0, 0, 0, vI 0, []), (40, 40, 1, vU, [])]),
  (40, [(8, 0, 0, vU, []), (4, 3, 0, vU, []), (7, 4, 0, vI 1, []), (40, 5, 0, vU, [])]),
  (48, [(1, 3, 0, vU, []), (45, 1, 0, vU, [])])]
theorem e_M_hoursBy_L5 (n : Nat) (v1 : Int32) (v2 : Int32) (v3 : Int32) (v4 : Int32) (σ : Sg) : ab_ev tab_M_hoursBy [(128, cp_M_fits)] [(5, kc_M_hoursBy_5 (M_hoursBy_L5 n))] finI 300 (ab_row tab_M_hoursBy 5) [(vR 30 0), (.inl v1), (.inl v2), (.inl v3), (.inl v4)] [] σ = M_hoursBy_L5 (n + 1) v1 v2 v3 v4 σ := rfl
theorem e_M_hoursBy (p1 : Int32) (p2 : Int32) (σ : Sg) : ab_ev tab_M_hoursBy [(128, cp_M_fits)] [(5, kc_M_hoursBy_5 (M_hoursBy_L5 FU))] finI 300 (ab_row tab_M_hoursBy 0) [(vR 30 0), (.inl p1), (.inl p2), vU, vU] [] σ = M_hoursBy p1 p2 σ := rfl
def kc_M_hoursOf_4 {R : Type} (c : Int32 → Int32 → Int32 → Sg → Option R) : ACut R := fun L st σ => match L, st with
  | [.inr (.inr (.inl (g1, i1))), .inl v1, .inl v2, .inl v3], [] => match Nat.beq g1 30 && Nat.beq i1 0 with
    | true => c v1 v2 v3 σ
    | false => none
  | _, _ => none
def tab_M_hoursOf : List (Nat × List AOp) := [(0, [(0, 0, 0, vI 0, []), (4, 2, 0, vU, []), (0, 0, 0, vI 0, []), (4, 3, 0, vU, []), (40, 4, 1, vU, [])]),
  (4, [(1, 3, 0, vU, []), (0, 0, 0, vI 3, []), (42, 3, 24, vU, []), (40, 9, 1, vU, [])]),
  (9, [(1, 2, 0, vU, []), (3, 0, 0, vU, []), (1, 1, 0, vU, []), (1, 3, 0, vU, []), (44, 133, 3, vU, []), (8, 0, 0, vU, []), (4, 2, 0, vU, []), (7, 3, 0, vI 1, []), (40, 4, 0, vU, [])]),
  (24, [(1, 2, 0, vU, []), (45, 1, 0, vU, [])])]
theorem e_M_hoursOf_L4 (n : Nat) (v1 : Int32) (v2 : Int32) (v3 : Int32) (σ : Sg) : ab_ev tab_M_hoursOf [(133, cp_M_hoursBy)] [(4, kc_M_hoursOf_4 (M_hoursOf_L4 n))] finI 300 (ab_row tab_M_hoursOf 4) [(vR 30 0), (.inl v1), (.inl v2), (.inl v3)] [] σ = M_hoursOf_L4 (n + 1) v1 v2 v3 σ := rfl
theorem e_M_hoursOf (p1 : Int32) (σ : Sg) : ab_ev tab_M_hoursOf [(133, cp_M_hoursBy)] [(4, kc_M_hoursOf_4 (M_hoursOf_L4 FU))] finI 300 (ab_row tab_M_hoursOf 0) [(vR 30 0), (.inl p1), vU, vU] [] σ = M_hoursOf p1 σ := rfl
def tab_M_told : List (Nat × List AOp) := [(0, [(1, 2, 0, vU, []), (11, 0, 0, vU, []), (0, 0, 0, vL 0, []), (0, 0, 0, vL 6, []), (44, 65, 3, vU, []), (41, 0, 21, vU, []), (40, 12, 1, vU, [])]),
  (12, [(3, 0, 0, vU, []), (1, 2, 0, vU, []), (1, 1, 0, vU, []), (44, 70, 3, vU, []), (41, 1, 24, vU, []), (40, 21, 1, vU, [])]),
  (21, [(0, 0, 0, vI (-2), []), (45, 1, 0, vU, [])]),
  (24, [(1, 2, 0, vU, []), (0, 0, 0, vI 4, []), (42, 3, 58, vU, []), (40, 29, 1, vU, [])]),
  (29, [(1, 2, 0, vU, []), (41, 1, 45, vU, []), (40, 33, 1, vU, [])]),
  (33, [(3, 0, 0, vU, []), (20, 30, 7, vR 34 0, []), (1, 1, 0, vU, []), (44, 71, 1, vU, []), (24, 34, 0, vU, []), (40, 57, 0, vU, [])]),
  (45, [(3, 0, 0, vU, []), (20, 30, 9, vR 36 0, []), (0, 0, 0, vI 3, []), (1, 1, 0, vU, []), (8, 2, 0, vU, []), (1, 2, 0, vU, []), (8, 0, 0, vU, []), (0, 0, 0, vI 1, []), (8, 1, 0, vU, []), (24, 36, 0, vU, []), (40, 57, 1, vU, [])]),
  (57, [(45, 1, 0, vU, [])]),
  (58, [(1, 2, 0, vU, []), (0, 0, 0, vI 4, []), (42, 1, 72, vU, []), (40, 63, 1, vU, [])]),
  (63, [(3, 0, 0, vU, []), (20, 30, 8, vR 35 0, []), (1, 1, 0, vU, []), (24, 35, 0, vU, []), (40, 97, 0, vU, [])]),
  (72, [(1, 2, 0, vU, []), (0, 0, 0, vI 5, []), (42, 1, 92, vU, []), (40, 77, 1, vU, [])]),
  (77, [(3, 0, 0, vU, []), (1, 1, 0, vU, []), (0, 0, 0, vI 100, []), (9, 0, 0, vU, []), (1, 1, 0, vU, []), (0, 0, 0, vI 100, []), (9, 1, 0, vU, []), (44, 132, 3, vU, []), (40, 97, 0, vU, [])]),
  (92, [(3, 0, 0, vU, []), (1, 1, 0, vU, []), (44, 134, 2, vU, []), (40, 97, 1, vU, [])]),
  (97, [(45, 1, 0, vU, [])])]
theorem e_M_told (p1 : Int32) (p2 : Int32) (σ : Sg) : ab_ev tab_M_told [(65, cp_M_in), (70, cp_M_isOf), (71, cp_M_placeOf), (132, cp_M_rightAt), (134, cp_M_hoursOf)] [] finI 300 (ab_row tab_M_told 0) [(vR 30 0), (.inl p1), (.inl p2)] [] σ = M_told p1 p2 σ := rfl
def tab_M_set : List (Nat × List AOp) := [(0, [(1, 1, 0, vU, []), (11, 0, 0, vU, []), (0, 0, 0, vL 0, []), (0, 0, 0, vL 3, []), (44, 65, 3, vU, []), (41, 0, 35, vU, []), (40, 12, 1, vU, [])]),
  (12, [(3, 0, 0, vU, []), (1, 1, 0, vU, []), (1, 2, 0, vU, []), (44, 70, 3, vU, []), (41, 0, 35, vU, []), (40, 21, 1, vU, [])]),
  (21, [(1, 3, 0, vU, []), (11, 0, 0, vU, []), (0, 0, 0, vL 0, []), (1, 1, 0, vU, []), (44, 72, 1, vU, []), (11, 0, 0, vU, []), (44, 65, 3, vU, []), (41, 1, 38, vU, []), (40, 35, 1, vU, [])]),
  (35, [(0, 0, 0, vI (-2), []), (45, 1, 0, vU, [])]),
  (38, [(3, 0, 0, vU, []), (1, 2, 0, vU, []), (1, 1, 0, vU, []), (44, 76, 3, vU, []), (4, 4, 0, vU, []), (3, 0, 0, vU, []), (1, 1, 0, vU, []), (1, 2, 0, vU, []), (1, 3, 0, vU, []), (44, 74, 4, vU, []), (1, 4, 0, vU, []), (45, 1, 0, vU, [])])]
theorem e_M_set (p1 : Int32) (p2 : Int32) (p3 : Int32) (σ : Sg) : ab_ev tab_M_set [(65, cp_M_in), (70, cp_M_isOf), (72, cp_M_mostOf), (74, cp_M_lays), (76, cp_M_told)] [] finI 300 (ab_row tab_M_set 0) [(vR 30 0), (.inl p1), (.inl p2), (.inl p3), vU] [] σ = M_set p1 p2 p3 σ := rfl
def tab_M_coat : List (Nat × List AOp) := [(0, [(1, 1, 0, vU, []), (11, 0, 0, vU, []), (0, 0, 0, vL 0, []), (0, 0, 0, vL 5, []), (44, 65, 3, vU, []), (41, 0, 36, vU, []), (40, 12, 1, vU, [])]),
  (12, [(1, 2, 0, vU, []), (11, 0, 0, vU, []), (0, 0, 0, vL 0, []), (0, 0, 0, vL 9, []), (44, 65, 3, vU, []), (41, 0, 36, vU, []), (40, 24, 1, vU, [])]),
  (24, [(1, 3, 0, vU, []), (11, 0, 0, vU, []), (0, 0, 0, vL 0, []), (0, 0, 0, vL 99, []), (44, 65, 3, vU, []), (41, 1, 39, vU, []), (40, 36, 1, vU, [])]),
  (36, [(0, 0, 0, vI (-2), []), (45, 1, 0, vU, [])]),
  (39, [(3, 0, 0, vU, []), (18, 30, 10, vU, []), (0, 0, 0, vI 8, []), (42, 1, 51, vU, []), (40, 48, 1, vU, [])]),
  (48, [(0, 0, 0, vI (-4), []), (45, 1, 0, vU, [])]),
  (51, [(3, 0, 0, vU, []), (20, 30, 8, vR 35 0, []), (3, 0, 0, vU, []), (18, 30, 10, vU, []), (1, 1, 0, vU, []), (25, 35, 0, vU, []), (3, 0, 0, vU, []), (20, 30, 9, vR 36 0, []), (0, 0, 0, vI 3, []), (3, 0, 0, vU, []), (18, 30, 10, vU, []), (8, 2, 0, vU, []), (1, 2, 0, vU, []), (25, 36, 0, vU, []), (3, 0, 0, vU, []), (20, 30, 9, vR 36 0, []), (0, 0, 0, vI 3, []), (3, 0, 0, vU, []), (18, 30, 10, vU, []), (8, 2, 0, vU, []), (0, 0, 0, vI 1, []), (8, 0, 0, vU, []), (1, 3, 0, vU, []), (25, 36, 0, vU, []), (3, 0, 0, vU, []), (20, 30, 9, vR 36 0, []), (0, 0, 0, vI 3, []), (3, 0, 0, vU, []), (18, 30, 10, vU, []), (8, 2, 0, vU, []), (0, 0, 0, vI 2, []), (8, 0, 0, vU, []), (0, 0, 0, vI 0, []), (25, 36, 0, vU, []), (3, 0, 0, vU, []), (16, 0, 0, vU, []), (18, 30, 10, vU, []), (0, 0, 0, vI 1, []), (8, 0, 0, vU, []), (21, 30, 10, vU, []), (3, 0, 0, vU, []), (18, 30, 10, vU, []), (0, 0, 0, vI 1, []), (8, 1, 0, vU, []), (45, 1, 0, vU, [])])]
theorem e_M_coat (p1 : Int32) (p2 : Int32) (p3 : Int32) (σ : Sg) : ab_ev tab_M_coat [(65, cp_M_in)] [] finI 300 (ab_row tab_M_coat 0) [(vR 30 0), (.inl p1), (.inl p2), (.inl p3)] [] σ = M_coat p1 p2 p3 σ := rfl
def tab_M_feed : List (Nat × List AOp) := [(0, [(1, 1, 0, vU, []), (11, 0, 0, vU, []), (0, 0, 0, vL 0, []), (0, 0, 0, vL 255, []), (44, 65, 3, vU, []), (41, 1, 15, vU, []), (40, 12, 1, vU, [])]),
  (12, [(0, 0, 0, vI (-2), []), (45, 1, 0, vU, [])]),
  (15, [(3, 0, 0, vU, []), (18, 30, 6, vU, []), (0, 0, 0, vI 160, []), (42, 1, 28, vU, []), (40, 25, 1, vU, [])]),
  (25, [(0, 0, 0, vI (-4), []), (45, 1, 0, vU, [])]),
  (28, [(3, 0, 0, vU, []), (20, 30, 5, vR 33 0, []), (3, 0, 0, vU, []), (18, 30, 6, vU, []), (1, 1, 0, vU, []), (25, 33, 0, vU, []), (3, 0, 0, vU, []), (16, 0, 0, vU, []), (18, 30, 6, vU, []), (0, 0, 0, vI 1, []), (8, 0, 0, vU, []), (21, 30, 6, vU, []), (3, 0, 0, vU, []), (18, 30, 6, vU, []), (45, 1, 0, vU, [])])]
theorem e_M_feed (p1 : Int32) (σ : Sg) : ab_ev tab_M_feed [(65, cp_M_in)] [] finI 300 (ab_row tab_M_feed 0) [(vR 30 0), (.inl p1)] [] σ = M_feed p1 σ := rfl
def kc_M_text_14 {R : Type} (c : Int32 → Sg → Option R) : ACut R := fun L st σ => match L, st with
  | [.inr (.inr (.inl (g1, i1))), .inl v1], [] => match Nat.beq g1 30 && Nat.beq i1 0 with
    | true => c v1 σ
    | false => none
  | _, _ => none
def tab_M_text : List (Nat × List AOp) := [(0, [(3, 0, 0, vU, []), (18, 30, 3, vU, []), (0, 0, 0, vI 6, []), (42, 1, 12, vU, []), (40, 9, 1, vU, [])]),
  (9, [(0, 0, 0, vI (-4), []), (45, 1, 0, vU, [])]),
  (12, [(0, 0, 0, vI 0, []), (4, 1, 0, vU, []), (40, 14, 1, vU, [])]),
  (14, [(1, 1, 0, vU, []), (3, 0, 0, vU, []), (18, 30, 6, vU, []), (42, 3, 49, vU, []), (40, 22, 1, vU, [])]),
  (22, [(3, 0, 0, vU, []), (20, 30, 1, vR 31 0, []), (0, 0, 0, vI 160, []), (3, 0, 0, vU, []), (18, 30, 3, vU, []), (8, 2, 0, vU, []), (1, 1, 0, vU, []), (8, 0, 0, vU, []), (3, 0, 0, vU, []), (20, 30, 5, vR 33 0, []), (1, 1, 0, vU, []), (24, 33, 0, vU, []), (25, 31, 0, vU, []), (7, 1, 0, vI 1, []), (40, 14, 0, vU, [])]),
  (49, [(3, 0, 0, vU, []), (20, 30, 2, vR 32 0, []), (3, 0, 0, vU, []), (18, 30, 3, vU, []), (3, 0, 0, vU, []), (18, 30, 6, vU, []), (25, 32, 0, vU, []), (3, 0, 0, vU, []), (0, 0, 0, vI 0, []), (21, 30, 6, vU, []), (3, 0, 0, vU, []), (3, 0, 0, vU, []), (18, 30, 3, vU, []), (0, 0, 0, vI 0, []), (44, 123, 3, vU, []), (4, 1, 0, vU, []), (3, 0, 0, vU, []), (18, 30, 24, vU, []), (41, 0, 92, vU, []), (40, 84, 1, vU, [])]),
  (84, [(0, 0, 0, vI (-100), []), (3, 0, 0, vU, []), (18, 30, 25, vU, []), (8, 1, 0, vU, []), (45, 1, 0, vU, [])]),
  (92, [(3, 0, 0, vU, []), (16, 0, 0, vU, []), (18, 30, 3, vU, []), (0, 0, 0, vI 1, []), (8, 0, 0, vU, []), (21, 30, 3, vU, []), (3, 0, 0, vU, []), (18, 30, 3, vU, []), (0, 0, 0, vI 1, []), (8, 1, 0, vU, []), (45, 1, 0, vU, [])])]
theorem e_M_text_L14 (n : Nat) (v1 : Int32) (σ : Sg) : ab_ev tab_M_text [(123, cp_M_read)] [(14, kc_M_text_14 (M_text_L14 n))] finI 300 (ab_row tab_M_text 14) [(vR 30 0), (.inl v1)] [] σ = M_text_L14 (n + 1) v1 σ := rfl
theorem e_M_text (σ : Sg) : ab_ev tab_M_text [(123, cp_M_read)] [(14, kc_M_text_14 (M_text_L14 FU))] finI 300 (ab_row tab_M_text 0) [(vR 30 0), vU] [] σ = M_text  σ := rfl
def tab_M_force : List (Nat × List AOp) := [(0, [(1, 1, 0, vU, []), (11, 0, 0, vU, []), (0, 0, 0, vL 0, []), (3, 0, 0, vU, []), (18, 30, 3, vU, []), (0, 0, 0, vI 1, []), (8, 1, 0, vU, []), (11, 0, 0, vU, []), (44, 65, 3, vU, []), (41, 1, 19, vU, []), (40, 16, 1, vU, [])]),
  (16, [(0, 0, 0, vI (-2), []), (45, 1, 0, vU, [])]),
  (19, [(3, 0, 0, vU, []), (18, 30, 4, vU, []), (4, 2, 0, vU, []), (3, 0, 0, vU, []), (1, 1, 0, vU, []), (21, 30, 4, vU, []), (1, 2, 0, vU, []), (45, 1, 0, vU, [])])]
theorem e_M_force (p1 : Int32) (σ : Sg) : ab_ev tab_M_force [(65, cp_M_in)] [] finI 300 (ab_row tab_M_force 0) [(vR 30 0), (.inl p1), vU] [] σ = M_force p1 σ := rfl
def tab_M_fineOf : List (Nat × List AOp) := [(0, [(1, 1, 0, vU, []), (0, 0, 0, vI (-1), []), (42, 0, 15, vU, []), (40, 5, 1, vU, [])]),
  (5, [(3, 0, 0, vU, []), (20, 30, 8, vR 35 0, []), (1, 1, 0, vU, []), (24, 35, 0, vU, []), (0, 0, 0, vI 5, []), (42, 1, 18, vU, []), (40, 15, 1, vU, [])]),
  (15, [(0, 0, 0, vI 99, []), (45, 1, 0, vU, [])]),
  (18, [(3, 0, 0, vU, []), (20, 30, 8, vR 35 0, []), (1, 1, 0, vU, []), (24, 35, 0, vU, []), (4, 4, 0, vU, []), (1, 4, 0, vU, []), (0, 0, 0, vI 4, []), (42, 1, 41, vU, []), (40, 32, 1, vU, [])]),
  (32, [(3, 0, 0, vU, []), (20, 30, 9, vR 36 0, []), (0, 0, 0, vI 3, []), (1, 1, 0, vU, []), (8, 2, 0, vU, []), (24, 36, 0, vU, []), (45, 1, 0, vU, [])]),
  (41, [(3, 0, 0, vU, []), (0, 0, 0, vI 1, []), (1, 1, 0, vU, []), (1, 2, 0, vU, []), (1, 3, 0, vU, []), (44, 127, 5, vU, []), (4, 5, 0, vU, []), (1, 4, 0, vU, []), (0, 0, 0, vI 1, []), (42, 1, 64, vU, []), (40, 57, 1, vU, [])]),
  (57, [(1, 5, 0, vU, []), (0, 0, 0, vI 2, []), (8, 0, 0, vU, []), (40, 94, 0, vU, [])]),
  (64, [(1, 4, 0, vU, []), (0, 0, 0, vI 3, []), (42, 1, 79, vU, []), (40, 70, 1, vU, [])]),
  (70, [(0, 0, 0, vI 2, []), (1, 5, 0, vU, []), (0, 0, 0, vI 2, []), (8, 0, 0, vU, []), (8, 2, 0, vU, []), (40, 94, 0, vU, [])]),
  (79, [(1, 4, 0, vU, []), (0, 0, 0, vI 2, []), (42, 1, 92, vU, []), (40, 85, 1, vU, [])]),
  (85, [(1, 5, 0, vU, []), (0, 0, 0, vI 2, []), (9, 0, 0, vU, []), (40, 94, 0, vU, [])]),
  (92, [(1, 5, 0, vU, []), (40, 94, 1, vU, [])]),
  (94, [(0, 0, 0, vI 0, []), (0, 0, 0, vI 99, []), (44, 66, 3, vU, []), (45, 1, 0, vU, [])])]
theorem e_M_fineOf (p1 : Int32) (p2 : Int32) (p3 : Int32) (σ : Sg) : ab_ev tab_M_fineOf [(66, cp_M_within), (127, cp_M_says)] [] finI 300 (ab_row tab_M_fineOf 0) [(vR 30 0), (.inl p1), (.inl p2), (.inl p3), vU, vU] [] σ = M_fineOf p1 p2 p3 σ := rfl
def kc_M_costOf_47 {R : Type} (c : Int32 → Int32 → Sg → Option R) : ACut R := fun L st σ => match L, st with
  | [.inr (.inr (.inl (g1, i1))), .inl v1, _, _, _, .inl v5], [] => match Nat.beq g1 30 && Nat.beq i1 0 with
    | true => c v1 v5 σ
    | false => none
  | _, _ => none
def tab_M_costOf : List (Nat × List AOp) := [(0, [(1, 1, 0, vU, []), (0, 0, 0, vI (-1), []), (42, 0, 15, vU, []), (40, 5, 1, vU, [])]),
  (5, [(3, 0, 0, vU, []), (20, 30, 8, vR 35 0, []), (1, 1, 0, vU, []), (24, 35, 0, vU, []), (0, 0, 0, vI 5, []), (42, 1, 17, vU, []), (40, 15, 1, vU, [])]),
  (15, [(0, 0, 0, vI 0, []), (45, 1, 0, vU, [])]),
  (17, [(3, 0, 0, vU, []), (20, 30, 8, vR 35 0, []), (1, 1, 0, vU, []), (24, 35, 0, vU, []), (4, 4, 0, vU, []), (3, 0, 0, vU, []), (0, 0, 0, vI 2, []), (1, 1, 0, vU, []), (1, 2, 0, vU, []), (1, 3, 0, vU, []), (44, 127, 5, vU, []), (4, 5, 0, vU, []), (1, 4, 0, vU, []), (0, 0, 0, vI 1, []), (42, 0, 47, vU, []), (40, 41, 1, vU, [])]),
  (41, [(1, 4, 0, vU, []), (0, 0, 0, vI 3, []), (42, 1, 61, vU, []), (40, 47, 1, vU, [])]),
  (47, [(1, 5, 0, vU, []), (3, 0, 0, vU, []), (20, 30, 9, vR 36 0, []), (0, 0, 0, vI 3, []), (1, 1, 0, vU, []), (8, 2, 0, vU, []), (24, 36, 0, vU, []), (8, 0, 0, vU, []), (40, 76, 0, vU, [])]),
  (61, [(1, 4, 0, vU, []), (0, 0, 0, vI 4, []), (42, 1, 74, vU, []), (40, 67, 1, vU, [])]),
  (67, [(1, 5, 0, vU, []), (0, 0, 0, vI 3, []), (8, 0, 0, vU, []), (40, 76, 0, vU, [])]),
  (74, [(1, 5, 0, vU, []), (40, 76, 1, vU, [])]),
  (76, [(0, 0, 0, vI 0, []), (0, 0, 0, vI 99, []), (44, 66, 3, vU, []), (45, 1, 0, vU, [])])]
theorem e_M_costOf_J47 (u2 u3 u4 : AV) (v1 : Int32) (v5 : Int32) (σ : Sg) : ab_ev tab_M_costOf [(66, cp_M_within), (127, cp_M_says)] [] finI 300 (ab_row tab_M_costOf 47) [(vR 30 0), (.inl v1), u2, u3, u4, (.inl v5)] [] σ = M_costOf_J47 v1 v5 σ := rfl
theorem e_M_costOf (p1 : Int32) (p2 : Int32) (p3 : Int32) (σ : Sg) : ab_ev tab_M_costOf [(66, cp_M_within), (127, cp_M_says)] [(47, kc_M_costOf_47 (M_costOf_J47))] finI 300 (ab_row tab_M_costOf 0) [(vR 30 0), (.inl p1), (.inl p2), (.inl p3), vU, vU] [] σ = M_costOf p1 p2 p3 σ := rfl
def kc_M_asks_13 {R : Type} (c : Int32 → Int32 → Int32 → Sg → Option R) : ACut R := fun L st σ => match L, st with
  | [.inr (.inr (.inl (g1, i1))), .inl v1, .inl v2, .inl v3, _, _], [] => match Nat.beq g1 30 && Nat.beq i1 0 with
    | true => c v1 v2 v3 σ
    | false => none
  | _, _ => none
def tab_M_asks : List (Nat × List AOp) := [(0, [(1, 1, 0, vU, []), (0, 0, 0, vI (-1), []), (42, 0, 13, vU, []), (40, 5, 1, vU, [])]),
  (5, [(3, 0, 0, vU, []), (1, 1, 0, vU, []), (44, 67, 2, vU, []), (41, 0, 47, vU, []), (40, 13, 1, vU, [])]),
  (13, [(1, 2, 0, vU, []), (11, 0, 0, vU, []), (0, 0, 0, vL 0, []), (0, 0, 0, vL 9923, []), (44, 65, 3, vU, []), (41, 0, 47, vU, []), (40, 25, 1, vU, [])]),
  (25, [(1, 2, 0, vU, []), (0, 0, 0, vI 100, []), (9, 1, 0, vU, []), (44, 68, 1, vU, []), (41, 0, 47, vU, []), (40, 35, 1, vU, [])]),
  (35, [(1, 3, 0, vU, []), (11, 0, 0, vU, []), (0, 0, 0, vL 0, []), (0, 0, 0, vL 3, []), (44, 65, 3, vU, []), (41, 1, 50, vU, []), (40, 47, 1, vU, [])]),
  (47, [(0, 0, 0, vI (-2), []), (45, 1, 0, vU, [])]),
  (50, [(1, 2, 0, vU, []), (0, 0, 0, vI 100, []), (9, 0, 0, vU, []), (4, 4, 0, vU, []), (1, 2, 0, vU, []), (0, 0, 0, vI 100, []), (9, 1, 0, vU, []), (4, 5, 0, vU, []), (1, 3, 0, vU, []), (0, 0, 0, vI 2, []), (42, 3, 101, vU, []), (40, 67, 1, vU, [])]),
  (67, [(1, 3, 0, vU, []), (41, 1, 91, vU, []), (40, 71, 1, vU, [])]),
  (71, [(3, 0, 0, vU, []), (1, 1, 0, vU, []), (1, 4, 0, vU, []), (1, 5, 0, vU, []), (44, 128, 4, vU, []), (41, 0, 87, vU, []), (40, 83, 1, vU, [])]),
  (83, [(0, 0, 0, vI 1, []), (40, 100, 0, vU, [])]),
  (87, [(0, 0, 0, vI 0, []), (40, 100, 0, vU, [])]),
  (91, [(3, 0, 0, vU, []), (1, 1, 0, vU, []), (1, 4, 0, vU, []), (1, 5, 0, vU, []), (44, 129, 4, vU, []), (40, 100, 1, vU, [])]),
  (100, [(45, 1, 0, vU, [])]),
  (101, [(1, 3, 0, vU, []), (0, 0, 0, vI 2, []), (42, 1, 118, vU, []), (40, 106, 1, vU, [])]),
  (106, [(3, 0, 0, vU, []), (1, 1, 0, vU, []), (1, 4, 0, vU, []), (1, 5, 0, vU, []), (44, 130, 4, vU, []), (40, 135, 0, vU, [])]),
  (118, [(1, 1, 0, vU, []), (0, 0, 0, vI (-1), []), (42, 1, 128, vU, []), (40, 123, 1, vU, [])]),
  (123, [(0, 0, 0, vI 99, []), (40, 135, 0, vU, [])]),
  (128, [(3, 0, 0, vU, []), (1, 1, 0, vU, []), (1, 4, 0, vU, []), (44, 126, 3, vU, []), (40, 135, 1, vU, [])]),
  (135, [(45, 1, 0, vU, [])])]
theorem e_M_asks_J13 (u4 u5 : AV) (v1 : Int32) (v2 : Int32) (v3 : Int32) (σ : Sg) : ab_ev tab_M_asks [(65, cp_M_in), (67, cp_M_isCoat), (68, cp_M_isHour), (126, cp_M_offOf), (128, cp_M_fits), (129, cp_M_fineOf), (130, cp_M_costOf)] [] finI 300 (ab_row tab_M_asks 13) [(vR 30 0), (.inl v1), (.inl v2), (.inl v3), u4, u5] [] σ = M_asks_J13 v1 v2 v3 σ := rfl
theorem e_M_asks (p1 : Int32) (p2 : Int32) (p3 : Int32) (σ : Sg) : ab_ev tab_M_asks [(65, cp_M_in), (67, cp_M_isCoat), (68, cp_M_isHour), (126, cp_M_offOf), (128, cp_M_fits), (129, cp_M_fineOf), (130, cp_M_costOf)] [(13, kc_M_asks_13 (M_asks_J13))] finI 300 (ab_row tab_M_asks 0) [(vR 30 0), (.inl p1), (.inl p2), (.inl p3), vU, vU] [] σ = M_asks p1 p2 p3 σ := rfl
def kc_M_pushed_3 {R : Type} (c : Int32 → Int32 → Int32 → Sg → Option R) : ACut R := fun L st σ => match L, st with
  | [.inr (.inr (.inl (g1, i1))), .inl v1, _, .inl v3, .inl v4], [] => match Nat.beq g1 30 && Nat.beq i1 0 with
    | true => c v1 v3 v4 σ
    | false => none
  | _, _ => none
def tab_M_pushed : List (Nat × List AOp) := [(0, [(1, 2, 0, vU, []), (4, 4, 0, vU, []), (40, 3, 1, vU, [])]),
  (3, [(1, 4, 0, vU, []), (0, 0, 0, vI 24, []), (42, 3, 48, vU, []), (40, 10, 1, vU, [])]),
  (10, [(3, 0, 0, vU, []), (20, 30, 7, vR 34 0, []), (0, 0, 0, vI 24, []), (1, 1, 0, vU, []), (8, 2, 0, vU, []), (1, 4, 0, vU, []), (8, 0, 0, vU, []), (3, 0, 0, vU, []), (20, 30, 7, vR 34 0, []), (0, 0, 0, vI 24, []), (1, 1, 0, vU, []), (8, 2, 0, vU, []), (1, 4, 0, vU, []), (8, 0, 0, vU, []), (24, 34, 0, vU, []), (1, 3, 0, vU, []), (8, 0, 0, vU, []), (0, 0, 0, vI 0, []), (0, 0, 0, vI 99, []), (44, 66, 3, vU, []), (25, 34, 0, vU, []), (7, 4, 0, vI 1, []), (40, 3, 0, vU, [])]),
  (48, [(45, 0, 0, vU, [])])]
theorem e_M_pushed_L3 (n : Nat) (u2 : AV) (v1 : Int32) (v3 : Int32) (v4 : Int32) (σ : Sg) : ab_ev tab_M_pushed [(66, cp_M_within)] [(3, kc_M_pushed_3 (M_pushed_L3 n))] finV 300 (ab_row tab_M_pushed 3) [(vR 30 0), (.inl v1), u2, (.inl v3), (.inl v4)] [] σ = M_pushed_L3 (n + 1) v1 v3 v4 σ := rfl
theorem e_M_pushed (p1 : Int32) (p2 : Int32) (p3 : Int32) (σ : Sg) : ab_ev tab_M_pushed [(66, cp_M_within)] [(3, kc_M_pushed_3 (M_pushed_L3 FU))] finV 300 (ab_row tab_M_pushed 0) [(vR 30 0), (.inl p1), (.inl p2), (.inl p3), vU] [] σ = M_pushed p1 p2 p3 σ := rfl
def tab_M_push : List (Nat × List AOp) := [(0, [(1, 1, 0, vU, []), (44, 69, 1, vU, []), (41, 0, 28, vU, []), (40, 7, 1, vU, [])]),
  (7, [(1, 2, 0, vU, []), (44, 68, 1, vU, []), (41, 0, 28, vU, []), (40, 14, 1, vU, [])]),
  (14, [(1, 3, 0, vU, []), (11, 0, 0, vU, []), (0, 0, 0, vL (-99), []), (0, 0, 0, vL 99, []), (44, 65, 3, vU, []), (41, 1, 31, vU, []), (40, 28, 1, vU, [])]),
  (28, [(0, 0, 0, vI (-2), []), (45, 1, 0, vU, [])]),
  (31, [(3, 0, 0, vU, []), (1, 1, 0, vU, []), (1, 2, 0, vU, []), (1, 3, 0, vU, []), (44, 135, 4, vU, []), (3, 0, 0, vU, []), (20, 30, 7, vR 34 0, []), (0, 0, 0, vI 24, []), (1, 1, 0, vU, []), (8, 2, 0, vU, []), (1, 2, 0, vU, []), (8, 0, 0, vU, []), (24, 34, 0, vU, []), (45, 1, 0, vU, [])])]
theorem e_M_push (p1 : Int32) (p2 : Int32) (p3 : Int32) (σ : Sg) : ab_ev tab_M_push [(65, cp_M_in), (68, cp_M_isHour), (69, cp_M_isOne), (135, cp_M_pushed)] [] finI 300 (ab_row tab_M_push 0) [(vR 30 0), (.inl p1), (.inl p2), (.inl p3)] [] σ = M_push p1 p2 p3 σ := rfl
def kc_M_planBad_28 {R : Type} (c : Int32 → Int32 → Sg → Option R) : ACut R := fun L st σ => match L, st with
  | [.inr (.inr (.inl (g1, i1))), .inl v1, .inl v2, _], [] => match Nat.beq g1 30 && Nat.beq i1 0 with
    | true => c v1 v2 σ
    | false => none
  | _, _ => none
def tab_M_planBad : List (Nat × List AOp) := [(0, [(3, 0, 0, vU, []), (20, 30, 38, vR 47 0, []), (1, 1, 0, vU, []), (26, 47, 0, vU, []), (41, 1, 12, vU, []), (40, 9, 1, vU, [])]),
  (9, [(0, 0, 0, vI (-11), []), (45, 1, 0, vU, [])]),
  (12, [(3, 0, 0, vU, []), (20, 30, 40, vR 49 0, []), (1, 1, 0, vU, []), (24, 49, 0, vU, []), (0, 0, 0, vI 24, []), (42, 5, 26, vU, []), (40, 23, 1, vU, [])]),
  (23, [(0, 0, 0, vI (-2), []), (45, 1, 0, vU, [])]),
  (26, [(0, 0, 0, vI 0, []), (4, 2, 0, vU, []), (40, 28, 1, vU, [])]),
  (28, [(1, 2, 0, vU, []), (3, 0, 0, vU, []), (20, 30, 40, vR 49 0, []), (1, 1, 0, vU, []), (24, 49, 0, vU, []), (42, 3, 72, vU, []), (40, 38, 1, vU, [])]),
  (38, [(3, 0, 0, vU, []), (20, 30, 41, vR 50 0, []), (0, 0, 0, vI 40, []), (1, 1, 0, vU, []), (8, 2, 0, vU, []), (1, 2, 0, vU, []), (8, 0, 0, vU, []), (24, 50, 0, vU, []), (4, 3, 0, vU, []), (1, 3, 0, vU, []), (0, 0, 0, vI (-1), []), (42, 0, 66, vU, []), (40, 55, 1, vU, [])]),
  (55, [(3, 0, 0, vU, []), (1, 3, 0, vU, []), (44, 67, 2, vU, []), (41, 1, 66, vU, []), (40, 63, 1, vU, [])]),
  (63, [(0, 0, 0, vI (-2), []), (45, 1, 0, vU, [])]),
  (66, [(7, 2, 0, vI 1, []), (40, 28, 0, vU, [])]),
  (72, [(0, 0, 0, vI 0, []), (45, 1, 0, vU, [])])]
theorem e_M_planBad_L28 (n : Nat) (u3 : AV) (v1 : Int32) (v2 : Int32) (σ : Sg) : ab_ev tab_M_planBad [(67, cp_M_isCoat)] [(28, kc_M_planBad_28 (M_planBad_L28 n))] finI 300 (ab_row tab_M_planBad 28) [(vR 30 0), (.inl v1), (.inl v2), u3] [] σ = M_planBad_L28 (n + 1) v1 v2 σ := rfl
theorem e_M_planBad (p1 : Int32) (σ : Sg) : ab_ev tab_M_planBad [(67, cp_M_isCoat)] [(28, kc_M_planBad_28 (M_planBad_L28 FU))] finI 300 (ab_row tab_M_planBad 0) [(vR 30 0), (.inl p1), vU, vU] [] σ = M_planBad p1 σ := rfl
def tab_M_wornAt : List (Nat × List AOp) := [(0, [(1, 2, 0, vU, []), (3, 0, 0, vU, []), (20, 30, 40, vR 49 0, []), (1, 1, 0, vU, []), (24, 49, 0, vU, []), (42, 3, 24, vU, []), (40, 10, 1, vU, [])]),
  (10, [(3, 0, 0, vU, []), (20, 30, 41, vR 50 0, []), (0, 0, 0, vI 40, []), (1, 1, 0, vU, []), (8, 2, 0, vU, []), (1, 2, 0, vU, []), (8, 0, 0, vU, []), (24, 50, 0, vU, []), (40, 25, 0, vU, [])]),
  (24, [(0, 0, 0, vI (-1), []), (40, 25, 1, vU, [])]),
  (25, [(45, 1, 0, vU, [])])]
theorem e_M_wornAt (p1 : Int32) (p2 : Int32) (σ : Sg) : ab_ev tab_M_wornAt [] [] finI 300 (ab_row tab_M_wornAt 0) [(vR 30 0), (.inl p1), (.inl p2)] [] σ = M_wornAt p1 p2 σ := rfl
def kc_M_planned_76 {R : Type} (c : Int32 → Int32 → Int32 → Int32 → Int32 → Int32 → Int32 → Int32 → Int32 → Int32 → Sg → Option R) : ACut R := fun L st σ => match L, st with
  | [.inr (.inr (.inl (g1, i1))), .inl v1, .inl v2, .inl v3, .inl v4, .inl v5, .inl v6, .inl v7, .inl v8, .inl v9, .inl v10], [] => match Nat.beq g1 30 && Nat.beq i1 0 with
    | true => c v1 v2 v3 v4 v5 v6 v7 v8 v9 v10 σ
    | false => none
  | _, _ => none
def kc_M_planned_15 {R : Type} (c : Int32 → Int32 → Int32 → Int32 → Int32 → Int32 → Int32 → Int32 → Sg → Option R) : ACut R := fun L st σ => match L, st with
  | [.inr (.inr (.inl (g1, i1))), .inl v1, .inl v2, .inl v3, .inl v4, .inl v5, .inl v6, .inl v7, .inl v8, _, _], [] => match Nat.beq g1 30 && Nat.beq i1 0 with
    | true => c v1 v2 v3 v4 v5 v6 v7 v8 σ
    | false => none
  | _, _ => none
def tab_M_planned : List (Nat × List AOp) := [(0, [(0, 0, 0, vI 0, []), (4, 4, 0, vU, []), (0, 0, 0, vI 0, []), (4, 5, 0, vU, []), (0, 0, 0, vI 0, []), (4, 6, 0, vU, []), (0, 0, 0, vI (-1), []), (4, 7, 0, vU, []), (0, 0, 0, vI 0, []), (4, 8, 0, vU, []), (40, 15, 1, vU, [])]),
  (15, [(1, 8, 0, vU, []), (0, 0, 0, vI 24, []), (42, 3, 112, vU, []), (40, 22, 1, vU, [])]),
  (22, [(3, 0, 0, vU, []), (1, 1, 0, vU, []), (1, 8, 0, vU, []), (44, 138, 3, vU, []), (4, 9, 0, vU, []), (3, 0, 0, vU, []), (20, 30, 7, vR 34 0, []), (0, 0, 0, vI 24, []), (1, 2, 0, vU, []), (8, 2, 0, vU, []), (1, 8, 0, vU, []), (8, 0, 0, vU, []), (24, 34, 0, vU, []), (4, 10, 0, vU, []), (3, 0, 0, vU, []), (1, 9, 0, vU, []), (1, 10, 0, vU, []), (1, 8, 0, vU, []), (44, 128, 4, vU, []), (41, 1, 76, vU, []), (40, 58, 1, vU, [])]),
  (58, [(1, 4, 0, vU, []), (3, 0, 0, vU, []), (1, 9, 0, vU, []), (1, 10, 0, vU, []), (1, 8, 0, vU, []), (44, 129, 4, vU, []), (8, 0, 0, vU, []), (4, 4, 0, vU, []), (7, 6, 0, vI 1, []), (40, 76, 1, vU, [])]),
  (76, [(1, 5, 0, vU, []), (1, 9, 0, vU, []), (1, 7, 0, vU, []), (42, 1, 89, vU, []), (40, 85, 1, vU, [])]),
  (85, [(0, 0, 0, vI 0, []), (40, 99, 0, vU, [])]),
  (89, [(3, 0, 0, vU, []), (1, 9, 0, vU, []), (1, 10, 0, vU, []), (1, 8, 0, vU, []), (44, 130, 4, vU, []), (40, 99, 1, vU, [])]),
  (99, [(8, 0, 0, vU, []), (4, 5, 0, vU, []), (1, 9, 0, vU, []), (4, 7, 0, vU, []), (7, 8, 0, vI 1, []), (40, 15, 0, vU, [])]),
  (112, [(1, 3, 0, vU, []), (41, 1, 124, vU, []), (40, 116, 1, vU, [])]),
  (116, [(1, 4, 0, vU, []), (1, 5, 0, vU, []), (8, 0, 0, vU, []), (40, 136, 0, vU, [])]),
  (124, [(1, 3, 0, vU, []), (0, 0, 0, vI 1, []), (42, 1, 134, vU, []), (40, 129, 1, vU, [])]),
  (129, [(1, 4, 0, vU, []), (40, 136, 0, vU, [])]),
  (134, [(1, 6, 0, vU, []), (40, 136, 1, vU, [])]),
  (136, [(45, 1, 0, vU, [])])]
theorem e_M_planned_J76 (k15 : Int32 → Int32 → Int32 → Int32 → Int32 → Int32 → Int32 → Int32 → Sg → Option (Int32 × Sg)) (v1 : Int32) (v2 : Int32) (v3 : Int32) (v4 : Int32) (v5 : Int32) (v6 : Int32) (v7 : Int32) (v8 : Int32) (v9 : Int32) (v10 : Int32) (σ : Sg) : ab_ev tab_M_planned [(128, cp_M_fits), (129, cp_M_fineOf), (130, cp_M_costOf), (138, cp_M_wornAt)] [(15, kc_M_planned_15 k15)] finI 300 (ab_row tab_M_planned 76) [(vR 30 0), (.inl v1), (.inl v2), (.inl v3), (.inl v4), (.inl v5), (.inl v6), (.inl v7), (.inl v8), (.inl v9), (.inl v10)] [] σ = M_planned_J76 k15 v1 v2 v3 v4 v5 v6 v7 v8 v9 v10 σ := rfl
theorem e_M_planned_L15 (n : Nat) (u9 u10 : AV) (v1 : Int32) (v2 : Int32) (v3 : Int32) (v4 : Int32) (v5 : Int32) (v6 : Int32) (v7 : Int32) (v8 : Int32) (σ : Sg) : ab_ev tab_M_planned [(128, cp_M_fits), (129, cp_M_fineOf), (130, cp_M_costOf), (138, cp_M_wornAt)] [(76, kc_M_planned_76 (M_planned_J76 (fun y0 y1 y2 y3 y4 y5 y6 y7 τ => M_planned_L15 n y0 y1 y2 y3 y4 y5 y6 y7 τ)))] finI 300 (ab_row tab_M_planned 15) [(vR 30 0), (.inl v1), (.inl v2), (.inl v3), (.inl v4), (.inl v5), (.inl v6), (.inl v7), (.inl v8), u9, u10] [] σ = M_planned_L15 (n + 1) v1 v2 v3 v4 v5 v6 v7 v8 σ := rfl
theorem e_M_planned (p1 : Int32) (p2 : Int32) (p3 : Int32) (σ : Sg) : ab_ev tab_M_planned [(128, cp_M_fits), (129, cp_M_fineOf), (130, cp_M_costOf), (138, cp_M_wornAt)] [(15, kc_M_planned_15 (M_planned_L15 FU))] finI 300 (ab_row tab_M_planned 0) [(vR 30 0), (.inl p1), (.inl p2), (.inl p3), vU, vU, vU, vU, vU, vU, vU] [] σ = M_planned p1 p2 p3 σ := rfl
def tab_M_isSheet : List (Nat × List AOp) := [(0, [(1, 0, 0, vU, []), (11, 0, 0, vU, []), (0, 0, 0, vL 0, []), (0, 0, 0, vL 3, []), (44, 65, 3, vU, []), (45, 3, 0, vU, [])])]
theorem e_M_isSheet (p0 : Int32) (σ : Sg) : ab_ev tab_M_isSheet [(65, cp_M_in)] [] finI 300 (ab_row tab_M_isSheet 0) [(.inl p0)] [] σ = M_isSheet p0 σ := rfl
def tab_M_plan : List (Nat × List AOp) := [(0, [(1, 1, 0, vU, []), (44, 170, 1, vU, []), (41, 0, 26, vU, []), (40, 7, 1, vU, [])]),
  (7, [(1, 2, 0, vU, []), (44, 69, 1, vU, []), (41, 0, 26, vU, []), (40, 14, 1, vU, [])]),
  (14, [(1, 3, 0, vU, []), (11, 0, 0, vU, []), (0, 0, 0, vL 0, []), (0, 0, 0, vL 2, []), (44, 65, 3, vU, []), (41, 1, 29, vU, []), (40, 26, 1, vU, [])]),
  (26, [(0, 0, 0, vI (-2), []), (45, 1, 0, vU, [])]),
  (29, [(3, 0, 0, vU, []), (1, 1, 0, vU, []), (44, 137, 2, vU, []), (4, 4, 0, vU, []), (1, 4, 0, vU, []), (41, 1, 51, vU, []), (40, 41, 1, vU, [])]),
  (41, [(3, 0, 0, vU, []), (1, 1, 0, vU, []), (1, 2, 0, vU, []), (1, 3, 0, vU, []), (44, 139, 4, vU, []), (40, 53, 0, vU, [])]),
  (51, [(1, 4, 0, vU, []), (40, 53, 1, vU, [])]),
  (53, [(45, 1, 0, vU, [])])]
theorem e_M_plan (p1 : Int32) (p2 : Int32) (p3 : Int32) (σ : Sg) : ab_ev tab_M_plan [(65, cp_M_in), (69, cp_M_isOne), (137, cp_M_planBad), (139, cp_M_planned), (170, cp_M_isSheet)] [] finI 300 (ab_row tab_M_plan 0) [(vR 30 0), (.inl p1), (.inl p2), (.inl p3), vU] [] σ = M_plan p1 p2 p3 σ := rfl
def kc_M_wear_41 {R : Type} (c : Int32 → Int32 → Int32 → Sg → Option R) : ACut R := fun L st σ => match L, st with
  | [.inr (.inr (.inl (g1, i1))), .inl v1, _, _, .inl v4, .inl v5, _], [] => match Nat.beq g1 30 && Nat.beq i1 0 with
    | true => c v1 v4 v5 σ
    | false => none
  | _, _ => none
def tab_M_wear : List (Nat × List AOp) := [(0, [(1, 1, 0, vU, []), (44, 170, 1, vU, []), (41, 0, 14, vU, []), (40, 7, 1, vU, [])]),
  (7, [(1, 2, 0, vU, []), (44, 69, 1, vU, []), (41, 1, 17, vU, []), (40, 14, 1, vU, [])]),
  (14, [(0, 0, 0, vI (-2), []), (45, 1, 0, vU, [])]),
  (17, [(3, 0, 0, vU, []), (1, 1, 0, vU, []), (44, 137, 2, vU, []), (4, 3, 0, vU, []), (1, 3, 0, vU, []), (41, 0, 29, vU, []), (40, 27, 1, vU, [])]),
  (27, [(1, 3, 0, vU, []), (45, 1, 0, vU, [])]),
  (29, [(3, 0, 0, vU, []), (1, 1, 0, vU, []), (1, 2, 0, vU, []), (0, 0, 0, vI 0, []), (44, 139, 4, vU, []), (4, 4, 0, vU, []), (0, 0, 0, vI 0, []), (4, 5, 0, vU, []), (40, 41, 1, vU, [])]),
  (41, [(1, 5, 0, vU, []), (3, 0, 0, vU, []), (20, 30, 40, vR 49 0, []), (1, 1, 0, vU, []), (24, 49, 0, vU, []), (42, 3, 104, vU, []), (40, 52, 1, vU, [])]),
  (52, [(3, 0, 0, vU, []), (1, 1, 0, vU, []), (1, 5, 0, vU, []), (44, 138, 3, vU, []), (4, 6, 0, vU, []), (1, 6, 0, vU, []), (0, 0, 0, vI (-1), []), (42, 0, 98, vU, []), (40, 67, 1, vU, [])]),
  (67, [(3, 0, 0, vU, []), (20, 30, 9, vR 36 0, []), (0, 0, 0, vI 3, []), (1, 6, 0, vU, []), (8, 2, 0, vU, []), (0, 0, 0, vI 2, []), (8, 0, 0, vU, []), (3, 0, 0, vU, []), (20, 30, 9, vR 36 0, []), (0, 0, 0, vI 3, []), (1, 6, 0, vU, []), (8, 2, 0, vU, []), (0, 0, 0, vI 2, []), (8, 0, 0, vU, []), (24, 36, 0, vU, []), (0, 0, 0, vI 1, []), (8, 0, 0, vU, []), (0, 0, 0, vI 0, []), (0, 0, 0, vI 999, []), (44, 66, 3, vU, []), (25, 36, 0, vU, []), (40, 98, 1, vU, [])]),
  (98, [(7, 5, 0, vI 1, []), (40, 41, 0, vU, [])]),
  (104, [(1, 4, 0, vU, []), (45, 1, 0, vU, [])])]
theorem e_M_wear_L41 (n : Nat) (u2 u3 u6 : AV) (v1 : Int32) (v4 : Int32) (v5 : Int32) (σ : Sg) : ab_ev tab_M_wear [(66, cp_M_within), (69, cp_M_isOne), (137, cp_M_planBad), (138, cp_M_wornAt), (139, cp_M_planned), (170, cp_M_isSheet)] [(41, kc_M_wear_41 (M_wear_L41 n))] finI 300 (ab_row tab_M_wear 41) [(vR 30 0), (.inl v1), u2, u3, (.inl v4), (.inl v5), u6] [] σ = M_wear_L41 (n + 1) v1 v4 v5 σ := rfl
theorem e_M_wear (p1 : Int32) (p2 : Int32) (σ : Sg) : ab_ev tab_M_wear [(66, cp_M_within), (69, cp_M_isOne), (137, cp_M_planBad), (138, cp_M_wornAt), (139, cp_M_planned), (170, cp_M_isSheet)] [(41, kc_M_wear_41 (M_wear_L41 FU))] finI 300 (ab_row tab_M_wear 0) [(vR 30 0), (.inl p1), (.inl p2), vU, vU, vU, vU] [] σ = M_wear p1 p2 σ := rfl
def kc_M_bitsOf_4 {R : Type} (c : Int32 → Int32 → Sg → Option R) : ACut R := fun L st σ => match L, st with
  | [_, .inl v1, .inl v2], [] => c v1 v2 σ
  | _, _ => none
def tab_M_bitsOf : List (Nat × List AOp) := [(0, [(0, 0, 0, vI 0, []), (4, 1, 0, vU, []), (1, 0, 0, vU, []), (4, 2, 0, vU, []), (40, 4, 1, vU, [])]),
  (4, [(1, 2, 0, vU, []), (41, 0, 20, vU, []), (40, 8, 1, vU, [])]),
  (8, [(7, 1, 0, vI 1, []), (1, 2, 0, vU, []), (1, 2, 0, vU, []), (0, 0, 0, vI 1, []), (8, 1, 0, vU, []), (8, 3, 0, vU, []), (4, 2, 0, vU, []), (40, 4, 0, vU, [])]),
  (20, [(1, 1, 0, vU, []), (45, 1, 0, vU, [])])]
theorem e_M_bitsOf_L4 (n : Nat) (u0 : AV) (v1 : Int32) (v2 : Int32) (σ : Sg) : ab_ev tab_M_bitsOf [] [(4, kc_M_bitsOf_4 (M_bitsOf_L4 n))] finI 300 (ab_row tab_M_bitsOf 4) [u0, (.inl v1), (.inl v2)] [] σ = M_bitsOf_L4 (n + 1) v1 v2 σ := rfl
theorem e_M_bitsOf (p0 : Int32) (σ : Sg) : ab_ev tab_M_bitsOf [] [(4, kc_M_bitsOf_4 (M_bitsOf_L4 FU))] finI 300 (ab_row tab_M_bitsOf 0) [(.inl p0), vU, vU] [] σ = M_bitsOf p0 σ := rfl
def kc_M_rights_2 {R : Type} (c : Int32 → Int32 → Sg → Option R) : ACut R := fun L st σ => match L, st with
  | [.inr (.inr (.inl (g1, i1))), .inl v1, .inl v2], [] => match Nat.beq g1 30 && Nat.beq i1 0 with
    | true => c v1 v2 σ
    | false => none
  | _, _ => none
def tab_M_rights : List (Nat × List AOp) := [(0, [(0, 0, 0, vI 0, []), (4, 2, 0, vU, []), (40, 2, 1, vU, [])]),
  (2, [(1, 2, 0, vU, []), (0, 0, 0, vI 24, []), (42, 3, 26, vU, []), (40, 8, 1, vU, [])]),
  (8, [(3, 0, 0, vU, []), (20, 30, 26, vR 37 0, []), (1, 2, 0, vU, []), (3, 0, 0, vU, []), (1, 1, 0, vU, []), (1, 2, 0, vU, []), (44, 132, 3, vU, []), (25, 37, 0, vU, []), (7, 2, 0, vI 1, []), (40, 2, 0, vU, [])]),
  (26, [(45, 0, 0, vU, [])])]
theorem e_M_rights_L2 (n : Nat) (v1 : Int32) (v2 : Int32) (σ : Sg) : ab_ev tab_M_rights [(132, cp_M_rightAt)] [(2, kc_M_rights_2 (M_rights_L2 n))] finV 300 (ab_row tab_M_rights 2) [(vR 30 0), (.inl v1), (.inl v2)] [] σ = M_rights_L2 (n + 1) v1 v2 σ := rfl
theorem e_M_rights (p1 : Int32) (σ : Sg) : ab_ev tab_M_rights [(132, cp_M_rightAt)] [(2, kc_M_rights_2 (M_rights_L2 FU))] finV 300 (ab_row tab_M_rights 0) [(vR 30 0), (.inl p1), vU] [] σ = M_rights p1 σ := rfl
def kc_M_covers_2 {R : Type} (c : Int32 → Int32 → Sg → Option R) : ACut R := fun L st σ => match L, st with
  | [.inr (.inr (.inl (g1, i1))), .inl v1, .inl v2], [] => match Nat.beq g1 30 && Nat.beq i1 0 with
    | true => c v1 v2 σ
    | false => none
  | _, _ => none
def tab_M_covers : List (Nat × List AOp) := [(0, [(0, 0, 0, vI 0, []), (4, 2, 0, vU, []), (40, 2, 1, vU, [])]),
  (2, [(1, 2, 0, vU, []), (0, 0, 0, vI 24, []), (42, 3, 36, vU, []), (40, 8, 1, vU, [])]),
  (8, [(3, 0, 0, vU, []), (20, 30, 26, vR 37 0, []), (1, 2, 0, vU, []), (24, 37, 0, vU, []), (41, 0, 30, vU, []), (40, 17, 1, vU, [])]),
  (17, [(3, 0, 0, vU, []), (20, 30, 26, vR 37 0, []), (1, 2, 0, vU, []), (24, 37, 0, vU, []), (1, 1, 0, vU, []), (8, 3, 0, vU, []), (41, 1, 30, vU, []), (40, 28, 1, vU, [])]),
  (28, [(0, 0, 0, vI 0, []), (45, 3, 0, vU, [])]),
  (30, [(7, 2, 0, vI 1, []), (40, 2, 0, vU, [])]),
  (36, [(0, 0, 0, vI 1, []), (45, 3, 0, vU, [])])]
theorem e_M_covers_L2 (n : Nat) (v1 : Int32) (v2 : Int32) (σ : Sg) : ab_ev tab_M_covers [] [(2, kc_M_covers_2 (M_covers_L2 n))] finI 300 (ab_row tab_M_covers 2) [(vR 30 0), (.inl v1), (.inl v2)] [] σ = M_covers_L2 (n + 1) v1 v2 σ := rfl
theorem e_M_covers (p1 : Int32) (σ : Sg) : ab_ev tab_M_covers [] [(2, kc_M_covers_2 (M_covers_L2 FU))] finI 300 (ab_row tab_M_covers 0) [(vR 30 0), (.inl p1), vU] [] σ = M_covers p1 σ := rfl
def kc_M_coverOf_9 {R : Type} (c : Int32 → Int32 → Sg → Option R) : ACut R := fun L st σ => match L, st with
  | [.inr (.inr (.inl (g1, i1))), _, .inl v2, .inl v3], [] => match Nat.beq g1 30 && Nat.beq i1 0 with
    | true => c v2 v3 σ
    | false => none
  | _, _ => none
def tab_M_coverOf : List (Nat × List AOp) := [(0, [(3, 0, 0, vU, []), (1, 1, 0, vU, []), (44, 143, 2, vU, []), (0, 0, 0, vI (-1), []), (4, 2, 0, vU, []), (0, 0, 0, vI 0, []), (4, 3, 0, vU, []), (40, 9, 1, vU, [])]),
  (9, [(1, 3, 0, vU, []), (0, 0, 0, vI 1, []), (3, 0, 0, vU, []), (18, 30, 10, vU, []), (8, 5, 0, vU, []), (42, 3, 51, vU, []), (40, 19, 1, vU, [])]),
  (19, [(1, 2, 0, vU, []), (0, 0, 0, vI (-1), []), (42, 0, 35, vU, []), (40, 24, 1, vU, [])]),
  (24, [(1, 3, 0, vU, []), (44, 142, 1, vU, []), (1, 2, 0, vU, []), (44, 142, 1, vU, []), (42, 3, 45, vU, []), (40, 35, 1, vU, [])]),
  (35, [(3, 0, 0, vU, []), (1, 3, 0, vU, []), (44, 144, 2, vU, []), (41, 0, 45, vU, []), (40, 43, 1, vU, [])]),
  (43, [(1, 3, 0, vU, []), (4, 2, 0, vU, []), (40, 45, 1, vU, [])]),
  (45, [(7, 3, 0, vI 1, []), (40, 9, 0, vU, [])]),
  (51, [(1, 2, 0, vU, []), (45, 1, 0, vU, [])])]
theorem e_M_coverOf_L9 (n : Nat) (u1 : AV) (v2 : Int32) (v3 : Int32) (σ : Sg) : ab_ev tab_M_coverOf [(142, cp_M_bitsOf), (143, cp_M_rights), (144, cp_M_covers)] [(9, kc_M_coverOf_9 (M_coverOf_L9 n))] finI 300 (ab_row tab_M_coverOf 9) [(vR 30 0), u1, (.inl v2), (.inl v3)] [] σ = M_coverOf_L9 (n + 1) v2 v3 σ := rfl
theorem e_M_coverOf (p1 : Int32) (σ : Sg) : ab_ev tab_M_coverOf [(142, cp_M_bitsOf), (143, cp_M_rights), (144, cp_M_covers)] [(9, kc_M_coverOf_9 (M_coverOf_L9 FU))] finI 300 (ab_row tab_M_coverOf 0) [(vR 30 0), (.inl p1), vU, vU] [] σ = M_coverOf p1 σ := rfl
def kc_M_bareOf_4 {R : Type} (c : Int32 → Int32 → Int32 → Sg → Option R) : ACut R := fun L st σ => match L, st with
  | [.inr (.inr (.inl (g1, i1))), .inl v1, .inl v2, .inl v3], [] => match Nat.beq g1 30 && Nat.beq i1 0 with
    | true => c v1 v2 v3 σ
    | false => none
  | _, _ => none
def tab_M_bareOf : List (Nat × List AOp) := [(0, [(0, 0, 0, vI 0, []), (4, 2, 0, vU, []), (0, 0, 0, vI 0, []), (4, 3, 0, vU, []), (40, 4, 1, vU, [])]),
  (4, [(1, 3, 0, vU, []), (0, 0, 0, vI 24, []), (42, 3, 35, vU, []), (40, 10, 1, vU, [])]),
  (10, [(1, 2, 0, vU, []), (3, 0, 0, vU, []), (1, 1, 0, vU, []), (1, 3, 0, vU, []), (44, 132, 3, vU, []), (41, 1, 24, vU, []), (40, 20, 1, vU, [])]),
  (20, [(0, 0, 0, vI 1, []), (40, 25, 0, vU, [])]),
  (24, [(0, 0, 0, vI 0, []), (40, 25, 1, vU, [])]),
  (25, [(1, 3, 0, vU, []), (8, 5, 0, vU, []), (8, 4, 0, vU, []), (4, 2, 0, vU, []), (7, 3, 0, vI 1, []), (40, 4, 0, vU, [])]),
  (35, [(1, 2, 0, vU, []), (45, 1, 0, vU, [])])]
theorem e_M_bareOf_L4 (n : Nat) (v1 : Int32) (v2 : Int32) (v3 : Int32) (σ : Sg) : ab_ev tab_M_bareOf [(132, cp_M_rightAt)] [(4, kc_M_bareOf_4 (M_bareOf_L4 n))] finI 300 (ab_row tab_M_bareOf 4) [(vR 30 0), (.inl v1), (.inl v2), (.inl v3)] [] σ = M_bareOf_L4 (n + 1) v1 v2 v3 σ := rfl
theorem e_M_bareOf (p1 : Int32) (σ : Sg) : ab_ev tab_M_bareOf [(132, cp_M_rightAt)] [(4, kc_M_bareOf_4 (M_bareOf_L4 FU))] finI 300 (ab_row tab_M_bareOf 0) [(vR 30 0), (.inl p1), vU, vU] [] σ = M_bareOf p1 σ := rfl
def kc_M_changesOf_223 {R : Type} (c : Int32 → Int32 → Sg → Option R) : ACut R := fun L st σ => match L, st with
  | [.inr (.inr (.inl (g1, i1))), _, .inl v2, .inl v3, _, _], [] => match Nat.beq g1 30 && Nat.beq i1 0 with
    | true => c v2 v3 σ
    | false => none
  | _, _ => none
def kc_M_changesOf_185 {R : Type} (c : Int32 → Int32 → Sg → Option R) : ACut R := fun L st σ => match L, st with
  | [.inr (.inr (.inl (g1, i1))), _, .inl v2, .inl v3, _, _], [] => match Nat.beq g1 30 && Nat.beq i1 0 with
    | true => c v2 v3 σ
    | false => none
  | _, _ => none
def kc_M_changesOf_95 {R : Type} (c : Int32 → Int32 → Int32 → Int32 → Sg → Option R) : ACut R := fun L st σ => match L, st with
  | [.inr (.inr (.inl (g1, i1))), _, .inl v2, .inl v3, .inl v4, .inl v5], [] => match Nat.beq g1 30 && Nat.beq i1 0 with
    | true => c v2 v3 v4 v5 σ
    | false => none
  | _, _ => none
def kc_M_changesOf_76 {R : Type} (c : Int32 → Int32 → Sg → Option R) : ACut R := fun L st σ => match L, st with
  | [.inr (.inr (.inl (g1, i1))), _, .inl v2, .inl v3, _, _], [] => match Nat.beq g1 30 && Nat.beq i1 0 with
    | true => c v2 v3 σ
    | false => none
  | _, _ => none
def kc_M_changesOf_68 {R : Type} (c : Int32 → Sg → Option R) : ACut R := fun L st σ => match L, st with
  | [.inr (.inr (.inl (g1, i1))), _, .inl v2, _, _, _], [] => match Nat.beq g1 30 && Nat.beq i1 0 with
    | true => c v2 σ
    | false => none
  | _, _ => none
def kc_M_changesOf_16 {R : Type} (c : Int32 → Sg → Option R) : ACut R := fun L st σ => match L, st with
  | [.inr (.inr (.inl (g1, i1))), _, .inl v2, _, _, _], [] => match Nat.beq g1 30 && Nat.beq i1 0 with
    | true => c v2 σ
    | false => none
  | _, _ => none
def tab_M_changesOf : List (Nat × List AOp) := [(0, [(3, 0, 0, vU, []), (1, 1, 0, vU, []), (44, 143, 2, vU, []), (3, 0, 0, vU, []), (18, 30, 10, vU, []), (41, 1, 14, vU, []), (40, 12, 1, vU, [])]),
  (12, [(0, 0, 0, vI 0, []), (45, 1, 0, vU, [])]),
  (14, [(0, 0, 0, vI 0, []), (4, 2, 0, vU, []), (40, 16, 1, vU, [])]),
  (16, [(1, 2, 0, vU, []), (3, 0, 0, vU, []), (18, 30, 10, vU, []), (42, 3, 66, vU, []), (40, 24, 1, vU, [])]),
  (24, [(3, 0, 0, vU, []), (20, 30, 27, vR 38 0, []), (1, 2, 0, vU, []), (3, 0, 0, vU, []), (20, 30, 26, vR 37 0, []), (0, 0, 0, vI 0, []), (24, 37, 0, vU, []), (41, 0, 52, vU, []), (40, 38, 1, vU, [])]),
  (38, [(3, 0, 0, vU, []), (20, 30, 26, vR 37 0, []), (0, 0, 0, vI 0, []), (24, 37, 0, vU, []), (1, 2, 0, vU, []), (8, 6, 0, vU, []), (0, 0, 0, vI 1, []), (8, 3, 0, vU, []), (0, 0, 0, vI 1, []), (42, 1, 56, vU, []), (40, 52, 1, vU, [])]),
  (52, [(0, 0, 0, vI 0, []), (40, 59, 0, vU, [])]),
  (56, [(0, 0, 0, vI 1000000, []), (40, 59, 1, vU, [])]),
  (59, [(25, 38, 0, vU, []), (7, 2, 0, vI 1, []), (40, 16, 0, vU, [])]),
  (66, [(0, 0, 0, vI 1, []), (4, 2, 0, vU, []), (40, 68, 1, vU, [])]),
  (68, [(1, 2, 0, vU, []), (0, 0, 0, vI 24, []), (42, 3, 217, vU, []), (40, 74, 1, vU, [])]),
  (74, [(0, 0, 0, vI 0, []), (4, 3, 0, vU, []), (40, 76, 1, vU, [])]),
  (76, [(1, 3, 0, vU, []), (3, 0, 0, vU, []), (18, 30, 10, vU, []), (42, 3, 183, vU, []), (40, 84, 1, vU, [])]),
  (84, [(3, 0, 0, vU, []), (20, 30, 27, vR 38 0, []), (1, 3, 0, vU, []), (24, 38, 0, vU, []), (4, 4, 0, vU, []), (0, 0, 0, vI 0, []), (4, 5, 0, vU, []), (40, 95, 1, vU, [])]),
  (95, [(1, 5, 0, vU, []), (3, 0, 0, vU, []), (18, 30, 10, vU, []), (42, 3, 140, vU, []), (40, 104, 1, vU, [])]),
  (104, [(3, 0, 0, vU, []), (20, 30, 27, vR 38 0, []), (1, 5, 0, vU, []), (24, 38, 0, vU, []), (0, 0, 0, vI 1, []), (8, 0, 0, vU, []), (1, 4, 0, vU, []), (42, 3, 130, vU, []), (40, 118, 1, vU, [])]),
  (118, [(3, 0, 0, vU, []), (20, 30, 27, vR 38 0, []), (1, 5, 0, vU, []), (24, 38, 0, vU, []), (0, 0, 0, vI 1, []), (8, 0, 0, vU, []), (40, 132, 0, vU, [])]),
  (130, [(1, 4, 0, vU, []), (40, 132, 1, vU, [])]),
  (132, [(4, 4, 0, vU, []), (7, 5, 0, vI 1, []), (40, 95, 0, vU, [])]),
  (140, [(3, 0, 0, vU, []), (20, 30, 28, vR 39 0, []), (1, 3, 0, vU, []), (3, 0, 0, vU, []), (20, 30, 26, vR 37 0, []), (1, 2, 0, vU, []), (24, 37, 0, vU, []), (41, 0, 168, vU, []), (40, 154, 1, vU, [])]),
  (154, [(3, 0, 0, vU, []), (20, 30, 26, vR 37 0, []), (1, 2, 0, vU, []), (24, 37, 0, vU, []), (1, 3, 0, vU, []), (8, 6, 0, vU, []), (0, 0, 0, vI 1, []), (8, 3, 0, vU, []), (0, 0, 0, vI 1, []), (42, 1, 173, vU, []), (40, 168, 1, vU, [])]),
  (168, [(1, 4, 0, vU, []), (40, 176, 0, vU, [])]),
  (173, [(0, 0, 0, vI 1000000, []), (40, 176, 1, vU, [])]),
  (176, [(25, 39, 0, vU, []), (7, 3, 0, vI 1, []), (40, 76, 0, vU, [])]),
  (183, [(0, 0, 0, vI 0, []), (4, 3, 0, vU, []), (40, 185, 1, vU, [])]),
  (185, [(1, 3, 0, vU, []), (3, 0, 0, vU, []), (18, 30, 10, vU, []), (42, 3, 211, vU, []), (40, 193, 1, vU, [])]),
  (193, [(3, 0, 0, vU, []), (20, 30, 27, vR 38 0, []), (1, 3, 0, vU, []), (3, 0, 0, vU, []), (20, 30, 28, vR 39 0, []), (1, 3, 0, vU, []), (24, 39, 0, vU, []), (25, 38, 0, vU, []), (7, 3, 0, vI 1, []), (40, 185, 0, vU, [])]),
  (211, [(7, 2, 0, vI 1, []), (40, 68, 0, vU, [])]),
  (217, [(0, 0, 0, vI 1000000, []), (4, 2, 0, vU, []), (0, 0, 0, vI 0, []), (4, 3, 0, vU, []), (40, 223, 1, vU, [])]),
  (223, [(1, 3, 0, vU, []), (3, 0, 0, vU, []), (18, 30, 10, vU, []), (42, 3, 258, vU, []), (40, 231, 1, vU, [])]),
  (231, [(3, 0, 0, vU, []), (20, 30, 27, vR 38 0, []), (1, 3, 0, vU, []), (24, 38, 0, vU, []), (1, 2, 0, vU, []), (42, 3, 250, vU, []), (40, 241, 1, vU, [])]),
  (241, [(3, 0, 0, vU, []), (20, 30, 27, vR 38 0, []), (1, 3, 0, vU, []), (24, 38, 0, vU, []), (40, 251, 0, vU, [])]),
  (250, [(1, 2, 0, vU, []), (40, 251, 1, vU, [])]),
  (251, [(4, 2, 0, vU, []), (7, 3, 0, vI 1, []), (40, 223, 0, vU, [])]),
  (258, [(1, 2, 0, vU, []), (45, 1, 0, vU, [])])]
theorem e_M_changesOf_L223 (n : Nat) (u1 u4 u5 : AV) (v2 : Int32) (v3 : Int32) (σ : Sg) : ab_ev tab_M_changesOf [(143, cp_M_rights)] [(223, kc_M_changesOf_223 (M_changesOf_L223 n))] finI 300 (ab_row tab_M_changesOf 223) [(vR 30 0), u1, (.inl v2), (.inl v3), u4, u5] [] σ = M_changesOf_L223 (n + 1) v2 v3 σ := rfl
theorem e_M_changesOf_L185 (k68 : Int32 → Sg → Option (Int32 × Sg)) (n : Nat) (u1 u4 u5 : AV) (v2 : Int32) (v3 : Int32) (σ : Sg) : ab_ev tab_M_changesOf [(143, cp_M_rights)] [(68, kc_M_changesOf_68 k68), (185, kc_M_changesOf_185 (M_changesOf_L185 k68 n))] finI 300 (ab_row tab_M_changesOf 185) [(vR 30 0), u1, (.inl v2), (.inl v3), u4, u5] [] σ = M_changesOf_L185 k68 (n + 1) v2 v3 σ := rfl
theorem e_M_changesOf_L95 (k68 : Int32 → Sg → Option (Int32 × Sg)) (k76 : Int32 → Int32 → Sg → Option (Int32 × Sg)) (n : Nat) (u1 : AV) (v2 : Int32) (v3 : Int32) (v4 : Int32) (v5 : Int32) (σ : Sg) : ab_ev tab_M_changesOf [(143, cp_M_rights)] [(76, kc_M_changesOf_76 k76), (95, kc_M_changesOf_95 (M_changesOf_L95 k68 k76 n))] finI 300 (ab_row tab_M_changesOf 95) [(vR 30 0), u1, (.inl v2), (.inl v3), (.inl v4), (.inl v5)] [] σ = M_changesOf_L95 k68 k76 (n + 1) v2 v3 v4 v5 σ := rfl
theorem e_M_changesOf_L76 (k68 : Int32 → Sg → Option (Int32 × Sg)) (n : Nat) (u1 u4 u5 : AV) (v2 : Int32) (v3 : Int32) (σ : Sg) : ab_ev tab_M_changesOf [(143, cp_M_rights)] [(95, kc_M_changesOf_95 (M_changesOf_L95 k68 (fun y0 y1 τ => M_changesOf_L76 k68 n y0 y1 τ) FU)), (185, kc_M_changesOf_185 (M_changesOf_L185 k68 FU))] finI 300 (ab_row tab_M_changesOf 76) [(vR 30 0), u1, (.inl v2), (.inl v3), u4, u5] [] σ = M_changesOf_L76 k68 (n + 1) v2 v3 σ := rfl
theorem e_M_changesOf_L68 (n : Nat) (u1 u3 u4 u5 : AV) (v2 : Int32) (σ : Sg) : ab_ev tab_M_changesOf [(143, cp_M_rights)] [(76, kc_M_changesOf_76 (M_changesOf_L76 (fun y0 τ => M_changesOf_L68 n y0 τ) FU)), (223, kc_M_changesOf_223 (M_changesOf_L223 FU))] finI 300 (ab_row tab_M_changesOf 68) [(vR 30 0), u1, (.inl v2), u3, u4, u5] [] σ = M_changesOf_L68 (n + 1) v2 σ := rfl
theorem e_M_changesOf_L16 (n : Nat) (u1 u3 u4 u5 : AV) (v2 : Int32) (σ : Sg) : ab_ev tab_M_changesOf [(143, cp_M_rights)] [(16, kc_M_changesOf_16 (M_changesOf_L16 n)), (68, kc_M_changesOf_68 (M_changesOf_L68 FU))] finI 300 (ab_row tab_M_changesOf 16) [(vR 30 0), u1, (.inl v2), u3, u4, u5] [] σ = M_changesOf_L16 (n + 1) v2 σ := rfl
theorem e_M_changesOf (p1 : Int32) (σ : Sg) : ab_ev tab_M_changesOf [(143, cp_M_rights)] [(16, kc_M_changesOf_16 (M_changesOf_L16 FU))] finI 300 (ab_row tab_M_changesOf 0) [(vR 30 0), (.inl p1), vU, vU, vU, vU] [] σ = M_changesOf p1 σ := rfl
def kc_M_byCoat_31 {R : Type} (c : Int32 → Int32 → Int32 → Int32 → Sg → Option R) : ACut R := fun L st σ => match L, st with
  | [.inr (.inr (.inl (g1, i1))), .inl v1, .inl v2, _], [.inl w1, .inl w0] => match Nat.beq g1 30 && Nat.beq i1 0 with
    | true => c v1 v2 w0 w1 σ
    | false => none
  | _, _ => none
def tab_M_byCoat : List (Nat × List AOp) := [(0, [(3, 0, 0, vU, []), (20, 30, 30, vR 41 0, []), (0, 0, 0, vI 9, []), (1, 1, 0, vU, []), (8, 2, 0, vU, []), (1, 2, 0, vU, []), (8, 0, 0, vU, []), (24, 41, 0, vU, []), (1, 2, 0, vU, []), (1, 3, 0, vU, []), (42, 1, 20, vU, []), (40, 16, 1, vU, [])]),
  (16, [(0, 0, 0, vI 0, []), (40, 31, 0, vU, [])]),
  (20, [(3, 0, 0, vU, []), (20, 30, 31, vR 42 0, []), (0, 0, 0, vI 9, []), (1, 1, 0, vU, []), (8, 2, 0, vU, []), (1, 2, 0, vU, []), (8, 0, 0, vU, []), (24, 42, 0, vU, []), (40, 31, 1, vU, [])]),
  (31, [(8, 0, 0, vU, []), (3, 0, 0, vU, []), (20, 30, 29, vR 40 0, []), (0, 0, 0, vI 9, []), (1, 1, 0, vU, []), (0, 0, 0, vI 1, []), (8, 0, 0, vU, []), (8, 2, 0, vU, []), (1, 2, 0, vU, []), (8, 0, 0, vU, []), (24, 40, 0, vU, []), (8, 0, 0, vU, []), (45, 1, 0, vU, [])])]
theorem e_M_byCoat_J31 (u3 : AV) (v1 : Int32) (v2 : Int32) (w0 : Int32) (w1 : Int32) (σ : Sg) : ab_ev tab_M_byCoat [] [] finI 300 (ab_row tab_M_byCoat 31) [(vR 30 0), (.inl v1), (.inl v2), u3] [(.inl w1), (.inl w0)] σ = M_byCoat_J31 v1 v2 w0 w1 σ := rfl
theorem e_M_byCoat (p1 : Int32) (p2 : Int32) (p3 : Int32) (σ : Sg) : ab_ev tab_M_byCoat [] [(31, kc_M_byCoat_31 (M_byCoat_J31))] finI 300 (ab_row tab_M_byCoat 0) [(vR 30 0), (.inl p1), (.inl p2), (.inl p3)] [] σ = M_byCoat p1 p2 p3 σ := rfl
def kc_M_cheapOf_242 {R : Type} (c : Int32 → Int32 → Int32 → Sg → Option R) : ACut R := fun L st σ => match L, st with
  | [.inr (.inr (.inl (g1, i1))), _, .inl v2, .inl v3, .inl v4, _], [] => match Nat.beq g1 30 && Nat.beq i1 0 with
    | true => c v2 v3 v4 σ
    | false => none
  | _, _ => none
def kc_M_cheapOf_233 {R : Type} (c : Int32 → Int32 → Sg → Option R) : ACut R := fun L st σ => match L, st with
  | [.inr (.inr (.inl (g1, i1))), _, .inl v2, .inl v3, _, _], [] => match Nat.beq g1 30 && Nat.beq i1 0 with
    | true => c v2 v3 σ
    | false => none
  | _, _ => none
def kc_M_cheapOf_161 {R : Type} (c : Int32 → Int32 → Int32 → Int32 → Sg → Option R) : ACut R := fun L st σ => match L, st with
  | [.inr (.inr (.inl (g1, i1))), _, .inl v2, .inl v3, .inl v4, .inl v5], [] => match Nat.beq g1 30 && Nat.beq i1 0 with
    | true => c v2 v3 v4 v5 σ
    | false => none
  | _, _ => none
def kc_M_cheapOf_141 {R : Type} (c : Int32 → Int32 → Sg → Option R) : ACut R := fun L st σ => match L, st with
  | [.inr (.inr (.inl (g1, i1))), _, .inl v2, .inl v3, _, _], [] => match Nat.beq g1 30 && Nat.beq i1 0 with
    | true => c v2 v3 σ
    | false => none
  | _, _ => none
def kc_M_cheapOf_135 {R : Type} (c : Int32 → Sg → Option R) : ACut R := fun L st σ => match L, st with
  | [.inr (.inr (.inl (g1, i1))), _, .inl v2, _, _, _], [] => match Nat.beq g1 30 && Nat.beq i1 0 with
    | true => c v2 σ
    | false => none
  | _, _ => none
def kc_M_cheapOf_107 {R : Type} (c : Int32 → Sg → Option R) : ACut R := fun L st σ => match L, st with
  | [.inr (.inr (.inl (g1, i1))), _, .inl v2, _, _, _], [] => match Nat.beq g1 30 && Nat.beq i1 0 with
    | true => c v2 σ
    | false => none
  | _, _ => none
def kc_M_cheapOf_70 {R : Type} (c : Int32 → Int32 → Int32 → Int32 → Int32 → Int32 → Sg → Option R) : ACut R := fun L st σ => match L, st with
  | [.inr (.inr (.inl (g1, i1))), .inl v1, .inl v2, .inl v3, .inl v4, _], [.inl w2, .inl w1, .inr (.inr (.inl (g2, i2)))] => match Nat.beq g1 30 && Nat.beq i1 0 && Nat.beq g2 41 && Nat.beq i2 0 with
    | true => c v1 v2 v3 v4 w1 w2 σ
    | false => none
  | _, _ => none
def kc_M_cheapOf_23 {R : Type} (c : Int32 → Int32 → Int32 → Int32 → Sg → Option R) : ACut R := fun L st σ => match L, st with
  | [.inr (.inr (.inl (g1, i1))), .inl v1, .inl v2, .inl v3, .inl v4, _], [] => match Nat.beq g1 30 && Nat.beq i1 0 with
    | true => c v1 v2 v3 v4 σ
    | false => none
  | _, _ => none
def kc_M_cheapOf_2 {R : Type} (c : Int32 → Int32 → Sg → Option R) : ACut R := fun L st σ => match L, st with
  | [.inr (.inr (.inl (g1, i1))), .inl v1, .inl v2, _, _, _], [] => match Nat.beq g1 30 && Nat.beq i1 0 with
    | true => c v1 v2 σ
    | false => none
  | _, _ => none
def tab_M_cheapOf : List (Nat × List AOp) := [(0, [(0, 0, 0, vI 0, []), (4, 2, 0, vU, []), (40, 2, 1, vU, [])]),
  (2, [(1, 2, 0, vU, []), (0, 0, 0, vI 24, []), (42, 3, 105, vU, []), (40, 8, 1, vU, [])]),
  (8, [(3, 0, 0, vU, []), (20, 30, 7, vR 34 0, []), (0, 0, 0, vI 24, []), (1, 1, 0, vU, []), (8, 2, 0, vU, []), (1, 2, 0, vU, []), (8, 0, 0, vU, []), (24, 34, 0, vU, []), (4, 3, 0, vU, []), (0, 0, 0, vI 0, []), (4, 4, 0, vU, []), (40, 23, 1, vU, [])]),
  (23, [(1, 4, 0, vU, []), (3, 0, 0, vU, []), (18, 30, 10, vU, []), (42, 4, 99, vU, []), (40, 32, 1, vU, [])]),
  (32, [(3, 0, 0, vU, []), (20, 30, 30, vR 41 0, []), (0, 0, 0, vI 9, []), (1, 2, 0, vU, []), (8, 2, 0, vU, []), (1, 4, 0, vU, []), (8, 0, 0, vU, []), (3, 0, 0, vU, []), (1, 4, 0, vU, []), (0, 0, 0, vI 1, []), (8, 1, 0, vU, []), (1, 3, 0, vU, []), (1, 2, 0, vU, []), (44, 128, 4, vU, []), (41, 0, 60, vU, []), (40, 56, 1, vU, [])]),
  (56, [(0, 0, 0, vI 0, []), (40, 70, 0, vU, [])]),
  (60, [(3, 0, 0, vU, []), (1, 4, 0, vU, []), (0, 0, 0, vI 1, []), (8, 1, 0, vU, []), (1, 3, 0, vU, []), (1, 2, 0, vU, []), (44, 129, 4, vU, []), (40, 70, 1, vU, [])]),
  (70, [(25, 41, 0, vU, []), (3, 0, 0, vU, []), (20, 30, 31, vR 42 0, []), (0, 0, 0, vI 9, []), (1, 2, 0, vU, []), (8, 2, 0, vU, []), (1, 4, 0, vU, []), (8, 0, 0, vU, []), (3, 0, 0, vU, []), (1, 4, 0, vU, []), (0, 0, 0, vI 1, []), (8, 1, 0, vU, []), (1, 3, 0, vU, []), (1, 2, 0, vU, []), (44, 130, 4, vU, []), (25, 42, 0, vU, []), (7, 4, 0, vI 1, []), (40, 23, 0, vU, [])]),
  (99, [(7, 2, 0, vI 1, []), (40, 2, 0, vU, [])]),
  (105, [(0, 0, 0, vI 0, []), (4, 2, 0, vU, []), (40, 107, 1, vU, [])]),
  (107, [(1, 2, 0, vU, []), (3, 0, 0, vU, []), (18, 30, 10, vU, []), (42, 4, 132, vU, []), (40, 115, 1, vU, [])]),
  (115, [(3, 0, 0, vU, []), (20, 30, 29, vR 40 0, []), (0, 0, 0, vI 216, []), (1, 2, 0, vU, []), (8, 0, 0, vU, []), (0, 0, 0, vI 0, []), (25, 40, 0, vU, []), (7, 2, 0, vI 1, []), (40, 107, 0, vU, [])]),
  (132, [(0, 0, 0, vI 23, []), (4, 2, 0, vU, []), (40, 135, 1, vU, [])]),
  (135, [(1, 2, 0, vU, []), (41, 2, 229, vU, []), (40, 139, 1, vU, [])]),
  (139, [(0, 0, 0, vI 0, []), (4, 3, 0, vU, []), (40, 141, 1, vU, [])]),
  (141, [(1, 3, 0, vU, []), (3, 0, 0, vU, []), (18, 30, 10, vU, []), (42, 4, 223, vU, []), (40, 149, 1, vU, [])]),
  (149, [(3, 0, 0, vU, []), (1, 2, 0, vU, []), (0, 0, 0, vI 0, []), (1, 3, 0, vU, []), (44, 148, 4, vU, []), (4, 4, 0, vU, []), (0, 0, 0, vI 1, []), (4, 5, 0, vU, []), (40, 161, 1, vU, [])]),
  (161, [(1, 5, 0, vU, []), (3, 0, 0, vU, []), (18, 30, 10, vU, []), (42, 4, 204, vU, []), (40, 170, 1, vU, [])]),
  (170, [(3, 0, 0, vU, []), (1, 2, 0, vU, []), (1, 5, 0, vU, []), (1, 3, 0, vU, []), (44, 148, 4, vU, []), (1, 4, 0, vU, []), (42, 3, 194, vU, []), (40, 183, 1, vU, [])]),
  (183, [(3, 0, 0, vU, []), (1, 2, 0, vU, []), (1, 5, 0, vU, []), (1, 3, 0, vU, []), (44, 148, 4, vU, []), (40, 196, 0, vU, [])]),
  (194, [(1, 4, 0, vU, []), (40, 196, 1, vU, [])]),
  (196, [(4, 4, 0, vU, []), (7, 5, 0, vI 1, []), (40, 161, 0, vU, [])]),
  (204, [(3, 0, 0, vU, []), (20, 30, 29, vR 40 0, []), (0, 0, 0, vI 9, []), (1, 2, 0, vU, []), (8, 2, 0, vU, []), (1, 3, 0, vU, []), (8, 0, 0, vU, []), (1, 4, 0, vU, []), (25, 40, 0, vU, []), (7, 3, 0, vI 1, []), (40, 141, 0, vU, [])]),
  (223, [(7, 2, 0, vI (-1), []), (40, 135, 0, vU, [])]),
  (229, [(0, 0, 0, vI 0, []), (4, 2, 0, vU, []), (0, 0, 0, vI 0, []), (4, 3, 0, vU, []), (40, 233, 1, vU, [])]),
  (233, [(1, 3, 0, vU, []), (0, 0, 0, vI 24, []), (42, 3, 289, vU, []), (40, 239, 1, vU, [])]),
  (239, [(0, 0, 0, vI 0, []), (4, 4, 0, vU, []), (40, 242, 1, vU, [])]),
  (242, [(3, 0, 0, vU, []), (1, 3, 0, vU, []), (1, 4, 0, vU, []), (1, 2, 0, vU, []), (44, 148, 4, vU, []), (3, 0, 0, vU, []), (20, 30, 29, vR 40 0, []), (0, 0, 0, vI 9, []), (1, 3, 0, vU, []), (8, 2, 0, vU, []), (1, 2, 0, vU, []), (8, 0, 0, vU, []), (24, 40, 0, vU, []), (42, 0, 270, vU, []), (40, 264, 1, vU, [])]),
  (264, [(7, 4, 0, vI 1, []), (40, 242, 0, vU, [])]),
  (270, [(3, 0, 0, vU, []), (20, 30, 32, vR 43 0, []), (1, 3, 0, vU, []), (1, 4, 0, vU, []), (0, 0, 0, vI 1, []), (8, 1, 0, vU, []), (25, 43, 0, vU, []), (1, 4, 0, vU, []), (4, 2, 0, vU, []), (7, 3, 0, vI 1, []), (40, 233, 0, vU, [])]),
  (289, [(3, 0, 0, vU, []), (20, 30, 29, vR 40 0, []), (0, 0, 0, vI 0, []), (24, 40, 0, vU, []), (45, 1, 0, vU, [])])]
theorem e_M_cheapOf_L242 (k233 : Int32 → Int32 → Sg → Option (Int32 × Sg)) (n : Nat) (u1 u5 : AV) (v2 : Int32) (v3 : Int32) (v4 : Int32) (σ : Sg) : ab_ev tab_M_cheapOf [(128, cp_M_fits), (129, cp_M_fineOf), (130, cp_M_costOf), (148, cp_M_byCoat)] [(233, kc_M_cheapOf_233 k233), (242, kc_M_cheapOf_242 (M_cheapOf_L242 k233 n))] finI 300 (ab_row tab_M_cheapOf 242) [(vR 30 0), u1, (.inl v2), (.inl v3), (.inl v4), u5] [] σ = M_cheapOf_L242 k233 (n + 1) v2 v3 v4 σ := rfl
theorem e_M_cheapOf_L233 (n : Nat) (u1 u4 u5 : AV) (v2 : Int32) (v3 : Int32) (σ : Sg) : ab_ev tab_M_cheapOf [(128, cp_M_fits), (129, cp_M_fineOf), (130, cp_M_costOf), (148, cp_M_byCoat)] [(242, kc_M_cheapOf_242 (M_cheapOf_L242 (fun y0 y1 τ => M_cheapOf_L233 n y0 y1 τ) FU))] finI 300 (ab_row tab_M_cheapOf 233) [(vR 30 0), u1, (.inl v2), (.inl v3), u4, u5] [] σ = M_cheapOf_L233 (n + 1) v2 v3 σ := rfl
theorem e_M_cheapOf_L161 (k135 : Int32 → Sg → Option (Int32 × Sg)) (k141 : Int32 → Int32 → Sg → Option (Int32 × Sg)) (n : Nat) (u1 : AV) (v2 : Int32) (v3 : Int32) (v4 : Int32) (v5 : Int32) (σ : Sg) : ab_ev tab_M_cheapOf [(128, cp_M_fits), (129, cp_M_fineOf), (130, cp_M_costOf), (148, cp_M_byCoat)] [(141, kc_M_cheapOf_141 k141), (161, kc_M_cheapOf_161 (M_cheapOf_L161 k135 k141 n))] finI 300 (ab_row tab_M_cheapOf 161) [(vR 30 0), u1, (.inl v2), (.inl v3), (.inl v4), (.inl v5)] [] σ = M_cheapOf_L161 k135 k141 (n + 1) v2 v3 v4 v5 σ := rfl
theorem e_M_cheapOf_L141 (k135 : Int32 → Sg → Option (Int32 × Sg)) (n : Nat) (u1 u4 u5 : AV) (v2 : Int32) (v3 : Int32) (σ : Sg) : ab_ev tab_M_cheapOf [(128, cp_M_fits), (129, cp_M_fineOf), (130, cp_M_costOf), (148, cp_M_byCoat)] [(135, kc_M_cheapOf_135 k135), (161, kc_M_cheapOf_161 (M_cheapOf_L161 k135 (fun y0 y1 τ => M_cheapOf_L141 k135 n y0 y1 τ) FU))] finI 300 (ab_row tab_M_cheapOf 141) [(vR 30 0), u1, (.inl v2), (.inl v3), u4, u5] [] σ = M_cheapOf_L141 k135 (n + 1) v2 v3 σ := rfl
theorem e_M_cheapOf_L135 (n : Nat) (u1 u3 u4 u5 : AV) (v2 : Int32) (σ : Sg) : ab_ev tab_M_cheapOf [(128, cp_M_fits), (129, cp_M_fineOf), (130, cp_M_costOf), (148, cp_M_byCoat)] [(141, kc_M_cheapOf_141 (M_cheapOf_L141 (fun y0 τ => M_cheapOf_L135 n y0 τ) FU)), (233, kc_M_cheapOf_233 (M_cheapOf_L233 FU))] finI 300 (ab_row tab_M_cheapOf 135) [(vR 30 0), u1, (.inl v2), u3, u4, u5] [] σ = M_cheapOf_L135 (n + 1) v2 σ := rfl
theorem e_M_cheapOf_L107 (n : Nat) (u1 u3 u4 u5 : AV) (v2 : Int32) (σ : Sg) : ab_ev tab_M_cheapOf [(128, cp_M_fits), (129, cp_M_fineOf), (130, cp_M_costOf), (148, cp_M_byCoat)] [(107, kc_M_cheapOf_107 (M_cheapOf_L107 n)), (135, kc_M_cheapOf_135 (M_cheapOf_L135 FU))] finI 300 (ab_row tab_M_cheapOf 107) [(vR 30 0), u1, (.inl v2), u3, u4, u5] [] σ = M_cheapOf_L107 (n + 1) v2 σ := rfl
theorem e_M_cheapOf_J70 (k2 : Int32 → Int32 → Sg → Option (Int32 × Sg)) (k23 : Int32 → Int32 → Int32 → Int32 → Sg → Option (Int32 × Sg)) (u5 : AV) (v1 : Int32) (v2 : Int32) (v3 : Int32) (v4 : Int32) (w1 : Int32) (w2 : Int32) (σ : Sg) : ab_ev tab_M_cheapOf [(128, cp_M_fits), (129, cp_M_fineOf), (130, cp_M_costOf), (148, cp_M_byCoat)] [(23, kc_M_cheapOf_23 k23)] finI 300 (ab_row tab_M_cheapOf 70) [(vR 30 0), (.inl v1), (.inl v2), (.inl v3), (.inl v4), u5] [(.inl w2), (.inl w1), (vR 41 0)] σ = M_cheapOf_J70 k2 k23 v1 v2 v3 v4 w1 w2 σ := rfl
theorem e_M_cheapOf_L23 (k2 : Int32 → Int32 → Sg → Option (Int32 × Sg)) (n : Nat) (u5 : AV) (v1 : Int32) (v2 : Int32) (v3 : Int32) (v4 : Int32) (σ : Sg) : ab_ev tab_M_cheapOf [(128, cp_M_fits), (129, cp_M_fineOf), (130, cp_M_costOf), (148, cp_M_byCoat)] [(2, kc_M_cheapOf_2 k2), (70, kc_M_cheapOf_70 (M_cheapOf_J70 k2 (fun y0 y1 y2 y3 τ => M_cheapOf_L23 k2 n y0 y1 y2 y3 τ)))] finI 300 (ab_row tab_M_cheapOf 23) [(vR 30 0), (.inl v1), (.inl v2), (.inl v3), (.inl v4), u5] [] σ = M_cheapOf_L23 k2 (n + 1) v1 v2 v3 v4 σ := rfl
theorem e_M_cheapOf_L2 (n : Nat) (u3 u4 u5 : AV) (v1 : Int32) (v2 : Int32) (σ : Sg) : ab_ev tab_M_cheapOf [(128, cp_M_fits), (129, cp_M_fineOf), (130, cp_M_costOf), (148, cp_M_byCoat)] [(23, kc_M_cheapOf_23 (M_cheapOf_L23 (fun y0 y1 τ => M_cheapOf_L2 n y0 y1 τ) FU)), (107, kc_M_cheapOf_107 (M_cheapOf_L107 FU))] finI 300 (ab_row tab_M_cheapOf 2) [(vR 30 0), (.inl v1), (.inl v2), u3, u4, u5] [] σ = M_cheapOf_L2 (n + 1) v1 v2 σ := rfl
theorem e_M_cheapOf (p1 : Int32) (σ : Sg) : ab_ev tab_M_cheapOf [(128, cp_M_fits), (129, cp_M_fineOf), (130, cp_M_costOf), (148, cp_M_byCoat)] [(2, kc_M_cheapOf_2 (M_cheapOf_L2 FU))] finI 300 (ab_row tab_M_cheapOf 0) [(vR 30 0), (.inl p1), vU, vU, vU, vU] [] σ = M_cheapOf p1 σ := rfl
def kc_M_day_36 {R : Type} (c : Int32 → Int32 → Sg → Option R) : ACut R := fun L st σ => match L, st with
  | [.inr (.inr (.inl (g1, i1))), .inl v1, .inl v2, _], [] => match Nat.beq g1 30 && Nat.beq i1 0 with
    | true => c v1 v2 σ
    | false => none
  | _, _ => none
def tab_M_day : List (Nat × List AOp) := [(0, [(1, 1, 0, vU, []), (44, 69, 1, vU, []), (41, 0, 33, vU, []), (40, 7, 1, vU, [])]),
  (7, [(1, 2, 0, vU, []), (11, 0, 0, vU, []), (0, 0, 0, vL 0, []), (0, 0, 0, vL 4, []), (44, 65, 3, vU, []), (41, 1, 36, vU, []), (40, 19, 1, vU, [])]),
  (19, [(1, 2, 0, vU, []), (11, 0, 0, vU, []), (0, 0, 0, vL 10, []), (0, 0, 0, vL 33, []), (44, 65, 3, vU, []), (41, 1, 36, vU, []), (40, 33, 1, vU, [])]),
  (33, [(0, 0, 0, vI (-2), []), (45, 1, 0, vU, [])]),
  (36, [(1, 2, 0, vU, []), (0, 0, 0, vI 4, []), (42, 3, 88, vU, []), (40, 41, 1, vU, [])]),
  (41, [(1, 2, 0, vU, []), (41, 1, 53, vU, []), (40, 45, 1, vU, [])]),
  (45, [(3, 0, 0, vU, []), (1, 1, 0, vU, []), (44, 145, 2, vU, []), (40, 87, 0, vU, [])]),
  (53, [(1, 2, 0, vU, []), (0, 0, 0, vI 1, []), (42, 1, 69, vU, []), (40, 58, 1, vU, [])]),
  (58, [(3, 0, 0, vU, []), (1, 1, 0, vU, []), (44, 145, 2, vU, []), (44, 142, 1, vU, []), (40, 87, 0, vU, [])]),
  (69, [(1, 2, 0, vU, []), (0, 0, 0, vI 2, []), (42, 1, 82, vU, []), (40, 74, 1, vU, [])]),
  (74, [(3, 0, 0, vU, []), (1, 1, 0, vU, []), (44, 146, 2, vU, []), (40, 87, 0, vU, [])]),
  (82, [(3, 0, 0, vU, []), (1, 1, 0, vU, []), (44, 147, 2, vU, []), (40, 87, 1, vU, [])]),
  (87, [(45, 1, 0, vU, [])]),
  (88, [(3, 0, 0, vU, []), (1, 1, 0, vU, []), (44, 149, 2, vU, []), (4, 3, 0, vU, []), (1, 2, 0, vU, []), (0, 0, 0, vI 4, []), (42, 1, 103, vU, []), (40, 99, 1, vU, [])]),
  (99, [(1, 3, 0, vU, []), (40, 112, 0, vU, [])]),
  (103, [(3, 0, 0, vU, []), (20, 30, 32, vR 43 0, []), (1, 2, 0, vU, []), (0, 0, 0, vI 10, []), (8, 1, 0, vU, []), (24, 43, 0, vU, []), (40, 112, 1, vU, [])]),
  (112, [(45, 1, 0, vU, [])])]
theorem e_M_day_J36 (u3 : AV) (v1 : Int32) (v2 : Int32) (σ : Sg) : ab_ev tab_M_day [(65, cp_M_in), (69, cp_M_isOne), (142, cp_M_bitsOf), (145, cp_M_coverOf), (146, cp_M_bareOf), (147, cp_M_changesOf), (149, cp_M_cheapOf)] [] finI 300 (ab_row tab_M_day 36) [(vR 30 0), (.inl v1), (.inl v2), u3] [] σ = M_day_J36 v1 v2 σ := rfl
theorem e_M_day (p1 : Int32) (p2 : Int32) (σ : Sg) : ab_ev tab_M_day [(65, cp_M_in), (69, cp_M_isOne), (142, cp_M_bitsOf), (145, cp_M_coverOf), (146, cp_M_bareOf), (147, cp_M_changesOf), (149, cp_M_cheapOf)] [(36, kc_M_day_36 (M_day_J36))] finI 300 (ab_row tab_M_day 0) [(vR 30 0), (.inl p1), (.inl p2), vU] [] σ = M_day p1 p2 σ := rfl
def kc_M_sheet_77 {R : Type} (c : Int32 → Int32 → Int32 → Int32 → Sg → Option R) : ACut R := fun L st σ => match L, st with
  | [.inr (.inr (.inl (g1, i1))), .inl v1, .inl v2, .inl v3, .inl v4], [] => match Nat.beq g1 30 && Nat.beq i1 0 with
    | true => c v1 v2 v3 v4 σ
    | false => none
  | _, _ => none
def kc_M_sheet_59 {R : Type} (c : Int32 → Int32 → Int32 → Int32 → Int32 → Sg → Option R) : ACut R := fun L st σ => match L, st with
  | [.inr (.inr (.inl (g1, i1))), .inl v1, .inl v2, .inl v3, _], [.inl w2, .inl w1, .inr (.inr (.inl (g2, i2)))] => match Nat.beq g1 30 && Nat.beq i1 0 && Nat.beq g2 47 && Nat.beq i2 0 with
    | true => c v1 v2 v3 w1 w2 σ
    | false => none
  | _, _ => none
def kc_M_sheet_45 {R : Type} (c : Int32 → Int32 → Int32 → Sg → Option R) : ACut R := fun L st σ => match L, st with
  | [.inr (.inr (.inl (g1, i1))), .inl v1, .inl v2, .inl v3, _], [] => match Nat.beq g1 30 && Nat.beq i1 0 with
    | true => c v1 v2 v3 σ
    | false => none
  | _, _ => none
def kc_M_sheet_34 {R : Type} (c : Int32 → Int32 → Int32 → Sg → Option R) : ACut R := fun L st σ => match L, st with
  | [.inr (.inr (.inl (g1, i1))), .inl v1, .inl v2, .inl v3, _], [] => match Nat.beq g1 30 && Nat.beq i1 0 with
    | true => c v1 v2 v3 σ
    | false => none
  | _, _ => none
def tab_M_sheet : List (Nat × List AOp) := [(0, [(1, 1, 0, vU, []), (44, 170, 1, vU, []), (41, 0, 31, vU, []), (40, 7, 1, vU, [])]),
  (7, [(1, 2, 0, vU, []), (11, 0, 0, vU, []), (0, 0, 0, vL (-1), []), (0, 0, 0, vL 2, []), (44, 65, 3, vU, []), (41, 0, 31, vU, []), (40, 21, 1, vU, [])]),
  (21, [(1, 2, 0, vU, []), (41, 2, 34, vU, []), (40, 25, 1, vU, [])]),
  (25, [(1, 3, 0, vU, []), (0, 0, 0, vI 40, []), (42, 5, 34, vU, []), (40, 31, 1, vU, [])]),
  (31, [(0, 0, 0, vI (-2), []), (45, 1, 0, vU, [])]),
  (34, [(1, 2, 0, vU, []), (41, 2, 45, vU, []), (40, 38, 1, vU, [])]),
  (38, [(1, 3, 0, vU, []), (41, 3, 45, vU, []), (40, 42, 1, vU, [])]),
  (42, [(0, 0, 0, vI (-14), []), (45, 1, 0, vU, [])]),
  (45, [(3, 0, 0, vU, []), (20, 30, 38, vR 47 0, []), (1, 1, 0, vU, []), (1, 2, 0, vU, []), (41, 2, 58, vU, []), (40, 54, 1, vU, [])]),
  (54, [(0, 0, 0, vI 1, []), (40, 59, 0, vU, [])]),
  (58, [(0, 0, 0, vI 0, []), (40, 59, 1, vU, [])]),
  (59, [(27, 47, 0, vU, []), (3, 0, 0, vU, []), (20, 30, 39, vR 48 0, []), (1, 1, 0, vU, []), (1, 2, 0, vU, []), (25, 48, 0, vU, []), (3, 0, 0, vU, []), (20, 30, 40, vR 49 0, []), (1, 1, 0, vU, []), (1, 3, 0, vU, []), (25, 49, 0, vU, []), (0, 0, 0, vI 0, []), (4, 4, 0, vU, []), (40, 77, 1, vU, [])]),
  (77, [(1, 4, 0, vU, []), (1, 3, 0, vU, []), (42, 3, 106, vU, []), (40, 83, 1, vU, [])]),
  (83, [(1, 2, 0, vU, []), (41, 2, 106, vU, []), (40, 87, 1, vU, [])]),
  (87, [(3, 0, 0, vU, []), (20, 30, 41, vR 50 0, []), (0, 0, 0, vI 40, []), (1, 1, 0, vU, []), (8, 2, 0, vU, []), (1, 4, 0, vU, []), (8, 0, 0, vU, []), (0, 0, 0, vI 0, []), (25, 50, 0, vU, []), (7, 4, 0, vI 1, []), (40, 77, 0, vU, [])]),
  (106, [(0, 0, 0, vI 1, []), (45, 1, 0, vU, [])])]
theorem e_M_sheet_L77 (n : Nat) (v1 : Int32) (v2 : Int32) (v3 : Int32) (v4 : Int32) (σ : Sg) : ab_ev tab_M_sheet [(65, cp_M_in), (170, cp_M_isSheet)] [(77, kc_M_sheet_77 (M_sheet_L77 n))] finI 300 (ab_row tab_M_sheet 77) [(vR 30 0), (.inl v1), (.inl v2), (.inl v3), (.inl v4)] [] σ = M_sheet_L77 (n + 1) v1 v2 v3 v4 σ := rfl
theorem e_M_sheet_J59 (u4 : AV) (v1 : Int32) (v2 : Int32) (v3 : Int32) (w1 : Int32) (w2 : Int32) (σ : Sg) : ab_ev tab_M_sheet [(65, cp_M_in), (170, cp_M_isSheet)] [(77, kc_M_sheet_77 (M_sheet_L77 FU))] finI 300 (ab_row tab_M_sheet 59) [(vR 30 0), (.inl v1), (.inl v2), (.inl v3), u4] [(.inl w2), (.inl w1), (vR 47 0)] σ = M_sheet_J59 v1 v2 v3 w1 w2 σ := rfl
theorem e_M_sheet_J45 (u4 : AV) (v1 : Int32) (v2 : Int32) (v3 : Int32) (σ : Sg) : ab_ev tab_M_sheet [(65, cp_M_in), (170, cp_M_isSheet)] [(59, kc_M_sheet_59 (M_sheet_J59))] finI 300 (ab_row tab_M_sheet 45) [(vR 30 0), (.inl v1), (.inl v2), (.inl v3), u4] [] σ = M_sheet_J45 v1 v2 v3 σ := rfl
theorem e_M_sheet_J34 (u4 : AV) (v1 : Int32) (v2 : Int32) (v3 : Int32) (σ : Sg) : ab_ev tab_M_sheet [(65, cp_M_in), (170, cp_M_isSheet)] [(45, kc_M_sheet_45 (M_sheet_J45))] finI 300 (ab_row tab_M_sheet 34) [(vR 30 0), (.inl v1), (.inl v2), (.inl v3), u4] [] σ = M_sheet_J34 v1 v2 v3 σ := rfl
theorem e_M_sheet (p1 : Int32) (p2 : Int32) (p3 : Int32) (σ : Sg) : ab_ev tab_M_sheet [(65, cp_M_in), (170, cp_M_isSheet)] [(34, kc_M_sheet_34 (M_sheet_J34))] finI 300 (ab_row tab_M_sheet 0) [(vR 30 0), (.inl p1), (.inl p2), (.inl p3), vU] [] σ = M_sheet p1 p2 p3 σ := rfl
def kc_M_dress_35 {R : Type} (c : Int32 → Int32 → Int32 → Sg → Option R) : ACut R := fun L st σ => match L, st with
  | [.inr (.inr (.inl (g1, i1))), .inl v1, _, .inl v3, .inl v4], [] => match Nat.beq g1 30 && Nat.beq i1 0 with
    | true => c v1 v3 v4 σ
    | false => none
  | _, _ => none
def tab_M_dress : List (Nat × List AOp) := [(0, [(1, 1, 0, vU, []), (44, 170, 1, vU, []), (41, 0, 14, vU, []), (40, 7, 1, vU, [])]),
  (7, [(1, 2, 0, vU, []), (44, 69, 1, vU, []), (41, 1, 17, vU, []), (40, 14, 1, vU, [])]),
  (14, [(0, 0, 0, vI (-2), []), (45, 1, 0, vU, [])]),
  (17, [(3, 0, 0, vU, []), (1, 2, 0, vU, []), (44, 149, 2, vU, []), (4, 3, 0, vU, []), (3, 0, 0, vU, []), (1, 1, 0, vU, []), (0, 0, 0, vI 0, []), (0, 0, 0, vI 24, []), (44, 171, 4, vU, []), (17, 0, 0, vU, []), (0, 0, 0, vI 0, []), (4, 4, 0, vU, []), (40, 35, 1, vU, [])]),
  (35, [(1, 4, 0, vU, []), (0, 0, 0, vI 24, []), (42, 3, 67, vU, []), (40, 42, 1, vU, [])]),
  (42, [(3, 0, 0, vU, []), (20, 30, 41, vR 50 0, []), (0, 0, 0, vI 40, []), (1, 1, 0, vU, []), (8, 2, 0, vU, []), (1, 4, 0, vU, []), (8, 0, 0, vU, []), (3, 0, 0, vU, []), (20, 30, 32, vR 43 0, []), (1, 4, 0, vU, []), (24, 43, 0, vU, []), (25, 50, 0, vU, []), (7, 4, 0, vI 1, []), (40, 35, 0, vU, [])]),
  (67, [(1, 3, 0, vU, []), (45, 1, 0, vU, [])])]
theorem e_M_dress_L35 (n : Nat) (u2 : AV) (v1 : Int32) (v3 : Int32) (v4 : Int32) (σ : Sg) : ab_ev tab_M_dress [(69, cp_M_isOne), (149, cp_M_cheapOf), (170, cp_M_isSheet), (171, cp_M_sheet)] [(35, kc_M_dress_35 (M_dress_L35 n))] finI 300 (ab_row tab_M_dress 35) [(vR 30 0), (.inl v1), u2, (.inl v3), (.inl v4)] [] σ = M_dress_L35 (n + 1) v1 v3 v4 σ := rfl
theorem e_M_dress (p1 : Int32) (p2 : Int32) (σ : Sg) : ab_ev tab_M_dress [(69, cp_M_isOne), (149, cp_M_cheapOf), (170, cp_M_isSheet), (171, cp_M_sheet)] [(35, kc_M_dress_35 (M_dress_L35 FU))] finI 300 (ab_row tab_M_dress 0) [(vR 30 0), (.inl p1), (.inl p2), vU, vU] [] σ = M_dress p1 p2 σ := rfl
def kc_M_anew_49 {R : Type} (c : Int32 → Int32 → Int32 → Int32 → Int32 → Int32 → Int32 → Sg → Option R) : ACut R := fun L st σ => match L, st with
  | [.inr (.inr (.inl (g1, i1))), .inl v1, .inl v2, .inl v3, .inl v4, .inl v5, .inl v6, .inl v7, _], [] => match Nat.beq g1 30 && Nat.beq i1 0 with
    | true => c v1 v2 v3 v4 v5 v6 v7 σ
    | false => none
  | _, _ => none
def tab_M_anew : List (Nat × List AOp) := [(0, [(3, 0, 0, vU, []), (1, 1, 0, vU, []), (44, 67, 2, vU, []), (41, 0, 25, vU, []), (40, 8, 1, vU, [])]),
  (8, [(1, 2, 0, vU, []), (44, 69, 1, vU, []), (41, 0, 25, vU, []), (40, 15, 1, vU, [])]),
  (15, [(1, 3, 0, vU, []), (11, 0, 0, vU, []), (0, 0, 0, vL 0, []), (0, 0, 0, vL 1, []), (44, 65, 3, vU, []), (41, 1, 28, vU, []), (40, 25, 1, vU, [])]),
  (25, [(0, 0, 0, vI (-2), []), (45, 1, 0, vU, [])]),
  (28, [(3, 0, 0, vU, []), (20, 30, 9, vR 36 0, []), (0, 0, 0, vI 3, []), (1, 1, 0, vU, []), (8, 2, 0, vU, []), (0, 0, 0, vI 1, []), (8, 0, 0, vU, []), (24, 36, 0, vU, []), (4, 4, 0, vU, []), (0, 0, 0, vI (-1), []), (4, 5, 0, vU, []), (0, 0, 0, vI (-1), []), (4, 6, 0, vU, []), (0, 0, 0, vI 0, []), (4, 7, 0, vU, []), (40, 49, 1, vU, [])]),
  (49, [(1, 7, 0, vU, []), (0, 0, 0, vI 100, []), (42, 3, 97, vU, []), (40, 56, 1, vU, [])]),
  (56, [(3, 0, 0, vU, []), (20, 30, 9, vR 36 0, []), (0, 0, 0, vI 3, []), (1, 1, 0, vU, []), (8, 2, 0, vU, []), (0, 0, 0, vI 1, []), (8, 0, 0, vU, []), (1, 7, 0, vU, []), (25, 36, 0, vU, []), (3, 0, 0, vU, []), (1, 1, 0, vU, []), (1, 2, 0, vU, []), (44, 133, 3, vU, []), (4, 8, 0, vU, []), (1, 8, 0, vU, []), (1, 6, 0, vU, []), (42, 5, 91, vU, []), (40, 83, 1, vU, [])]),
  (83, [(1, 7, 0, vU, []), (4, 5, 0, vU, []), (1, 8, 0, vU, []), (4, 6, 0, vU, []), (40, 91, 1, vU, [])]),
  (91, [(7, 7, 0, vI 1, []), (40, 49, 0, vU, [])]),
  (97, [(3, 0, 0, vU, []), (20, 30, 9, vR 36 0, []), (0, 0, 0, vI 3, []), (1, 1, 0, vU, []), (8, 2, 0, vU, []), (0, 0, 0, vI 1, []), (8, 0, 0, vU, []), (1, 4, 0, vU, []), (25, 36, 0, vU, []), (1, 3, 0, vU, []), (41, 1, 118, vU, []), (40, 113, 1, vU, [])]),
  (113, [(1, 5, 0, vU, []), (40, 120, 0, vU, [])]),
  (118, [(1, 6, 0, vU, []), (40, 120, 1, vU, [])]),
  (120, [(45, 1, 0, vU, [])])]
theorem e_M_anew_L49 (n : Nat) (u8 : AV) (v1 : Int32) (v2 : Int32) (v3 : Int32) (v4 : Int32) (v5 : Int32) (v6 : Int32) (v7 : Int32) (σ : Sg) : ab_ev tab_M_anew [(65, cp_M_in), (67, cp_M_isCoat), (69, cp_M_isOne), (133, cp_M_hoursBy)] [(49, kc_M_anew_49 (M_anew_L49 n))] finI 300 (ab_row tab_M_anew 49) [(vR 30 0), (.inl v1), (.inl v2), (.inl v3), (.inl v4), (.inl v5), (.inl v6), (.inl v7), u8] [] σ = M_anew_L49 (n + 1) v1 v2 v3 v4 v5 v6 v7 σ := rfl
theorem e_M_anew (p1 : Int32) (p2 : Int32) (p3 : Int32) (σ : Sg) : ab_ev tab_M_anew [(65, cp_M_in), (67, cp_M_isCoat), (69, cp_M_isOne), (133, cp_M_hoursBy)] [(49, kc_M_anew_49 (M_anew_L49 FU))] finI 300 (ab_row tab_M_anew 0) [(vR 30 0), (.inl p1), (.inl p2), (.inl p3), vU, vU, vU, vU, vU] [] σ = M_anew p1 p2 p3 σ := rfl
def kc_M_laysAside_2 {R : Type} (c : Int32 → Int32 → Sg → Option R) : ACut R := fun L st σ => match L, st with
  | [.inr (.inr (.inl (g1, i1))), .inl v1, .inl v2], [] => match Nat.beq g1 30 && Nat.beq i1 0 with
    | true => c v1 v2 σ
    | false => none
  | _, _ => none
def tab_M_laysAside : List (Nat × List AOp) := [(0, [(0, 0, 0, vI 0, []), (4, 2, 0, vU, []), (40, 2, 1, vU, [])]),
  (2, [(1, 2, 0, vU, []), (0, 0, 0, vI 24, []), (42, 3, 31, vU, []), (40, 8, 1, vU, [])]),
  (8, [(3, 0, 0, vU, []), (20, 30, 33, vR 44 0, []), (1, 2, 0, vU, []), (3, 0, 0, vU, []), (20, 30, 7, vR 34 0, []), (0, 0, 0, vI 24, []), (1, 1, 0, vU, []), (8, 2, 0, vU, []), (1, 2, 0, vU, []), (8, 0, 0, vU, []), (24, 34, 0, vU, []), (25, 44, 0, vU, []), (7, 2, 0, vI 1, []), (40, 2, 0, vU, [])]),
  (31, [(45, 0, 0, vU, [])])]
theorem e_M_laysAside_L2 (n : Nat) (v1 : Int32) (v2 : Int32) (σ : Sg) : ab_ev tab_M_laysAside [] [(2, kc_M_laysAside_2 (M_laysAside_L2 n))] finV 300 (ab_row tab_M_laysAside 2) [(vR 30 0), (.inl v1), (.inl v2)] [] σ = M_laysAside_L2 (n + 1) v1 v2 σ := rfl
theorem e_M_laysAside (p1 : Int32) (σ : Sg) : ab_ev tab_M_laysAside [] [(2, kc_M_laysAside_2 (M_laysAside_L2 FU))] finV 300 (ab_row tab_M_laysAside 0) [(vR 30 0), (.inl p1), vU] [] σ = M_laysAside p1 σ := rfl
def kc_M_laysBack_2 {R : Type} (c : Int32 → Int32 → Sg → Option R) : ACut R := fun L st σ => match L, st with
  | [.inr (.inr (.inl (g1, i1))), .inl v1, .inl v2], [] => match Nat.beq g1 30 && Nat.beq i1 0 with
    | true => c v1 v2 σ
    | false => none
  | _, _ => none
def tab_M_laysBack : List (Nat × List AOp) := [(0, [(0, 0, 0, vI 0, []), (4, 2, 0, vU, []), (40, 2, 1, vU, [])]),
  (2, [(1, 2, 0, vU, []), (0, 0, 0, vI 24, []), (42, 3, 31, vU, []), (40, 8, 1, vU, [])]),
  (8, [(3, 0, 0, vU, []), (20, 30, 7, vR 34 0, []), (0, 0, 0, vI 24, []), (1, 1, 0, vU, []), (8, 2, 0, vU, []), (1, 2, 0, vU, []), (8, 0, 0, vU, []), (3, 0, 0, vU, []), (20, 30, 33, vR 44 0, []), (1, 2, 0, vU, []), (24, 44, 0, vU, []), (25, 34, 0, vU, []), (7, 2, 0, vI 1, []), (40, 2, 0, vU, [])]),
  (31, [(45, 0, 0, vU, [])])]
theorem e_M_laysBack_L2 (n : Nat) (v1 : Int32) (v2 : Int32) (σ : Sg) : ab_ev tab_M_laysBack [] [(2, kc_M_laysBack_2 (M_laysBack_L2 n))] finV 300 (ab_row tab_M_laysBack 2) [(vR 30 0), (.inl v1), (.inl v2)] [] σ = M_laysBack_L2 (n + 1) v1 v2 σ := rfl
theorem e_M_laysBack (p1 : Int32) (σ : Sg) : ab_ev tab_M_laysBack [] [(2, kc_M_laysBack_2 (M_laysBack_L2 FU))] finV 300 (ab_row tab_M_laysBack 0) [(vR 30 0), (.inl p1), vU] [] σ = M_laysBack p1 σ := rfl
def kc_M_pushes_50 {R : Type} (c : Int32 → Int32 → Int32 → Int32 → Int32 → Int32 → Sg → Option R) : ACut R := fun L st σ => match L, st with
  | [.inr (.inr (.inl (g1, i1))), .inl v1, .inl v2, .inl v3, .inl v4, .inl v5, .inl v6, _], [] => match Nat.beq g1 30 && Nat.beq i1 0 with
    | true => c v1 v2 v3 v4 v5 v6 σ
    | false => none
  | _, _ => none
def tab_M_pushes : List (Nat × List AOp) := [(0, [(1, 1, 0, vU, []), (44, 69, 1, vU, []), (41, 0, 31, vU, []), (40, 7, 1, vU, [])]),
  (7, [(1, 2, 0, vU, []), (11, 0, 0, vU, []), (0, 0, 0, vL (-99), []), (0, 0, 0, vL 99, []), (44, 65, 3, vU, []), (41, 0, 31, vU, []), (40, 21, 1, vU, [])]),
  (21, [(1, 3, 0, vU, []), (11, 0, 0, vU, []), (0, 0, 0, vL 0, []), (0, 0, 0, vL 1, []), (44, 65, 3, vU, []), (41, 1, 34, vU, []), (40, 31, 1, vU, [])]),
  (31, [(0, 0, 0, vI (-2), []), (45, 1, 0, vU, [])]),
  (34, [(3, 0, 0, vU, []), (1, 1, 0, vU, []), (44, 153, 2, vU, []), (0, 0, 0, vI (-1), []), (4, 4, 0, vU, []), (0, 0, 0, vI 1000000, []), (4, 5, 0, vU, []), (0, 0, 0, vI 0, []), (4, 6, 0, vU, []), (40, 50, 1, vU, [])]),
  (50, [(1, 6, 0, vU, []), (0, 0, 0, vI 24, []), (42, 3, 98, vU, []), (40, 57, 1, vU, [])]),
  (57, [(3, 0, 0, vU, []), (1, 1, 0, vU, []), (1, 6, 0, vU, []), (1, 2, 0, vU, []), (44, 135, 4, vU, []), (3, 0, 0, vU, []), (1, 1, 0, vU, []), (44, 149, 2, vU, []), (4, 7, 0, vU, []), (3, 0, 0, vU, []), (1, 1, 0, vU, []), (44, 154, 2, vU, []), (1, 7, 0, vU, []), (1, 5, 0, vU, []), (42, 3, 92, vU, []), (40, 84, 1, vU, [])]),
  (84, [(1, 6, 0, vU, []), (4, 4, 0, vU, []), (1, 7, 0, vU, []), (4, 5, 0, vU, []), (40, 92, 1, vU, [])]),
  (92, [(7, 6, 0, vI 1, []), (40, 50, 0, vU, [])]),
  (98, [(1, 3, 0, vU, []), (41, 1, 107, vU, []), (40, 102, 1, vU, [])]),
  (102, [(1, 4, 0, vU, []), (40, 109, 0, vU, [])]),
  (107, [(1, 5, 0, vU, []), (40, 109, 1, vU, [])]),
  (109, [(45, 1, 0, vU, [])])]
theorem e_M_pushes_L50 (n : Nat) (u7 : AV) (v1 : Int32) (v2 : Int32) (v3 : Int32) (v4 : Int32) (v5 : Int32) (v6 : Int32) (σ : Sg) : ab_ev tab_M_pushes [(65, cp_M_in), (69, cp_M_isOne), (135, cp_M_pushed), (149, cp_M_cheapOf), (153, cp_M_laysAside), (154, cp_M_laysBack)] [(50, kc_M_pushes_50 (M_pushes_L50 n))] finI 300 (ab_row tab_M_pushes 50) [(vR 30 0), (.inl v1), (.inl v2), (.inl v3), (.inl v4), (.inl v5), (.inl v6), u7] [] σ = M_pushes_L50 (n + 1) v1 v2 v3 v4 v5 v6 σ := rfl
theorem e_M_pushes (p1 : Int32) (p2 : Int32) (p3 : Int32) (σ : Sg) : ab_ev tab_M_pushes [(65, cp_M_in), (69, cp_M_isOne), (135, cp_M_pushed), (149, cp_M_cheapOf), (153, cp_M_laysAside), (154, cp_M_laysBack)] [(50, kc_M_pushes_50 (M_pushes_L50 FU))] finI 300 (ab_row tab_M_pushes 0) [(vR 30 0), (.inl p1), (.inl p2), (.inl p3), vU, vU, vU, vU] [] σ = M_pushes p1 p2 p3 σ := rfl
def kc_M_apart_5 {R : Type} (c : Int32 → Int32 → Int32 → Int32 → Sg → Option R) : ACut R := fun L st σ => match L, st with
  | [.inr (.inr (.inl (g1, i1))), .inl v1, .inl v2, .inl v3, .inl v4, _], [] => match Nat.beq g1 30 && Nat.beq i1 0 with
    | true => c v1 v2 v3 v4 σ
    | false => none
  | _, _ => none
def tab_M_apart : List (Nat × List AOp) := [(0, [(0, 0, 0, vI 0, []), (4, 3, 0, vU, []), (0, 0, 0, vI 0, []), (4, 4, 0, vU, []), (40, 5, 1, vU, [])]),
  (5, [(1, 4, 0, vU, []), (0, 0, 0, vI 24, []), (42, 3, 61, vU, []), (40, 12, 1, vU, [])]),
  (12, [(3, 0, 0, vU, []), (20, 30, 7, vR 34 0, []), (0, 0, 0, vI 24, []), (1, 1, 0, vU, []), (8, 2, 0, vU, []), (1, 4, 0, vU, []), (8, 0, 0, vU, []), (24, 34, 0, vU, []), (3, 0, 0, vU, []), (20, 30, 7, vR 34 0, []), (0, 0, 0, vI 24, []), (1, 2, 0, vU, []), (8, 2, 0, vU, []), (1, 4, 0, vU, []), (8, 0, 0, vU, []), (24, 34, 0, vU, []), (8, 1, 0, vU, []), (4, 5, 0, vU, []), (1, 3, 0, vU, []), (1, 5, 0, vU, []), (41, 3, 51, vU, []), (40, 45, 1, vU, [])]),
  (45, [(1, 5, 0, vU, []), (10, 0, 0, vU, []), (40, 53, 0, vU, [])]),
  (51, [(1, 5, 0, vU, []), (40, 53, 1, vU, [])]),
  (53, [(8, 0, 0, vU, []), (4, 3, 0, vU, []), (7, 4, 0, vI 1, []), (40, 5, 0, vU, [])]),
  (61, [(1, 3, 0, vU, []), (45, 1, 0, vU, [])])]
theorem e_M_apart_L5 (n : Nat) (u5 : AV) (v1 : Int32) (v2 : Int32) (v3 : Int32) (v4 : Int32) (σ : Sg) : ab_ev tab_M_apart [] [(5, kc_M_apart_5 (M_apart_L5 n))] finI 300 (ab_row tab_M_apart 5) [(vR 30 0), (.inl v1), (.inl v2), (.inl v3), (.inl v4), u5] [] σ = M_apart_L5 (n + 1) v1 v2 v3 v4 σ := rfl
theorem e_M_apart (p1 : Int32) (p2 : Int32) (σ : Sg) : ab_ev tab_M_apart [] [(5, kc_M_apart_5 (M_apart_L5 FU))] finI 300 (ab_row tab_M_apart 0) [(vR 30 0), (.inl p1), (.inl p2), vU, vU, vU] [] σ = M_apart p1 p2 σ := rfl
def kc_M_all_97 {R : Type} (c : Int32 → Int32 → Int32 → Sg → Option R) : ACut R := fun L st σ => match L, st with
  | [.inr (.inr (.inl (g1, i1))), .inl v1, .inl v2, _], [.inl w0] => match Nat.beq g1 30 && Nat.beq i1 0 with
    | true => c v1 v2 w0 σ
    | false => none
  | _, _ => none
def kc_M_all_75 {R : Type} (c : Int32 → Int32 → Int32 → Sg → Option R) : ACut R := fun L st σ => match L, st with
  | [.inr (.inr (.inl (g1, i1))), .inl v1, .inl v2, _], [.inl w0] => match Nat.beq g1 30 && Nat.beq i1 0 with
    | true => c v1 v2 w0 σ
    | false => none
  | _, _ => none
def kc_M_all_55 {R : Type} (c : Int32 → Int32 → Sg → Option R) : ACut R := fun L st σ => match L, st with
  | [.inr (.inr (.inl (g1, i1))), .inl v1, .inl v2, _], [] => match Nat.beq g1 30 && Nat.beq i1 0 with
    | true => c v1 v2 σ
    | false => none
  | _, _ => none
def kc_M_all_19 {R : Type} (c : Int32 → Int32 → Int32 → Sg → Option R) : ACut R := fun L st σ => match L, st with
  | [.inr (.inr (.inl (g1, i1))), .inl v1, .inl v2, .inl v3], [] => match Nat.beq g1 30 && Nat.beq i1 0 with
    | true => c v1 v2 v3 σ
    | false => none
  | _, _ => none
def tab_M_all : List (Nat × List AOp) := [(0, [(1, 1, 0, vU, []), (11, 0, 0, vU, []), (0, 0, 0, vL 0, []), (0, 0, 0, vL 2, []), (44, 65, 3, vU, []), (41, 1, 15, vU, []), (40, 12, 1, vU, [])]),
  (12, [(0, 0, 0, vI (-2), []), (45, 1, 0, vU, [])]),
  (15, [(0, 0, 0, vI 0, []), (4, 2, 0, vU, []), (0, 0, 0, vI 0, []), (4, 3, 0, vU, []), (40, 19, 1, vU, [])]),
  (19, [(1, 3, 0, vU, []), (3, 0, 0, vU, []), (18, 30, 10, vU, []), (42, 3, 55, vU, []), (40, 27, 1, vU, [])]),
  (27, [(1, 1, 0, vU, []), (41, 1, 55, vU, []), (40, 31, 1, vU, [])]),
  (31, [(1, 2, 0, vU, []), (3, 0, 0, vU, []), (1, 3, 0, vU, []), (44, 134, 2, vU, []), (41, 1, 44, vU, []), (40, 40, 1, vU, [])]),
  (40, [(0, 0, 0, vI 1, []), (40, 45, 0, vU, [])]),
  (44, [(0, 0, 0, vI 0, []), (40, 45, 1, vU, [])]),
  (45, [(1, 3, 0, vU, []), (8, 5, 0, vU, []), (8, 4, 0, vU, []), (4, 2, 0, vU, []), (7, 3, 0, vI 1, []), (40, 19, 0, vU, [])]),
  (55, [(3, 0, 0, vU, []), (0, 0, 0, vI 0, []), (0, 0, 0, vI 2, []), (44, 156, 3, vU, []), (3, 0, 0, vU, []), (0, 0, 0, vI 0, []), (0, 0, 0, vI 1, []), (44, 156, 3, vU, []), (42, 3, 74, vU, []), (40, 70, 1, vU, [])]),
  (70, [(0, 0, 0, vI 2, []), (40, 75, 0, vU, [])]),
  (74, [(0, 0, 0, vI 1, []), (40, 75, 1, vU, [])]),
  (75, [(4, 3, 0, vU, []), (3, 0, 0, vU, []), (0, 0, 0, vI 1, []), (0, 0, 0, vI 2, []), (44, 156, 3, vU, []), (3, 0, 0, vU, []), (0, 0, 0, vI 0, []), (1, 3, 0, vU, []), (44, 156, 3, vU, []), (42, 3, 96, vU, []), (40, 91, 1, vU, [])]),
  (91, [(0, 0, 0, vI 12, []), (40, 97, 0, vU, [])]),
  (96, [(1, 3, 0, vU, []), (40, 97, 1, vU, [])]),
  (97, [(4, 3, 0, vU, []), (1, 1, 0, vU, []), (41, 1, 106, vU, []), (40, 102, 1, vU, [])]),
  (102, [(1, 2, 0, vU, []), (40, 127, 0, vU, [])]),
  (106, [(1, 1, 0, vU, []), (0, 0, 0, vI 1, []), (42, 1, 115, vU, []), (40, 111, 1, vU, [])]),
  (111, [(1, 3, 0, vU, []), (40, 127, 0, vU, [])]),
  (115, [(3, 0, 0, vU, []), (1, 3, 0, vU, []), (0, 0, 0, vI 10, []), (9, 0, 0, vU, []), (1, 3, 0, vU, []), (0, 0, 0, vI 10, []), (9, 1, 0, vU, []), (44, 156, 3, vU, []), (40, 127, 1, vU, [])]),
  (127, [(45, 1, 0, vU, [])])]
theorem e_M_all_J97 (u3 : AV) (v1 : Int32) (v2 : Int32) (w0 : Int32) (σ : Sg) : ab_ev tab_M_all [(65, cp_M_in), (134, cp_M_hoursOf), (156, cp_M_apart)] [] finI 300 (ab_row tab_M_all 97) [(vR 30 0), (.inl v1), (.inl v2), u3] [(.inl w0)] σ = M_all_J97 v1 v2 w0 σ := rfl
theorem e_M_all_J75 (u3 : AV) (v1 : Int32) (v2 : Int32) (w0 : Int32) (σ : Sg) : ab_ev tab_M_all [(65, cp_M_in), (134, cp_M_hoursOf), (156, cp_M_apart)] [(97, kc_M_all_97 (M_all_J97))] finI 300 (ab_row tab_M_all 75) [(vR 30 0), (.inl v1), (.inl v2), u3] [(.inl w0)] σ = M_all_J75 v1 v2 w0 σ := rfl
theorem e_M_all_J55 (u3 : AV) (v1 : Int32) (v2 : Int32) (σ : Sg) : ab_ev tab_M_all [(65, cp_M_in), (134, cp_M_hoursOf), (156, cp_M_apart)] [(75, kc_M_all_75 (M_all_J75))] finI 300 (ab_row tab_M_all 55) [(vR 30 0), (.inl v1), (.inl v2), u3] [] σ = M_all_J55 v1 v2 σ := rfl
theorem e_M_all_L19 (n : Nat) (v1 : Int32) (v2 : Int32) (v3 : Int32) (σ : Sg) : ab_ev tab_M_all [(65, cp_M_in), (134, cp_M_hoursOf), (156, cp_M_apart)] [(19, kc_M_all_19 (M_all_L19 n)), (55, kc_M_all_55 (M_all_J55))] finI 300 (ab_row tab_M_all 19) [(vR 30 0), (.inl v1), (.inl v2), (.inl v3)] [] σ = M_all_L19 (n + 1) v1 v2 v3 σ := rfl
theorem e_M_all (p1 : Int32) (σ : Sg) : ab_ev tab_M_all [(65, cp_M_in), (134, cp_M_hoursOf), (156, cp_M_apart)] [(19, kc_M_all_19 (M_all_L19 FU))] finI 300 (ab_row tab_M_all 0) [(vR 30 0), (.inl p1), vU, vU] [] σ = M_all p1 σ := rfl
def kc_M_lowest_6 {R : Type} (c : Int64 → Int64 → Int32 → Int64 → Int64 → Sg → Option R) : ACut R := fun L st σ => match L, st with
  | [.inr (.inl v0), _, .inr (.inl v2), _, .inl v4, .inr (.inl v5), _, .inr (.inl v7), _, _, _], [] => c v0 v2 v4 v5 v7 σ
  | _, _ => none
def tab_M_lowest : List (Nat × List AOp) := [(0, [(2, 0, 0, vU, []), (5, 5, 0, vU, []), (2, 2, 0, vU, []), (5, 7, 0, vU, []), (40, 6, 1, vU, [])]),
  (6, [(2, 7, 0, vU, []), (0, 0, 0, vL 0, []), (15, 0, 0, vU, []), (41, 0, 31, vU, []), (40, 13, 1, vU, [])]),
  (13, [(2, 5, 0, vU, []), (2, 7, 0, vU, []), (14, 1, 0, vU, []), (5, 9, 0, vU, []), (2, 7, 0, vU, []), (5, 5, 0, vU, []), (2, 9, 0, vU, []), (5, 7, 0, vU, []), (40, 6, 0, vU, [])]),
  (31, [(1, 4, 0, vU, []), (41, 1, 43, vU, []), (40, 36, 1, vU, [])]),
  (36, [(2, 0, 0, vU, []), (2, 5, 0, vU, []), (14, 0, 0, vU, []), (40, 47, 0, vU, [])]),
  (43, [(2, 2, 0, vU, []), (2, 5, 0, vU, []), (14, 0, 0, vU, []), (40, 47, 1, vU, [])]),
  (47, [(45, 2, 0, vU, [])])]
theorem e_M_lowest_L6 (n : Nat) (u1 u3 u6 u8 u9 u10 : AV) (v0 : Int64) (v2 : Int64) (v4 : Int32) (v5 : Int64) (v7 : Int64) (σ : Sg) : ab_ev tab_M_lowest [] [(6, kc_M_lowest_6 (M_lowest_L6 n))] finL 300 (ab_row tab_M_lowest 6) [(.inr (.inl v0)), u1, (.inr (.inl v2)), u3, (.inl v4), (.inr (.inl v5)), u6, (.inr (.inl v7)), u8, u9, u10] [] σ = M_lowest_L6 (n + 1) v0 v2 v4 v5 v7 σ := rfl
theorem e_M_lowest (p0 : Int64) (p1 : Int64) (p2 : Int32) (σ : Sg) : ab_ev tab_M_lowest [] [(6, kc_M_lowest_6 (M_lowest_L6 FU))] finL 300 (ab_row tab_M_lowest 0) [(.inr (.inl p0)), vU, (.inr (.inl p1)), vU, (.inl p2), vU, vU, vU, vU, vU, vU] [] σ = M_lowest p0 p1 p2 σ := rfl
def kc_M_mean_26 {R : Type} (c : Int32 → Int32 → Int32 → Int32 → Sg → Option R) : ACut R := fun L st σ => match L, st with
  | [.inr (.inr (.inl (g1, i1))), .inl v1, .inl v2, .inl v3, .inl v4], [] => match Nat.beq g1 30 && Nat.beq i1 0 with
    | true => c v1 v2 v3 v4 σ
    | false => none
  | _, _ => none
def tab_M_mean : List (Nat × List AOp) := [(0, [(1, 1, 0, vU, []), (44, 69, 1, vU, []), (41, 0, 17, vU, []), (40, 7, 1, vU, [])]),
  (7, [(1, 2, 0, vU, []), (11, 0, 0, vU, []), (0, 0, 0, vL 0, []), (0, 0, 0, vL 1, []), (44, 65, 3, vU, []), (41, 1, 21, vU, []), (40, 17, 1, vU, [])]),
  (17, [(0, 0, 0, vL (-4611686018427387904), []), (45, 2, 0, vU, [])]),
  (21, [(0, 0, 0, vI 0, []), (4, 3, 0, vU, []), (0, 0, 0, vI 0, []), (4, 4, 0, vU, []), (40, 26, 1, vU, [])]),
  (26, [(1, 4, 0, vU, []), (0, 0, 0, vI 24, []), (42, 3, 54, vU, []), (40, 33, 1, vU, [])]),
  (33, [(1, 3, 0, vU, []), (3, 0, 0, vU, []), (20, 30, 7, vR 34 0, []), (0, 0, 0, vI 24, []), (1, 1, 0, vU, []), (8, 2, 0, vU, []), (1, 4, 0, vU, []), (8, 0, 0, vU, []), (24, 34, 0, vU, []), (8, 0, 0, vU, []), (4, 3, 0, vU, []), (7, 4, 0, vI 1, []), (40, 26, 0, vU, [])]),
  (54, [(1, 3, 0, vU, []), (11, 0, 0, vU, []), (0, 0, 0, vL 24, []), (1, 2, 0, vU, []), (44, 158, 3, vU, []), (45, 2, 0, vU, [])])]
theorem e_M_mean_L26 (n : Nat) (v1 : Int32) (v2 : Int32) (v3 : Int32) (v4 : Int32) (σ : Sg) : ab_ev tab_M_mean [(65, cp_M_in), (69, cp_M_isOne), (158, cp_M_lowest)] [(26, kc_M_mean_26 (M_mean_L26 n))] finL 300 (ab_row tab_M_mean 26) [(vR 30 0), (.inl v1), (.inl v2), (.inl v3), (.inl v4)] [] σ = M_mean_L26 (n + 1) v1 v2 v3 v4 σ := rfl
theorem e_M_mean (p1 : Int32) (p2 : Int32) (σ : Sg) : ab_ev tab_M_mean [(65, cp_M_in), (69, cp_M_isOne), (158, cp_M_lowest)] [(26, kc_M_mean_26 (M_mean_L26 FU))] finL 300 (ab_row tab_M_mean 0) [(vR 30 0), (.inl p1), (.inl p2), vU, vU] [] σ = M_mean p1 p2 σ := rfl
def kc_M_firstOther_30 {R : Type} (c : Int32 → Int32 → Int32 → Int32 → Int32 → Sg → Option R) : ACut R := fun L st σ => match L, st with
  | [.inr (.inr (.inl (g1, i1))), .inl v1, .inl v2, .inl v3, .inl v4], [.inl w0] => match Nat.beq g1 30 && Nat.beq i1 0 with
    | true => c v1 v2 v3 v4 w0 σ
    | false => none
  | _, _ => none
def kc_M_firstOther_3 {R : Type} (c : Int32 → Int32 → Int32 → Int32 → Sg → Option R) : ACut R := fun L st σ => match L, st with
  | [.inr (.inr (.inl (g1, i1))), .inl v1, .inl v2, .inl v3, .inl v4], [] => match Nat.beq g1 30 && Nat.beq i1 0 with
    | true => c v1 v2 v3 v4 σ
    | false => none
  | _, _ => none
def tab_M_firstOther : List (Nat × List AOp) := [(0, [(0, 0, 0, vI 0, []), (4, 4, 0, vU, []), (40, 3, 1, vU, [])]),
  (3, [(1, 4, 0, vU, []), (3, 0, 0, vU, []), (20, 30, 40, vR 49 0, []), (1, 1, 0, vU, []), (24, 49, 0, vU, []), (42, 3, 54, vU, []), (40, 14, 1, vU, [])]),
  (14, [(3, 0, 0, vU, []), (1, 2, 0, vU, []), (1, 4, 0, vU, []), (1, 3, 0, vU, []), (44, 128, 4, vU, []), (41, 0, 29, vU, []), (40, 25, 1, vU, [])]),
  (25, [(0, 0, 0, vI 1, []), (40, 30, 0, vU, [])]),
  (29, [(0, 0, 0, vI 0, []), (40, 30, 1, vU, [])]),
  (30, [(3, 0, 0, vU, []), (20, 30, 41, vR 50 0, []), (0, 0, 0, vI 40, []), (1, 1, 0, vU, []), (8, 2, 0, vU, []), (1, 4, 0, vU, []), (8, 0, 0, vU, []), (24, 50, 0, vU, []), (42, 0, 48, vU, []), (40, 45, 1, vU, [])]),
  (45, [(1, 4, 0, vU, []), (45, 1, 0, vU, [])]),
  (48, [(7, 4, 0, vI 1, []), (40, 3, 0, vU, [])]),
  (54, [(0, 0, 0, vI (-1), []), (45, 1, 0, vU, [])])]
theorem e_M_firstOther_J30 (k3 : Int32 → Int32 → Int32 → Int32 → Sg → Option (Int32 × Sg)) (v1 : Int32) (v2 : Int32) (v3 : Int32) (v4 : Int32) (w0 : Int32) (σ : Sg) : ab_ev tab_M_firstOther [(128, cp_M_fits)] [(3, kc_M_firstOther_3 k3)] finI 300 (ab_row tab_M_firstOther 30) [(vR 30 0), (.inl v1), (.inl v2), (.inl v3), (.inl v4)] [(.inl w0)] σ = M_firstOther_J30 k3 v1 v2 v3 v4 w0 σ := rfl
theorem e_M_firstOther_L3 (n : Nat) (v1 : Int32) (v2 : Int32) (v3 : Int32) (v4 : Int32) (σ : Sg) : ab_ev tab_M_firstOther [(128, cp_M_fits)] [(30, kc_M_firstOther_30 (M_firstOther_J30 (fun y0 y1 y2 y3 τ => M_firstOther_L3 n y0 y1 y2 y3 τ)))] finI 300 (ab_row tab_M_firstOther 3) [(vR 30 0), (.inl v1), (.inl v2), (.inl v3), (.inl v4)] [] σ = M_firstOther_L3 (n + 1) v1 v2 v3 v4 σ := rfl
theorem e_M_firstOther (p1 : Int32) (p2 : Int32) (p3 : Int32) (σ : Sg) : ab_ev tab_M_firstOther [(128, cp_M_fits)] [(3, kc_M_firstOther_3 (M_firstOther_L3 FU))] finI 300 (ab_row tab_M_firstOther 0) [(vR 30 0), (.inl p1), (.inl p2), (.inl p3), vU] [] σ = M_firstOther p1 p2 p3 σ := rfl
def kc_M_hourSet_5 {R : Type} (c : Int32 → Int32 → Int32 → Int32 → Sg → Option R) : ACut R := fun L st σ => match L, st with
  | [.inr (.inr (.inl (g1, i1))), .inl v1, .inl v2, .inl v3, .inl v4], [] => match Nat.beq g1 30 && Nat.beq i1 0 with
    | true => c v1 v2 v3 v4 σ
    | false => none
  | _, _ => none
def tab_M_hourSet : List (Nat × List AOp) := [(0, [(0, 0, 0, vI 0, []), (4, 3, 0, vU, []), (0, 0, 0, vI 0, []), (4, 4, 0, vU, []), (40, 5, 1, vU, [])]),
  (5, [(1, 4, 0, vU, []), (0, 0, 0, vI 24, []), (42, 3, 41, vU, []), (40, 12, 1, vU, [])]),
  (12, [(1, 3, 0, vU, []), (3, 0, 0, vU, []), (1, 1, 0, vU, []), (1, 2, 0, vU, []), (1, 4, 0, vU, []), (44, 160, 4, vU, []), (0, 0, 0, vI (-1), []), (42, 1, 29, vU, []), (40, 25, 1, vU, [])]),
  (25, [(0, 0, 0, vI 1, []), (40, 30, 0, vU, [])]),
  (29, [(0, 0, 0, vI 0, []), (40, 30, 1, vU, [])]),
  (30, [(1, 4, 0, vU, []), (8, 5, 0, vU, []), (8, 4, 0, vU, []), (4, 3, 0, vU, []), (7, 4, 0, vI 1, []), (40, 5, 0, vU, [])]),
  (41, [(1, 3, 0, vU, []), (45, 1, 0, vU, [])])]
theorem e_M_hourSet_L5 (n : Nat) (v1 : Int32) (v2 : Int32) (v3 : Int32) (v4 : Int32) (σ : Sg) : ab_ev tab_M_hourSet [(160, cp_M_firstOther)] [(5, kc_M_hourSet_5 (M_hourSet_L5 n))] finI 300 (ab_row tab_M_hourSet 5) [(vR 30 0), (.inl v1), (.inl v2), (.inl v3), (.inl v4)] [] σ = M_hourSet_L5 (n + 1) v1 v2 v3 v4 σ := rfl
theorem e_M_hourSet (p1 : Int32) (p2 : Int32) (σ : Sg) : ab_ev tab_M_hourSet [(160, cp_M_firstOther)] [(5, kc_M_hourSet_5 (M_hourSet_L5 FU))] finI 300 (ab_row tab_M_hourSet 0) [(vR 30 0), (.inl p1), (.inl p2), vU, vU] [] σ = M_hourSet p1 p2 σ := rfl
def kc_M_tells_203 {R : Type} (c : Int32 → Int32 → Int32 → Int32 → Int32 → Int32 → Int32 → Int32 → Int32 → Int32 → Sg → Option R) : ACut R := fun L st σ => match L, st with
  | [.inr (.inr (.inl (g1, i1))), .inl v1, .inl v2, .inl v3, .inl v4, .inl v5, .inl v6, _, .inl v8, .inl v9, .inl v10, .inl v11], [] => match Nat.beq g1 30 && Nat.beq i1 0 with
    | true => c v1 v2 v3 v4 v5 v6 v8 v9 v10 v11 σ
    | false => none
  | _, _ => none
def kc_M_tells_148 {R : Type} (c : Int32 → Int32 → Int32 → Int32 → Int32 → Int32 → Sg → Option R) : ACut R := fun L st σ => match L, st with
  | [.inr (.inr (.inl (g1, i1))), .inl v1, .inl v2, .inl v3, .inl v4, .inl v5, _, _, _, _, _, _], [.inl w0] => match Nat.beq g1 30 && Nat.beq i1 0 with
    | true => c v1 v2 v3 v4 v5 w0 σ
    | false => none
  | _, _ => none
def kc_M_tells_126 {R : Type} (c : Int32 → Int32 → Int32 → Int32 → Int32 → Sg → Option R) : ACut R := fun L st σ => match L, st with
  | [.inr (.inr (.inl (g1, i1))), .inl v1, .inl v2, .inl v3, .inl v4, _, _, _, _, _, _, _], [.inl w0] => match Nat.beq g1 30 && Nat.beq i1 0 with
    | true => c v1 v2 v3 v4 w0 σ
    | false => none
  | _, _ => none
def kc_M_tells_84 {R : Type} (c : Int32 → Int32 → Int32 → Int32 → Sg → Option R) : ACut R := fun L st σ => match L, st with
  | [.inr (.inr (.inl (g1, i1))), .inl v1, .inl v2, .inl v3, .inl v4, _, _, _, _, _, _, _], [] => match Nat.beq g1 30 && Nat.beq i1 0 with
    | true => c v1 v2 v3 v4 σ
    | false => none
  | _, _ => none
def kc_M_tells_62 {R : Type} (c : Int32 → Int32 → Int32 → Int32 → Sg → Option R) : ACut R := fun L st σ => match L, st with
  | [.inr (.inr (.inl (g1, i1))), .inl v1, .inl v2, .inl v3, .inl v4, _, _, _, _, _, _, _], [] => match Nat.beq g1 30 && Nat.beq i1 0 with
    | true => c v1 v2 v3 v4 σ
    | false => none
  | _, _ => none
def kc_M_tells_50 {R : Type} (c : Int32 → Int32 → Int32 → Int32 → Sg → Option R) : ACut R := fun L st σ => match L, st with
  | [.inr (.inr (.inl (g1, i1))), .inl v1, .inl v2, .inl v3, .inl v4, _, _, _, _, _, _, _], [] => match Nat.beq g1 30 && Nat.beq i1 0 with
    | true => c v1 v2 v3 v4 σ
    | false => none
  | _, _ => none
def tab_M_tells : List (Nat × List AOp) := [(0, [(1, 1, 0, vU, []), (44, 170, 1, vU, []), (41, 0, 35, vU, []), (40, 7, 1, vU, [])]),
  (7, [(3, 0, 0, vU, []), (1, 2, 0, vU, []), (44, 67, 2, vU, []), (41, 0, 35, vU, []), (40, 15, 1, vU, [])]),
  (15, [(1, 3, 0, vU, []), (44, 68, 1, vU, []), (41, 0, 35, vU, []), (40, 22, 1, vU, [])]),
  (22, [(1, 4, 0, vU, []), (11, 0, 0, vU, []), (0, 0, 0, vL 0, []), (0, 0, 0, vL 8, []), (44, 65, 3, vU, []), (41, 1, 38, vU, []), (40, 35, 1, vU, [])]),
  (35, [(0, 0, 0, vI (-2), []), (45, 1, 0, vU, [])]),
  (38, [(3, 0, 0, vU, []), (20, 30, 38, vR 47 0, []), (1, 1, 0, vU, []), (26, 47, 0, vU, []), (41, 1, 50, vU, []), (40, 47, 1, vU, [])]),
  (47, [(0, 0, 0, vI (-11), []), (45, 1, 0, vU, [])]),
  (50, [(1, 4, 0, vU, []), (41, 0, 62, vU, []), (40, 55, 1, vU, [])]),
  (55, [(1, 4, 0, vU, []), (0, 0, 0, vI 8, []), (42, 1, 84, vU, []), (40, 62, 1, vU, [])]),
  (62, [(1, 4, 0, vU, []), (41, 1, 77, vU, []), (40, 67, 1, vU, [])]),
  (67, [(3, 0, 0, vU, []), (1, 1, 0, vU, []), (1, 2, 0, vU, []), (1, 3, 0, vU, []), (44, 160, 4, vU, []), (40, 83, 0, vU, [])]),
  (77, [(3, 0, 0, vU, []), (1, 1, 0, vU, []), (1, 2, 0, vU, []), (44, 161, 3, vU, []), (40, 83, 1, vU, [])]),
  (83, [(45, 1, 0, vU, [])]),
  (84, [(1, 4, 0, vU, []), (0, 0, 0, vI 1, []), (42, 1, 94, vU, []), (40, 90, 1, vU, [])]),
  (90, [(0, 0, 0, vI 4, []), (40, 126, 0, vU, [])]),
  (94, [(1, 4, 0, vU, []), (0, 0, 0, vI 2, []), (42, 1, 104, vU, []), (40, 100, 1, vU, [])]),
  (100, [(0, 0, 0, vI 1, []), (40, 126, 0, vU, [])]),
  (104, [(1, 4, 0, vU, []), (0, 0, 0, vI 5, []), (42, 3, 114, vU, []), (40, 110, 1, vU, [])]),
  (110, [(0, 0, 0, vI 2, []), (40, 126, 0, vU, [])]),
  (114, [(1, 4, 0, vU, []), (0, 0, 0, vI 7, []), (42, 3, 125, vU, []), (40, 121, 1, vU, [])]),
  (121, [(0, 0, 0, vI 3, []), (40, 126, 0, vU, [])]),
  (125, [(0, 0, 0, vI 5, []), (40, 126, 1, vU, [])]),
  (126, [(4, 5, 0, vU, []), (1, 5, 0, vU, []), (0, 0, 0, vI 5, []), (42, 1, 141, vU, []), (40, 134, 1, vU, [])]),
  (134, [(3, 0, 0, vU, []), (18, 30, 4, vU, []), (40, 148, 0, vU, [])]),
  (141, [(3, 0, 0, vU, []), (1, 2, 0, vU, []), (1, 5, 0, vU, []), (44, 76, 3, vU, []), (40, 148, 1, vU, [])]),
  (148, [(4, 6, 0, vU, []), (1, 5, 0, vU, []), (0, 0, 0, vI 5, []), (42, 1, 165, vU, []), (40, 156, 1, vU, [])]),
  (156, [(3, 0, 0, vU, []), (18, 30, 3, vU, []), (0, 0, 0, vI 1, []), (8, 1, 0, vU, []), (40, 188, 0, vU, [])]),
  (165, [(1, 5, 0, vU, []), (0, 0, 0, vI 4, []), (42, 1, 175, vU, []), (40, 171, 1, vU, [])]),
  (171, [(0, 0, 0, vI 5, []), (40, 188, 0, vU, [])]),
  (175, [(1, 5, 0, vU, []), (0, 0, 0, vI 1, []), (42, 1, 186, vU, []), (40, 181, 1, vU, [])]),
  (181, [(0, 0, 0, vI 9, []), (40, 188, 0, vU, [])]),
  (186, [(0, 0, 0, vI 99, []), (40, 188, 1, vU, [])]),
  (188, [(4, 7, 0, vU, []), (0, 0, 0, vI 0, []), (4, 8, 0, vU, []), (0, 0, 0, vI 0, []), (4, 9, 0, vU, []), (0, 0, 0, vI (-1), []), (4, 10, 0, vU, []), (1, 7, 0, vU, []), (4, 11, 0, vU, []), (40, 203, 1, vU, [])]),
  (203, [(1, 11, 0, vU, []), (41, 2, 261, vU, []), (40, 208, 1, vU, [])]),
  (208, [(3, 0, 0, vU, []), (1, 5, 0, vU, []), (1, 2, 0, vU, []), (1, 11, 0, vU, []), (44, 74, 4, vU, []), (3, 0, 0, vU, []), (1, 1, 0, vU, []), (1, 2, 0, vU, []), (1, 3, 0, vU, []), (44, 160, 4, vU, []), (0, 0, 0, vI (-1), []), (42, 1, 255, vU, []), (40, 228, 1, vU, [])]),
  (228, [(1, 8, 0, vU, []), (1, 11, 0, vU, []), (0, 0, 0, vI 10, []), (42, 3, 244, vU, []), (40, 237, 1, vU, [])]),
  (237, [(0, 0, 0, vI 1, []), (1, 11, 0, vU, []), (8, 5, 0, vU, []), (40, 245, 0, vU, [])]),
  (244, [(0, 0, 0, vI 0, []), (40, 245, 1, vU, [])]),
  (245, [(8, 4, 0, vU, []), (4, 8, 0, vU, []), (7, 9, 0, vI 1, []), (1, 11, 0, vU, []), (4, 10, 0, vU, []), (40, 255, 1, vU, [])]),
  (255, [(7, 11, 0, vI (-1), []), (40, 203, 0, vU, [])]),
  (261, [(3, 0, 0, vU, []), (1, 5, 0, vU, []), (1, 2, 0, vU, []), (1, 6, 0, vU, []), (44, 74, 4, vU, []), (1, 4, 0, vU, []), (0, 0, 0, vI 3, []), (42, 0, 282, vU, []), (40, 276, 1, vU, [])]),
  (276, [(1, 4, 0, vU, []), (0, 0, 0, vI 5, []), (42, 1, 287, vU, []), (40, 282, 1, vU, [])]),
  (282, [(1, 9, 0, vU, []), (40, 307, 0, vU, [])]),
  (287, [(1, 4, 0, vU, []), (0, 0, 0, vI 4, []), (42, 0, 300, vU, []), (40, 293, 1, vU, [])]),
  (293, [(1, 4, 0, vU, []), (0, 0, 0, vI 6, []), (42, 1, 305, vU, []), (40, 300, 1, vU, [])]),
  (300, [(1, 10, 0, vU, []), (40, 307, 0, vU, [])]),
  (305, [(1, 8, 0, vU, []), (40, 307, 1, vU, [])]),
  (307, [(45, 1, 0, vU, [])])]
theorem e_M_tells_L203 (n : Nat) (u7 : AV) (v1 : Int32) (v2 : Int32) (v3 : Int32) (v4 : Int32) (v5 : Int32) (v6 : Int32) (v8 : Int32) (v9 : Int32) (v10 : Int32) (v11 : Int32) (σ : Sg) : ab_ev tab_M_tells [(65, cp_M_in), (67, cp_M_isCoat), (68, cp_M_isHour), (74, cp_M_lays), (76, cp_M_told), (160, cp_M_firstOther), (161, cp_M_hourSet), (170, cp_M_isSheet)] [(203, kc_M_tells_203 (M_tells_L203 n))] finI 300 (ab_row tab_M_tells 203) [(vR 30 0), (.inl v1), (.inl v2), (.inl v3), (.inl v4), (.inl v5), (.inl v6), u7, (.inl v8), (.inl v9), (.inl v10), (.inl v11)] [] σ = M_tells_L203 (n + 1) v1 v2 v3 v4 v5 v6 v8 v9 v10 v11 σ := rfl
theorem e_M_tells_J148 (u6 u7 u8 u9 u10 u11 : AV) (v1 : Int32) (v2 : Int32) (v3 : Int32) (v4 : Int32) (v5 : Int32) (w0 : Int32) (σ : Sg) : ab_ev tab_M_tells [(65, cp_M_in), (67, cp_M_isCoat), (68, cp_M_isHour), (74, cp_M_lays), (76, cp_M_told), (160, cp_M_firstOther), (161, cp_M_hourSet), (170, cp_M_isSheet)] [(203, kc_M_tells_203 (M_tells_L203 FU))] finI 300 (ab_row tab_M_tells 148) [(vR 30 0), (.inl v1), (.inl v2), (.inl v3), (.inl v4), (.inl v5), u6, u7, u8, u9, u10, u11] [(.inl w0)] σ = M_tells_J148 v1 v2 v3 v4 v5 w0 σ := by
  unfold M_tells_J148
  rfl
theorem e_M_tells_J126 (u5 u6 u7 u8 u9 u10 u11 : AV) (v1 : Int32) (v2 : Int32) (v3 : Int32) (v4 : Int32) (w0 : Int32) (σ : Sg) : ab_ev tab_M_tells [(65, cp_M_in), (67, cp_M_isCoat), (68, cp_M_isHour), (74, cp_M_lays), (76, cp_M_told), (160, cp_M_firstOther), (161, cp_M_hourSet), (170, cp_M_isSheet)] [(148, kc_M_tells_148 (M_tells_J148))] finI 300 (ab_row tab_M_tells 126) [(vR 30 0), (.inl v1), (.inl v2), (.inl v3), (.inl v4), u5, u6, u7, u8, u9, u10, u11] [(.inl w0)] σ = M_tells_J126 v1 v2 v3 v4 w0 σ := by
  unfold M_tells_J126
  generalize M_tells_J148 = f148
  rfl
theorem e_M_tells_J84 (u5 u6 u7 u8 u9 u10 u11 : AV) (v1 : Int32) (v2 : Int32) (v3 : Int32) (v4 : Int32) (σ : Sg) : ab_ev tab_M_tells [(65, cp_M_in), (67, cp_M_isCoat), (68, cp_M_isHour), (74, cp_M_lays), (76, cp_M_told), (160, cp_M_firstOther), (161, cp_M_hourSet), (170, cp_M_isSheet)] [(126, kc_M_tells_126 (M_tells_J126))] finI 300 (ab_row tab_M_tells 84) [(vR 30 0), (.inl v1), (.inl v2), (.inl v3), (.inl v4), u5, u6, u7, u8, u9, u10, u11] [] σ = M_tells_J84 v1 v2 v3 v4 σ := by
  unfold M_tells_J84
  generalize M_tells_J126 = f126
  rfl
theorem e_M_tells_J62 (u5 u6 u7 u8 u9 u10 u11 : AV) (v1 : Int32) (v2 : Int32) (v3 : Int32) (v4 : Int32) (σ : Sg) : ab_ev tab_M_tells [(65, cp_M_in), (67, cp_M_isCoat), (68, cp_M_isHour), (74, cp_M_lays), (76, cp_M_told), (160, cp_M_firstOther), (161, cp_M_hourSet), (170, cp_M_isSheet)] [] finI 300 (ab_row tab_M_tells 62) [(vR 30 0), (.inl v1), (.inl v2), (.inl v3), (.inl v4), u5, u6, u7, u8, u9, u10, u11] [] σ = M_tells_J62 v1 v2 v3 v4 σ := by
  unfold M_tells_J62
  rfl
theorem e_M_tells_J50 (u5 u6 u7 u8 u9 u10 u11 : AV) (v1 : Int32) (v2 : Int32) (v3 : Int32) (v4 : Int32) (σ : Sg) : ab_ev tab_M_tells [(65, cp_M_in), (67, cp_M_isCoat), (68, cp_M_isHour), (74, cp_M_lays), (76, cp_M_told), (160, cp_M_firstOther), (161, cp_M_hourSet), (170, cp_M_isSheet)] [(62, kc_M_tells_62 (M_tells_J62)), (84, kc_M_tells_84 (M_tells_J84))] finI 300 (ab_row tab_M_tells 50) [(vR 30 0), (.inl v1), (.inl v2), (.inl v3), (.inl v4), u5, u6, u7, u8, u9, u10, u11] [] σ = M_tells_J50 v1 v2 v3 v4 σ := by
  unfold M_tells_J50
  generalize M_tells_J62 = f62
  generalize M_tells_J84 = f84
  rfl
theorem e_M_tells (p1 : Int32) (p2 : Int32) (p3 : Int32) (p4 : Int32) (σ : Sg) : ab_ev tab_M_tells [(65, cp_M_in), (67, cp_M_isCoat), (68, cp_M_isHour), (74, cp_M_lays), (76, cp_M_told), (160, cp_M_firstOther), (161, cp_M_hourSet), (170, cp_M_isSheet)] [(50, kc_M_tells_50 (M_tells_J50))] finI 300 (ab_row tab_M_tells 0) [(vR 30 0), (.inl p1), (.inl p2), (.inl p3), (.inl p4), vU, vU, vU, vU, vU, vU, vU] [] σ = M_tells p1 p2 p3 p4 σ := rfl
def kc_M_film_76 {R : Type} (c : Int32 → Int32 → Int32 → Int32 → Int32 → Int32 → Int32 → Sg → Option R) : ACut R := fun L st σ => match L, st with
  | [.inr (.inr (.inl (g1, i1))), .inl v1, .inl v2, .inl v3, .inl v4, .inl v5, .inl v6, _], [.inl w0] => match Nat.beq g1 30 && Nat.beq i1 0 with
    | true => c v1 v2 v3 v4 v5 v6 w0 σ
    | false => none
  | _, _ => none
def kc_M_film_53 {R : Type} (c : Int32 → Int32 → Int32 → Int32 → Int32 → Int32 → Sg → Option R) : ACut R := fun L st σ => match L, st with
  | [.inr (.inr (.inl (g1, i1))), .inl v1, .inl v2, .inl v3, .inl v4, .inl v5, .inl v6, _], [] => match Nat.beq g1 30 && Nat.beq i1 0 with
    | true => c v1 v2 v3 v4 v5 v6 σ
    | false => none
  | _, _ => none
def tab_M_film : List (Nat × List AOp) := [(0, [(1, 1, 0, vU, []), (44, 170, 1, vU, []), (41, 0, 35, vU, []), (40, 7, 1, vU, [])]),
  (7, [(3, 0, 0, vU, []), (1, 2, 0, vU, []), (44, 67, 2, vU, []), (41, 0, 35, vU, []), (40, 15, 1, vU, [])]),
  (15, [(1, 3, 0, vU, []), (44, 68, 1, vU, []), (41, 0, 35, vU, []), (40, 22, 1, vU, [])]),
  (22, [(1, 4, 0, vU, []), (11, 0, 0, vU, []), (0, 0, 0, vL 0, []), (0, 0, 0, vL 40, []), (44, 65, 3, vU, []), (41, 1, 38, vU, []), (40, 35, 1, vU, [])]),
  (35, [(0, 0, 0, vI (-2), []), (45, 1, 0, vU, [])]),
  (38, [(3, 0, 0, vU, []), (1, 1, 0, vU, []), (0, 0, 0, vI 0, []), (1, 4, 0, vU, []), (44, 171, 4, vU, []), (17, 0, 0, vU, []), (0, 0, 0, vI 0, []), (4, 5, 0, vU, []), (0, 0, 0, vI 0, []), (4, 6, 0, vU, []), (40, 53, 1, vU, [])]),
  (53, [(1, 6, 0, vU, []), (1, 4, 0, vU, []), (42, 3, 105, vU, []), (40, 60, 1, vU, [])]),
  (60, [(3, 0, 0, vU, []), (1, 2, 0, vU, []), (1, 6, 0, vU, []), (1, 3, 0, vU, []), (44, 128, 4, vU, []), (41, 0, 75, vU, []), (40, 71, 1, vU, [])]),
  (71, [(0, 0, 0, vI 1, []), (40, 76, 0, vU, [])]),
  (75, [(0, 0, 0, vI 0, []), (40, 76, 1, vU, [])]),
  (76, [(4, 7, 0, vU, []), (3, 0, 0, vU, []), (20, 30, 41, vR 50 0, []), (0, 0, 0, vI 40, []), (1, 1, 0, vU, []), (8, 2, 0, vU, []), (1, 6, 0, vU, []), (8, 0, 0, vU, []), (1, 7, 0, vU, []), (25, 50, 0, vU, []), (1, 5, 0, vU, []), (1, 7, 0, vU, []), (8, 0, 0, vU, []), (4, 5, 0, vU, []), (7, 6, 0, vI 1, []), (40, 53, 0, vU, [])]),
  (105, [(1, 5, 0, vU, []), (45, 1, 0, vU, [])])]
theorem e_M_film_J76 (k53 : Int32 → Int32 → Int32 → Int32 → Int32 → Int32 → Sg → Option (Int32 × Sg)) (u7 : AV) (v1 : Int32) (v2 : Int32) (v3 : Int32) (v4 : Int32) (v5 : Int32) (v6 : Int32) (w0 : Int32) (σ : Sg) : ab_ev tab_M_film [(65, cp_M_in), (67, cp_M_isCoat), (68, cp_M_isHour), (128, cp_M_fits), (170, cp_M_isSheet), (171, cp_M_sheet)] [(53, kc_M_film_53 k53)] finI 300 (ab_row tab_M_film 76) [(vR 30 0), (.inl v1), (.inl v2), (.inl v3), (.inl v4), (.inl v5), (.inl v6), u7] [(.inl w0)] σ = M_film_J76 k53 v1 v2 v3 v4 v5 v6 w0 σ := rfl
theorem e_M_film_L53 (n : Nat) (u7 : AV) (v1 : Int32) (v2 : Int32) (v3 : Int32) (v4 : Int32) (v5 : Int32) (v6 : Int32) (σ : Sg) : ab_ev tab_M_film [(65, cp_M_in), (67, cp_M_isCoat), (68, cp_M_isHour), (128, cp_M_fits), (170, cp_M_isSheet), (171, cp_M_sheet)] [(76, kc_M_film_76 (M_film_J76 (fun y0 y1 y2 y3 y4 y5 τ => M_film_L53 n y0 y1 y2 y3 y4 y5 τ)))] finI 300 (ab_row tab_M_film 53) [(vR 30 0), (.inl v1), (.inl v2), (.inl v3), (.inl v4), (.inl v5), (.inl v6), u7] [] σ = M_film_L53 (n + 1) v1 v2 v3 v4 v5 v6 σ := rfl
theorem e_M_film (p1 : Int32) (p2 : Int32) (p3 : Int32) (p4 : Int32) (σ : Sg) : ab_ev tab_M_film [(65, cp_M_in), (67, cp_M_isCoat), (68, cp_M_isHour), (128, cp_M_fits), (170, cp_M_isSheet), (171, cp_M_sheet)] [(53, kc_M_film_53 (M_film_L53 FU))] finI 300 (ab_row tab_M_film 0) [(vR 30 0), (.inl p1), (.inl p2), (.inl p3), (.inl p4), vU, vU, vU] [] σ = M_film p1 p2 p3 p4 σ := rfl
def kc_M_cheapDrawn_10 {R : Type} (c : Int32 → Int32 → Int32 → Sg → Option R) : ACut R := fun L st σ => match L, st with
  | [.inr (.inr (.inl (g1, i1))), _, .inl v2, .inl v3, .inl v4], [] => match Nat.beq g1 30 && Nat.beq i1 0 with
    | true => c v2 v3 v4 σ
    | false => none
  | _, _ => none
def tab_M_cheapDrawn : List (Nat × List AOp) := [(0, [(3, 0, 0, vU, []), (1, 2, 0, vU, []), (44, 153, 2, vU, []), (1, 1, 0, vU, []), (4, 3, 0, vU, []), (0, 0, 0, vI 0, []), (4, 4, 0, vU, []), (40, 10, 1, vU, [])]),
  (10, [(1, 4, 0, vU, []), (0, 0, 0, vI 24, []), (42, 3, 52, vU, []), (40, 17, 1, vU, [])]),
  (17, [(1, 3, 0, vU, []), (0, 0, 0, vI 1103515245, []), (8, 2, 0, vU, []), (0, 0, 0, vI 12345, []), (8, 0, 0, vU, []), (4, 3, 0, vU, []), (3, 0, 0, vU, []), (20, 30, 7, vR 34 0, []), (0, 0, 0, vI 24, []), (1, 2, 0, vU, []), (8, 2, 0, vU, []), (1, 4, 0, vU, []), (8, 0, 0, vU, []), (1, 3, 0, vU, []), (0, 0, 0, vI 9, []), (8, 7, 0, vU, []), (0, 0, 0, vI 100, []), (9, 1, 0, vU, []), (25, 34, 0, vU, []), (7, 4, 0, vI 1, []), (40, 10, 0, vU, [])]),
  (52, [(3, 0, 0, vU, []), (1, 2, 0, vU, []), (44, 149, 2, vU, []), (4, 4, 0, vU, []), (3, 0, 0, vU, []), (1, 2, 0, vU, []), (44, 154, 2, vU, []), (1, 4, 0, vU, []), (45, 1, 0, vU, [])])]
theorem e_M_cheapDrawn_L10 (n : Nat) (u1 : AV) (v2 : Int32) (v3 : Int32) (v4 : Int32) (σ : Sg) : ab_ev tab_M_cheapDrawn [(149, cp_M_cheapOf), (153, cp_M_laysAside), (154, cp_M_laysBack)] [(10, kc_M_cheapDrawn_10 (M_cheapDrawn_L10 n))] finI 300 (ab_row tab_M_cheapDrawn 10) [(vR 30 0), u1, (.inl v2), (.inl v3), (.inl v4)] [] σ = M_cheapDrawn_L10 (n + 1) v2 v3 v4 σ := rfl
theorem e_M_cheapDrawn (p1 : Int32) (p2 : Int32) (σ : Sg) : ab_ev tab_M_cheapDrawn [(149, cp_M_cheapOf), (153, cp_M_laysAside), (154, cp_M_laysBack)] [(10, kc_M_cheapDrawn_10 (M_cheapDrawn_L10 FU))] finI 300 (ab_row tab_M_cheapDrawn 0) [(vR 30 0), (.inl p1), (.inl p2), vU, vU] [] σ = M_cheapDrawn p1 p2 σ := rfl
def tab_M_drawn : List (Nat × List AOp) := [(0, [(1, 2, 0, vU, []), (44, 69, 1, vU, []), (41, 0, 16, vU, []), (40, 7, 1, vU, [])]),
  (7, [(3, 0, 0, vU, []), (1, 1, 0, vU, []), (1, 2, 0, vU, []), (44, 164, 3, vU, []), (40, 18, 0, vU, [])]),
  (16, [(0, 0, 0, vI (-2), []), (40, 18, 1, vU, [])]),
  (18, [(45, 1, 0, vU, [])])]
theorem e_M_drawn (p1 : Int32) (p2 : Int32) (σ : Sg) : ab_ev tab_M_drawn [(69, cp_M_isOne), (164, cp_M_cheapDrawn)] [] finI 300 (ab_row tab_M_drawn 0) [(vR 30 0), (.inl p1), (.inl p2)] [] σ = M_drawn p1 p2 σ := rfl
def kc_M_chance_53 {R : Type} (c : Int32 → Int32 → Int32 → Int32 → Int32 → Int64 → Int32 → Sg → Option R) : ACut R := fun L st σ => match L, st with
  | [.inr (.inr (.inl (g1, i1))), .inl v1, .inl v2, .inl v3, .inl v4, .inl v5, .inr (.inl v6), _, .inl v8], [] => match Nat.beq g1 30 && Nat.beq i1 0 with
    | true => c v1 v2 v3 v4 v5 v6 v8 σ
    | false => none
  | _, _ => none
def tab_M_chance : List (Nat × List AOp) := [(0, [(1, 2, 0, vU, []), (11, 0, 0, vU, []), (0, 0, 0, vL 1, []), (0, 0, 0, vL 10, []), (44, 65, 3, vU, []), (41, 0, 43, vU, []), (40, 12, 1, vU, [])]),
  (12, [(1, 3, 0, vU, []), (44, 69, 1, vU, []), (41, 0, 43, vU, []), (40, 19, 1, vU, [])]),
  (19, [(1, 4, 0, vU, []), (11, 0, 0, vU, []), (0, 0, 0, vL 0, []), (0, 0, 0, vL 9999, []), (44, 65, 3, vU, []), (41, 0, 43, vU, []), (40, 32, 1, vU, [])]),
  (32, [(1, 5, 0, vU, []), (11, 0, 0, vU, []), (0, 0, 0, vL 0, []), (0, 0, 0, vL 1, []), (44, 65, 3, vU, []), (41, 1, 47, vU, []), (40, 43, 1, vU, [])]),
  (43, [(0, 0, 0, vL (-4611686018427387904), []), (45, 2, 0, vU, [])]),
  (47, [(0, 0, 0, vL 0, []), (5, 6, 0, vU, []), (0, 0, 0, vI 0, []), (4, 8, 0, vU, []), (40, 53, 1, vU, [])]),
  (53, [(1, 8, 0, vU, []), (1, 2, 0, vU, []), (42, 3, 89, vU, []), (40, 59, 1, vU, [])]),
  (59, [(2, 6, 0, vU, []), (3, 0, 0, vU, []), (1, 1, 0, vU, []), (1, 8, 0, vU, []), (8, 0, 0, vU, []), (1, 3, 0, vU, []), (44, 164, 3, vU, []), (1, 4, 0, vU, []), (42, 4, 79, vU, []), (40, 75, 1, vU, [])]),
  (75, [(0, 0, 0, vL 1, []), (40, 80, 0, vU, [])]),
  (79, [(0, 0, 0, vL 0, []), (40, 80, 1, vU, [])]),
  (80, [(13, 0, 0, vU, []), (5, 6, 0, vU, []), (7, 8, 0, vI 1, []), (40, 53, 0, vU, [])]),
  (89, [(2, 6, 0, vU, []), (1, 2, 0, vU, []), (11, 0, 0, vU, []), (1, 5, 0, vU, []), (44, 158, 3, vU, []), (45, 2, 0, vU, [])])]
theorem e_M_chance_L53 (n : Nat) (u7 : AV) (v1 : Int32) (v2 : Int32) (v3 : Int32) (v4 : Int32) (v5 : Int32) (v6 : Int64) (v8 : Int32) (σ : Sg) : ab_ev tab_M_chance [(65, cp_M_in), (69, cp_M_isOne), (158, cp_M_lowest), (164, cp_M_cheapDrawn)] [(53, kc_M_chance_53 (M_chance_L53 n))] finL 300 (ab_row tab_M_chance 53) [(vR 30 0), (.inl v1), (.inl v2), (.inl v3), (.inl v4), (.inl v5), (.inr (.inl v6)), u7, (.inl v8)] [] σ = M_chance_L53 (n + 1) v1 v2 v3 v4 v5 v6 v8 σ := rfl
theorem e_M_chance (p1 : Int32) (p2 : Int32) (p3 : Int32) (p4 : Int32) (p5 : Int32) (σ : Sg) : ab_ev tab_M_chance [(65, cp_M_in), (69, cp_M_isOne), (158, cp_M_lowest), (164, cp_M_cheapDrawn)] [(53, kc_M_chance_53 (M_chance_L53 FU))] finL 300 (ab_row tab_M_chance 0) [(vR 30 0), (.inl p1), (.inl p2), (.inl p3), (.inl p4), (.inl p5), vU, vU, vU] [] σ = M_chance p1 p2 p3 p4 p5 σ := rfl
def kc_M_image_28 {R : Type} (c : Int32 → Sg → Option R) : ACut R := fun L st σ => match L, st with
  | [.inr (.inr (.inl (g1, i1))), .inl v1], [] => match Nat.beq g1 30 && Nat.beq i1 0 with
    | true => c v1 σ
    | false => none
  | _, _ => none
def kc_M_image_2 {R : Type} (c : Int32 → Sg → Option R) : ACut R := fun L st σ => match L, st with
  | [.inr (.inr (.inl (g1, i1))), .inl v1], [] => match Nat.beq g1 30 && Nat.beq i1 0 with
    | true => c v1 σ
    | false => none
  | _, _ => none
def tab_M_image : List (Nat × List AOp) := [(0, [(0, 0, 0, vI 0, []), (4, 1, 0, vU, []), (40, 2, 1, vU, [])]),
  (2, [(1, 1, 0, vU, []), (0, 0, 0, vI 72, []), (42, 3, 26, vU, []), (40, 8, 1, vU, [])]),
  (8, [(3, 0, 0, vU, []), (20, 30, 34, vR 45 0, []), (1, 1, 0, vU, []), (3, 0, 0, vU, []), (20, 30, 7, vR 34 0, []), (1, 1, 0, vU, []), (24, 34, 0, vU, []), (25, 45, 0, vU, []), (7, 1, 0, vI 1, []), (40, 2, 0, vU, [])]),
  (26, [(0, 0, 0, vI 0, []), (4, 1, 0, vU, []), (40, 28, 1, vU, [])]),
  (28, [(1, 1, 0, vU, []), (0, 0, 0, vI 24, []), (42, 3, 52, vU, []), (40, 34, 1, vU, [])]),
  (34, [(3, 0, 0, vU, []), (20, 30, 35, vR 46 0, []), (1, 1, 0, vU, []), (3, 0, 0, vU, []), (20, 30, 9, vR 36 0, []), (1, 1, 0, vU, []), (24, 36, 0, vU, []), (25, 46, 0, vU, []), (7, 1, 0, vI 1, []), (40, 28, 0, vU, [])]),
  (52, [(3, 0, 0, vU, []), (3, 0, 0, vU, []), (18, 30, 10, vU, []), (21, 30, 36, vU, []), (3, 0, 0, vU, []), (3, 0, 0, vU, []), (18, 30, 4, vU, []), (21, 30, 37, vU, []), (3, 0, 0, vU, []), (18, 30, 10, vU, []), (45, 1, 0, vU, [])])]
theorem e_M_image_L28 (n : Nat) (v1 : Int32) (σ : Sg) : ab_ev tab_M_image [] [(28, kc_M_image_28 (M_image_L28 n))] finI 300 (ab_row tab_M_image 28) [(vR 30 0), (.inl v1)] [] σ = M_image_L28 (n + 1) v1 σ := rfl
theorem e_M_image_L2 (n : Nat) (v1 : Int32) (σ : Sg) : ab_ev tab_M_image [] [(2, kc_M_image_2 (M_image_L2 n)), (28, kc_M_image_28 (M_image_L28 FU))] finI 300 (ab_row tab_M_image 2) [(vR 30 0), (.inl v1)] [] σ = M_image_L2 (n + 1) v1 σ := rfl
theorem e_M_image (σ : Sg) : ab_ev tab_M_image [] [(2, kc_M_image_2 (M_image_L2 FU))] finI 300 (ab_row tab_M_image 0) [(vR 30 0), vU] [] σ = M_image  σ := rfl
def kc_M_back_39 {R : Type} (c : Int32 → Sg → Option R) : ACut R := fun L st σ => match L, st with
  | [.inr (.inr (.inl (g1, i1))), .inl v1], [] => match Nat.beq g1 30 && Nat.beq i1 0 with
    | true => c v1 σ
    | false => none
  | _, _ => none
def kc_M_back_13 {R : Type} (c : Int32 → Sg → Option R) : ACut R := fun L st σ => match L, st with
  | [.inr (.inr (.inl (g1, i1))), .inl v1], [] => match Nat.beq g1 30 && Nat.beq i1 0 with
    | true => c v1 σ
    | false => none
  | _, _ => none
def tab_M_back : List (Nat × List AOp) := [(0, [(3, 0, 0, vU, []), (18, 30, 36, vU, []), (0, 0, 0, vI (-1), []), (42, 1, 11, vU, []), (40, 8, 1, vU, [])]),
  (8, [(0, 0, 0, vI (-3), []), (45, 1, 0, vU, [])]),
  (11, [(0, 0, 0, vI 0, []), (4, 1, 0, vU, []), (40, 13, 1, vU, [])]),
  (13, [(1, 1, 0, vU, []), (0, 0, 0, vI 72, []), (42, 3, 37, vU, []), (40, 19, 1, vU, [])]),
  (19, [(3, 0, 0, vU, []), (20, 30, 7, vR 34 0, []), (1, 1, 0, vU, []), (3, 0, 0, vU, []), (20, 30, 34, vR 45 0, []), (1, 1, 0, vU, []), (24, 45, 0, vU, []), (25, 34, 0, vU, []), (7, 1, 0, vI 1, []), (40, 13, 0, vU, [])]),
  (37, [(0, 0, 0, vI 0, []), (4, 1, 0, vU, []), (40, 39, 1, vU, [])]),
  (39, [(1, 1, 0, vU, []), (0, 0, 0, vI 24, []), (42, 3, 63, vU, []), (40, 45, 1, vU, [])]),
  (45, [(3, 0, 0, vU, []), (20, 30, 9, vR 36 0, []), (1, 1, 0, vU, []), (3, 0, 0, vU, []), (20, 30, 35, vR 46 0, []), (1, 1, 0, vU, []), (24, 46, 0, vU, []), (25, 36, 0, vU, []), (7, 1, 0, vI 1, []), (40, 39, 0, vU, [])]),
  (63, [(3, 0, 0, vU, []), (3, 0, 0, vU, []), (18, 30, 36, vU, []), (21, 30, 10, vU, []), (3, 0, 0, vU, []), (3, 0, 0, vU, []), (18, 30, 37, vU, []), (21, 30, 4, vU, []), (3, 0, 0, vU, []), (18, 30, 10, vU, []), (45, 1, 0, vU, [])])]
theorem e_M_back_L39 (n : Nat) (v1 : Int32) (σ : Sg) : ab_ev tab_M_back [] [(39, kc_M_back_39 (M_back_L39 n))] finI 300 (ab_row tab_M_back 39) [(vR 30 0), (.inl v1)] [] σ = M_back_L39 (n + 1) v1 σ := rfl
theorem e_M_back_L13 (n : Nat) (v1 : Int32) (σ : Sg) : ab_ev tab_M_back [] [(13, kc_M_back_13 (M_back_L13 n)), (39, kc_M_back_39 (M_back_L39 FU))] finI 300 (ab_row tab_M_back 13) [(vR 30 0), (.inl v1)] [] σ = M_back_L13 (n + 1) v1 σ := rfl
theorem e_M_back (σ : Sg) : ab_ev tab_M_back [] [(13, kc_M_back_13 (M_back_L13 FU))] finI 300 (ab_row tab_M_back 0) [(vR 30 0), vU] [] σ = M_back  σ := rfl
def kc_M_count_19 {R : Type} (c : Int32 → Int32 → Int32 → Sg → Option R) : ACut R := fun L st σ => match L, st with
  | [.inr (.inr (.inl (g1, i1))), .inl v1, .inl v2, .inl v3], [] => match Nat.beq g1 30 && Nat.beq i1 0 with
    | true => c v1 v2 v3 σ
    | false => none
  | _, _ => none
def tab_M_count : List (Nat × List AOp) := [(0, [(1, 1, 0, vU, []), (11, 0, 0, vU, []), (0, 0, 0, vL 0, []), (0, 0, 0, vL 4, []), (44, 65, 3, vU, []), (41, 1, 15, vU, []), (40, 12, 1, vU, [])]),
  (12, [(0, 0, 0, vI (-2), []), (45, 1, 0, vU, [])]),
  (15, [(0, 0, 0, vI 0, []), (4, 2, 0, vU, []), (0, 0, 0, vI 0, []), (4, 3, 0, vU, []), (40, 19, 1, vU, [])]),
  (19, [(1, 3, 0, vU, []), (3, 0, 0, vU, []), (18, 30, 10, vU, []), (42, 3, 46, vU, []), (40, 27, 1, vU, [])]),
  (27, [(1, 2, 0, vU, []), (3, 0, 0, vU, []), (20, 30, 9, vR 36 0, []), (0, 0, 0, vI 3, []), (1, 3, 0, vU, []), (8, 2, 0, vU, []), (0, 0, 0, vI 2, []), (8, 0, 0, vU, []), (24, 36, 0, vU, []), (8, 0, 0, vU, []), (4, 2, 0, vU, []), (7, 3, 0, vI 1, []), (40, 19, 0, vU, [])]),
  (46, [(1, 1, 0, vU, []), (41, 1, 57, vU, []), (40, 50, 1, vU, [])]),
  (50, [(3, 0, 0, vU, []), (18, 30, 10, vU, []), (40, 94, 0, vU, [])]),
  (57, [(1, 1, 0, vU, []), (0, 0, 0, vI 1, []), (42, 1, 66, vU, []), (40, 62, 1, vU, [])]),
  (62, [(1, 2, 0, vU, []), (40, 94, 0, vU, [])]),
  (66, [(1, 1, 0, vU, []), (0, 0, 0, vI 2, []), (42, 1, 78, vU, []), (40, 71, 1, vU, [])]),
  (71, [(3, 0, 0, vU, []), (18, 30, 3, vU, []), (40, 94, 0, vU, [])]),
  (78, [(1, 1, 0, vU, []), (0, 0, 0, vI 3, []), (42, 1, 90, vU, []), (40, 83, 1, vU, [])]),
  (83, [(3, 0, 0, vU, []), (18, 30, 6, vU, []), (40, 94, 0, vU, [])]),
  (90, [(3, 0, 0, vU, []), (18, 30, 4, vU, []), (40, 94, 1, vU, [])]),
  (94, [(45, 1, 0, vU, [])])]
theorem e_M_count_L19 (n : Nat) (v1 : Int32) (v2 : Int32) (v3 : Int32) (σ : Sg) : ab_ev tab_M_count [(65, cp_M_in)] [(19, kc_M_count_19 (M_count_L19 n))] finI 300 (ab_row tab_M_count 19) [(vR 30 0), (.inl v1), (.inl v2), (.inl v3)] [] σ = M_count_L19 (n + 1) v1 v2 v3 σ := rfl
theorem e_M_count (p1 : Int32) (σ : Sg) : ab_ev tab_M_count [(65, cp_M_in)] [(19, kc_M_count_19 (M_count_L19 FU))] finI 300 (ab_row tab_M_count 0) [(vR 30 0), (.inl p1), vU, vU] [] σ = M_count p1 σ := rfl
def tab_M_cell : List (Nat × List AOp) := [(0, [(1, 1, 0, vU, []), (44, 170, 1, vU, []), (41, 1, 10, vU, []), (40, 7, 1, vU, [])]),
  (7, [(0, 0, 0, vI (-2), []), (45, 1, 0, vU, [])]),
  (10, [(3, 0, 0, vU, []), (20, 30, 38, vR 47 0, []), (1, 1, 0, vU, []), (26, 47, 0, vU, []), (41, 1, 22, vU, []), (40, 19, 1, vU, [])]),
  (19, [(0, 0, 0, vI (-11), []), (45, 1, 0, vU, [])]),
  (22, [(1, 2, 0, vU, []), (11, 0, 0, vU, []), (0, 0, 0, vL 0, []), (3, 0, 0, vU, []), (20, 30, 40, vR 49 0, []), (1, 1, 0, vU, []), (24, 49, 0, vU, []), (0, 0, 0, vI 1, []), (8, 1, 0, vU, []), (11, 0, 0, vU, []), (44, 65, 3, vU, []), (41, 1, 43, vU, []), (40, 40, 1, vU, [])]),
  (40, [(0, 0, 0, vI (-12), []), (45, 1, 0, vU, [])]),
  (43, [(3, 0, 0, vU, []), (20, 30, 41, vR 50 0, []), (0, 0, 0, vI 40, []), (1, 1, 0, vU, []), (8, 2, 0, vU, []), (1, 2, 0, vU, []), (8, 0, 0, vU, []), (3, 0, 0, vU, []), (20, 30, 39, vR 48 0, []), (1, 1, 0, vU, []), (24, 48, 0, vU, []), (41, 1, 67, vU, []), (40, 62, 1, vU, [])]),
  (62, [(1, 3, 0, vU, []), (10, 1, 0, vU, []), (40, 83, 0, vU, [])]),
  (67, [(3, 0, 0, vU, []), (20, 30, 39, vR 48 0, []), (1, 1, 0, vU, []), (24, 48, 0, vU, []), (0, 0, 0, vI 1, []), (42, 1, 82, vU, []), (40, 77, 1, vU, [])]),
  (77, [(1, 3, 0, vU, []), (10, 2, 0, vU, []), (40, 83, 0, vU, [])]),
  (82, [(1, 3, 0, vU, []), (40, 83, 1, vU, [])]),
  (83, [(25, 50, 0, vU, []), (0, 0, 0, vI 1, []), (45, 1, 0, vU, [])])]
theorem e_M_cell (p1 : Int32) (p2 : Int32) (p3 : Int32) (σ : Sg) : ab_ev tab_M_cell [(65, cp_M_in), (170, cp_M_isSheet)] [] finI 300 (ab_row tab_M_cell 0) [(vR 30 0), (.inl p1), (.inl p2), (.inl p3)] [] σ = M_cell p1 p2 p3 σ := rfl
def kc_M_copy_145 {R : Type} (c : Int32 → Int32 → Int32 → Int32 → Int32 → Int32 → Int32 → Int32 → Sg → Option R) : ACut R := fun L st σ => match L, st with
  | [.inr (.inr (.inl (g1, i1))), .inl v1, .inl v2, .inl v3, .inl v4, .inl v5, .inl v6, .inl v7, _], [.inl w0] => match Nat.beq g1 30 && Nat.beq i1 0 with
    | true => c v1 v2 v3 v4 v5 v6 v7 w0 σ
    | false => none
  | _, _ => none
def kc_M_copy_121 {R : Type} (c : Int32 → Int32 → Int32 → Int32 → Int32 → Int32 → Int32 → Sg → Option R) : ACut R := fun L st σ => match L, st with
  | [.inr (.inr (.inl (g1, i1))), .inl v1, .inl v2, .inl v3, .inl v4, .inl v5, .inl v6, .inl v7, _], [] => match Nat.beq g1 30 && Nat.beq i1 0 with
    | true => c v1 v2 v3 v4 v5 v6 v7 σ
    | false => none
  | _, _ => none
def tab_M_copy : List (Nat × List AOp) := [(0, [(1, 1, 0, vU, []), (44, 170, 1, vU, []), (41, 0, 14, vU, []), (40, 7, 1, vU, [])]),
  (7, [(1, 3, 0, vU, []), (44, 170, 1, vU, []), (41, 1, 17, vU, []), (40, 14, 1, vU, [])]),
  (14, [(0, 0, 0, vI (-2), []), (45, 1, 0, vU, [])]),
  (17, [(3, 0, 0, vU, []), (20, 30, 38, vR 47 0, []), (1, 1, 0, vU, []), (26, 47, 0, vU, []), (41, 0, 35, vU, []), (40, 26, 1, vU, [])]),
  (26, [(3, 0, 0, vU, []), (20, 30, 38, vR 47 0, []), (1, 3, 0, vU, []), (26, 47, 0, vU, []), (41, 1, 38, vU, []), (40, 35, 1, vU, [])]),
  (35, [(0, 0, 0, vI (-11), []), (45, 1, 0, vU, [])]),
  (38, [(3, 0, 0, vU, []), (20, 30, 39, vR 48 0, []), (1, 1, 0, vU, []), (24, 48, 0, vU, []), (3, 0, 0, vU, []), (20, 30, 39, vR 48 0, []), (1, 3, 0, vU, []), (24, 48, 0, vU, []), (42, 0, 56, vU, []), (40, 53, 1, vU, [])]),
  (53, [(0, 0, 0, vI (-13), []), (45, 1, 0, vU, [])]),
  (56, [(1, 5, 0, vU, []), (41, 2, 97, vU, []), (40, 61, 1, vU, [])]),
  (61, [(1, 2, 0, vU, []), (41, 2, 97, vU, []), (40, 65, 1, vU, [])]),
  (65, [(1, 4, 0, vU, []), (41, 2, 97, vU, []), (40, 70, 1, vU, [])]),
  (70, [(1, 2, 0, vU, []), (3, 0, 0, vU, []), (20, 30, 40, vR 49 0, []), (1, 1, 0, vU, []), (24, 49, 0, vU, []), (1, 5, 0, vU, []), (8, 1, 0, vU, []), (42, 4, 97, vU, []), (40, 83, 1, vU, [])]),
  (83, [(1, 4, 0, vU, []), (3, 0, 0, vU, []), (20, 30, 40, vR 49 0, []), (1, 3, 0, vU, []), (24, 49, 0, vU, []), (1, 5, 0, vU, []), (8, 1, 0, vU, []), (42, 5, 100, vU, []), (40, 97, 1, vU, [])]),
  (97, [(0, 0, 0, vI (-12), []), (45, 1, 0, vU, [])]),
  (100, [(1, 1, 0, vU, []), (1, 3, 0, vU, []), (42, 1, 115, vU, []), (40, 105, 1, vU, [])]),
  (105, [(1, 2, 0, vU, []), (1, 4, 0, vU, []), (42, 3, 115, vU, []), (40, 111, 1, vU, [])]),
  (111, [(0, 0, 0, vI 1, []), (40, 116, 0, vU, [])]),
  (115, [(0, 0, 0, vI 0, []), (40, 116, 1, vU, [])]),
  (116, [(4, 6, 0, vU, []), (0, 0, 0, vI 0, []), (4, 7, 0, vU, []), (40, 121, 1, vU, [])]),
  (121, [(1, 7, 0, vU, []), (1, 5, 0, vU, []), (42, 3, 182, vU, []), (40, 128, 1, vU, [])]),
  (128, [(1, 6, 0, vU, []), (41, 0, 143, vU, []), (40, 133, 1, vU, [])]),
  (133, [(1, 5, 0, vU, []), (0, 0, 0, vI 1, []), (8, 1, 0, vU, []), (1, 7, 0, vU, []), (8, 1, 0, vU, []), (40, 145, 0, vU, [])]),
  (143, [(1, 7, 0, vU, []), (40, 145, 1, vU, [])]),
  (145, [(4, 8, 0, vU, []), (3, 0, 0, vU, []), (20, 30, 41, vR 50 0, []), (0, 0, 0, vI 40, []), (1, 3, 0, vU, []), (8, 2, 0, vU, []), (1, 4, 0, vU, []), (8, 0, 0, vU, []), (1, 8, 0, vU, []), (8, 0, 0, vU, []), (3, 0, 0, vU, []), (20, 30, 41, vR 50 0, []), (0, 0, 0, vI 40, []), (1, 1, 0, vU, []), (8, 2, 0, vU, []), (1, 2, 0, vU, []), (8, 0, 0, vU, []), (1, 8, 0, vU, []), (8, 0, 0, vU, []), (24, 50, 0, vU, []), (25, 50, 0, vU, []), (7, 7, 0, vI 1, []), (40, 121, 0, vU, [])]),
  (182, [(1, 5, 0, vU, []), (45, 1, 0, vU, [])])]
theorem e_M_copy_J145 (k121 : Int32 → Int32 → Int32 → Int32 → Int32 → Int32 → Int32 → Sg → Option (Int32 × Sg)) (u8 : AV) (v1 : Int32) (v2 : Int32) (v3 : Int32) (v4 : Int32) (v5 : Int32) (v6 : Int32) (v7 : Int32) (w0 : Int32) (σ : Sg) : ab_ev tab_M_copy [(170, cp_M_isSheet)] [(121, kc_M_copy_121 k121)] finI 300 (ab_row tab_M_copy 145) [(vR 30 0), (.inl v1), (.inl v2), (.inl v3), (.inl v4), (.inl v5), (.inl v6), (.inl v7), u8] [(.inl w0)] σ = M_copy_J145 k121 v1 v2 v3 v4 v5 v6 v7 w0 σ := rfl
theorem e_M_copy_L121 (n : Nat) (u8 : AV) (v1 : Int32) (v2 : Int32) (v3 : Int32) (v4 : Int32) (v5 : Int32) (v6 : Int32) (v7 : Int32) (σ : Sg) : ab_ev tab_M_copy [(170, cp_M_isSheet)] [(145, kc_M_copy_145 (M_copy_J145 (fun y0 y1 y2 y3 y4 y5 y6 τ => M_copy_L121 n y0 y1 y2 y3 y4 y5 y6 τ)))] finI 300 (ab_row tab_M_copy 121) [(vR 30 0), (.inl v1), (.inl v2), (.inl v3), (.inl v4), (.inl v5), (.inl v6), (.inl v7), u8] [] σ = M_copy_L121 (n + 1) v1 v2 v3 v4 v5 v6 v7 σ := rfl
theorem e_M_copy (p1 : Int32) (p2 : Int32) (p3 : Int32) (p4 : Int32) (p5 : Int32) (σ : Sg) : ab_ev tab_M_copy [(170, cp_M_isSheet)] [(121, kc_M_copy_121 (M_copy_L121 FU))] finI 300 (ab_row tab_M_copy 0) [(vR 30 0), (.inl p1), (.inl p2), (.inl p3), (.inl p4), (.inl p5), vU, vU, vU] [] σ = M_copy p1 p2 p3 p4 p5 σ := rfl
def kc_M_coats_75 {R : Type} (c : Int32 → Int32 → Int32 → Int32 → Int32 → Sg → Option R) : ACut R := fun L st σ => match L, st with
  | [.inr (.inr (.inl (g1, i1))), .inl v1, _, .inl v3, .inl v4, .inl v5, .inl v6, _], [] => match Nat.beq g1 30 && Nat.beq i1 0 with
    | true => c v1 v3 v4 v5 v6 σ
    | false => none
  | _, _ => none
def tab_M_coats : List (Nat × List AOp) := [(0, [(1, 1, 0, vU, []), (44, 170, 1, vU, []), (41, 0, 32, vU, []), (40, 7, 1, vU, [])]),
  (7, [(1, 2, 0, vU, []), (11, 0, 0, vU, []), (0, 0, 0, vL 0, []), (0, 0, 0, vL 2, []), (44, 65, 3, vU, []), (41, 0, 32, vU, []), (40, 19, 1, vU, [])]),
  (19, [(1, 4, 0, vU, []), (11, 0, 0, vU, []), (0, 0, 0, vL 0, []), (0, 0, 0, vL 8, []), (44, 65, 3, vU, []), (41, 1, 35, vU, []), (40, 32, 1, vU, [])]),
  (32, [(0, 0, 0, vI (-2), []), (45, 1, 0, vU, [])]),
  (35, [(3, 0, 0, vU, []), (20, 30, 38, vR 47 0, []), (1, 1, 0, vU, []), (26, 47, 0, vU, []), (41, 0, 57, vU, []), (40, 44, 1, vU, [])]),
  (44, [(3, 0, 0, vU, []), (20, 30, 39, vR 48 0, []), (1, 1, 0, vU, []), (24, 48, 0, vU, []), (1, 2, 0, vU, []), (42, 0, 57, vU, []), (40, 54, 1, vU, [])]),
  (54, [(0, 0, 0, vI (-13), []), (45, 1, 0, vU, [])]),
  (57, [(3, 0, 0, vU, []), (20, 30, 38, vR 47 0, []), (1, 1, 0, vU, []), (26, 47, 0, vU, []), (41, 1, 69, vU, []), (40, 66, 1, vU, [])]),
  (66, [(0, 0, 0, vI (-11), []), (45, 1, 0, vU, [])]),
  (69, [(0, 0, 0, vI 0, []), (4, 5, 0, vU, []), (0, 0, 0, vI 0, []), (4, 6, 0, vU, []), (40, 75, 1, vU, [])]),
  (75, [(1, 6, 0, vU, []), (1, 4, 0, vU, []), (42, 3, 167, vU, []), (40, 82, 1, vU, [])]),
  (82, [(1, 3, 0, vU, []), (41, 2, 103, vU, []), (40, 86, 1, vU, [])]),
  (86, [(1, 3, 0, vU, []), (3, 0, 0, vU, []), (20, 30, 40, vR 49 0, []), (1, 1, 0, vU, []), (24, 49, 0, vU, []), (0, 0, 0, vI 3, []), (1, 6, 0, vU, []), (8, 2, 0, vU, []), (8, 1, 0, vU, []), (0, 0, 0, vI 3, []), (8, 1, 0, vU, []), (42, 5, 106, vU, []), (40, 103, 1, vU, [])]),
  (103, [(0, 0, 0, vI (-12), []), (45, 1, 0, vU, [])]),
  (106, [(0, 0, 0, vI 40, []), (1, 1, 0, vU, []), (8, 2, 0, vU, []), (1, 3, 0, vU, []), (8, 0, 0, vU, []), (0, 0, 0, vI 3, []), (1, 6, 0, vU, []), (8, 2, 0, vU, []), (8, 0, 0, vU, []), (4, 7, 0, vU, []), (1, 5, 0, vU, []), (3, 0, 0, vU, []), (3, 0, 0, vU, []), (20, 30, 41, vR 50 0, []), (1, 7, 0, vU, []), (24, 50, 0, vU, []), (3, 0, 0, vU, []), (20, 30, 41, vR 50 0, []), (1, 7, 0, vU, []), (0, 0, 0, vI 1, []), (8, 0, 0, vU, []), (24, 50, 0, vU, []), (3, 0, 0, vU, []), (20, 30, 41, vR 50 0, []), (1, 7, 0, vU, []), (0, 0, 0, vI 2, []), (8, 0, 0, vU, []), (24, 50, 0, vU, []), (44, 75, 4, vU, []), (41, 2, 157, vU, []), (40, 153, 1, vU, [])]),
  (153, [(0, 0, 0, vI 1, []), (40, 158, 0, vU, [])]),
  (157, [(0, 0, 0, vI 0, []), (40, 158, 1, vU, [])]),
  (158, [(8, 0, 0, vU, []), (4, 5, 0, vU, []), (7, 6, 0, vI 1, []), (40, 75, 0, vU, [])]),
  (167, [(1, 5, 0, vU, []), (45, 1, 0, vU, [])])]
theorem e_M_coats_L75 (n : Nat) (u2 u7 : AV) (v1 : Int32) (v3 : Int32) (v4 : Int32) (v5 : Int32) (v6 : Int32) (σ : Sg) : ab_ev tab_M_coats [(65, cp_M_in), (75, cp_M_coat), (170, cp_M_isSheet)] [(75, kc_M_coats_75 (M_coats_L75 n))] finI 300 (ab_row tab_M_coats 75) [(vR 30 0), (.inl v1), u2, (.inl v3), (.inl v4), (.inl v5), (.inl v6), u7] [] σ = M_coats_L75 (n + 1) v1 v3 v4 v5 v6 σ := rfl
theorem e_M_coats (p1 : Int32) (p2 : Int32) (p3 : Int32) (p4 : Int32) (σ : Sg) : ab_ev tab_M_coats [(65, cp_M_in), (75, cp_M_coat), (170, cp_M_isSheet)] [(75, kc_M_coats_75 (M_coats_L75 FU))] finI 300 (ab_row tab_M_coats 0) [(vR 30 0), (.inl p1), (.inl p2), (.inl p3), (.inl p4), vU, vU, vU] [] σ = M_coats p1 p2 p3 p4 σ := rfl
def tab_M_over : List (Nat × List AOp) := [(0, [(1, 0, 0, vU, []), (41, 1, 8, vU, []), (40, 4, 1, vU, [])]),
  (4, [(0, 0, 0, vI (-1), []), (40, 27, 0, vU, [])]),
  (8, [(1, 0, 0, vU, []), (0, 0, 0, vI 3, []), (42, 1, 17, vU, []), (40, 13, 1, vU, [])]),
  (13, [(0, 0, 0, vI 1, []), (40, 27, 0, vU, [])]),
  (17, [(1, 0, 0, vU, []), (0, 0, 0, vI 4, []), (42, 1, 26, vU, []), (40, 22, 1, vU, [])]),
  (22, [(0, 0, 0, vI 2, []), (40, 27, 0, vU, [])]),
  (26, [(0, 0, 0, vI 0, []), (40, 27, 1, vU, [])]),
  (27, [(45, 1, 0, vU, [])])]
theorem e_M_over (p0 : Int32) (σ : Sg) : ab_ev tab_M_over [] [] finI 300 (ab_row tab_M_over 0) [(.inl p0)] [] σ = M_over p0 σ := rfl
def kc_M_taken_51 {R : Type} (c : Int32 → Int32 → Int32 → Sg → Option R) : ACut R := fun L st σ => match L, st with
  | [.inr (.inr (.inl (g1, i1))), .inl v1, .inl v2, .inl v3], [] => match Nat.beq g1 30 && Nat.beq i1 0 with
    | true => c v1 v2 v3 σ
    | false => none
  | _, _ => none
def kc_M_taken_33 {R : Type} (c : Int32 → Int32 → Int32 → Sg → Option R) : ACut R := fun L st σ => match L, st with
  | [.inr (.inr (.inl (g1, i1))), .inl v1, .inl v2, .inl v3], [] => match Nat.beq g1 30 && Nat.beq i1 0 with
    | true => c v1 v2 v3 σ
    | false => none
  | _, _ => none
def tab_M_taken : List (Nat × List AOp) := [(0, [(1, 2, 0, vU, []), (11, 0, 0, vU, []), (0, 0, 0, vL 0, []), (0, 0, 0, vL 5, []), (44, 65, 3, vU, []), (41, 1, 15, vU, []), (40, 12, 1, vU, [])]),
  (12, [(0, 0, 0, vI (-2), []), (45, 1, 0, vU, [])]),
  (15, [(3, 0, 0, vU, []), (1, 1, 0, vU, []), (44, 67, 2, vU, []), (41, 1, 26, vU, []), (40, 23, 1, vU, [])]),
  (23, [(0, 0, 0, vI (-11), []), (45, 1, 0, vU, [])]),
  (26, [(3, 0, 0, vU, []), (20, 30, 8, vR 35 0, []), (1, 1, 0, vU, []), (24, 35, 0, vU, []), (4, 3, 0, vU, []), (40, 33, 1, vU, [])]),
  (33, [(1, 3, 0, vU, []), (0, 0, 0, vI (-1), []), (42, 0, 51, vU, []), (40, 38, 1, vU, [])]),
  (38, [(1, 3, 0, vU, []), (1, 2, 0, vU, []), (42, 0, 51, vU, []), (40, 43, 1, vU, [])]),
  (43, [(1, 3, 0, vU, []), (44, 175, 1, vU, []), (4, 3, 0, vU, []), (40, 33, 0, vU, [])]),
  (51, [(1, 3, 0, vU, []), (1, 2, 0, vU, []), (42, 1, 67, vU, []), (40, 56, 1, vU, [])]),
  (56, [(3, 0, 0, vU, []), (20, 30, 9, vR 36 0, []), (0, 0, 0, vI 3, []), (1, 1, 0, vU, []), (8, 2, 0, vU, []), (24, 36, 0, vU, []), (40, 69, 0, vU, [])]),
  (67, [(0, 0, 0, vI (-13), []), (40, 69, 1, vU, [])]),
  (69, [(45, 1, 0, vU, [])])]
theorem e_M_taken_J51 (v1 : Int32) (v2 : Int32) (v3 : Int32) (σ : Sg) : ab_ev tab_M_taken [(65, cp_M_in), (67, cp_M_isCoat), (175, cp_M_over)] [] finI 300 (ab_row tab_M_taken 51) [(vR 30 0), (.inl v1), (.inl v2), (.inl v3)] [] σ = M_taken_J51 v1 v2 v3 σ := rfl
theorem e_M_taken_L33 (n : Nat) (v1 : Int32) (v2 : Int32) (v3 : Int32) (σ : Sg) : ab_ev tab_M_taken [(65, cp_M_in), (67, cp_M_isCoat), (175, cp_M_over)] [(33, kc_M_taken_33 (M_taken_L33 n)), (51, kc_M_taken_51 (M_taken_J51))] finI 300 (ab_row tab_M_taken 33) [(vR 30 0), (.inl v1), (.inl v2), (.inl v3)] [] σ = M_taken_L33 (n + 1) v1 v2 v3 σ := rfl
theorem e_M_taken (p1 : Int32) (p2 : Int32) (σ : Sg) : ab_ev tab_M_taken [(65, cp_M_in), (67, cp_M_isCoat), (175, cp_M_over)] [(33, kc_M_taken_33 (M_taken_L33 FU))] finI 300 (ab_row tab_M_taken 0) [(vR 30 0), (.inl p1), (.inl p2), vU] [] σ = M_taken p1 p2 σ := rfl
