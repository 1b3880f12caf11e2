def tab_M_isWord : List (Nat × List AOp) := [(0, [(3, 0, 0, vU, []), (18, 30, 24, vU, []), (41, 1, 112, vU, []), (40, 7, 1, vU, [])]),
  (7, [(3, 0, 0, vU, []), (18, 30, 20, vU, []), (0, 0, 0, vI 1, []), (42, 1, 112, vU, []), (40, 15, 1, vU, [])]),
  (15, [(3, 0, 0, vU, []), (18, 30, 19, vU, []), (3, 0, 0, vU, []), (18, 30, 21, vU, []), (0, 0, 0, vI 8, []), (8, 0, 0, vU, []), (42, 4, 112, vU, []), (40, 29, 1, vU, [])]),
  (29, [(3, 0, 0, vU, []), (0, 0, 0, vI 0, []), (1, 1, 0, vU, []), (44, 81, 3, vU, []), (41, 0, 112, vU, []), (40, 38, 1, vU, [])]),
  (38, [(3, 0, 0, vU, []), (0, 0, 0, vI 1, []), (1, 2, 0, vU, []), (44, 81, 3, vU, []), (41, 0, 112, vU, []), (40, 47, 1, vU, [])]),
  (47, [(3, 0, 0, vU, []), (0, 0, 0, vI 2, []), (1, 3, 0, vU, []), (44, 81, 3, vU, []), (41, 0, 112, vU, []), (40, 56, 1, vU, [])]),
  (56, [(3, 0, 0, vU, []), (0, 0, 0, vI 3, []), (1, 4, 0, vU, []), (44, 81, 3, vU, []), (41, 0, 112, vU, []), (40, 66, 1, vU, [])]),
  (66, [(3, 0, 0, vU, []), (0, 0, 0, vI 4, []), (1, 5, 0, vU, []), (44, 81, 3, vU, []), (41, 0, 112, vU, []), (40, 76, 1, vU, [])]),
  (76, [(3, 0, 0, vU, []), (0, 0, 0, vI 5, []), (1, 6, 0, vU, []), (44, 81, 3, vU, []), (41, 0, 112, vU, []), (40, 86, 1, vU, [])]),
  (86, [(3, 0, 0, vU, []), (0, 0, 0, vI 6, []), (1, 7, 0, vU, []), (44, 81, 3, vU, []), (41, 0, 112, vU, []), (40, 97, 1, vU, [])]),
  (97, [(3, 0, 0, vU, []), (0, 0, 0, vI 7, []), (1, 8, 0, vU, []), (44, 81, 3, vU, []), (41, 0, 112, vU, []), (40, 108, 1, vU, [])]),
  (108, [(0, 0, 0, vI 1, []), (40, 113, 0, vU, [])]),
  (112, [(0, 0, 0, vI 0, []), (40, 113, 1, vU, [])]),
  (113, [(45, 3, 0, vU, [])])]
theorem e_M_isWord (p1 : Int32) (p2 : Int32) (p3 : Int32) (p4 : Int32) (p5 : Int32) (p6 : Int32) (p7 : Int32) (p8 : Int32) (σ : Sg) : ab_ev tab_M_isWord [(81, cp_M_isLetter)] [] finI 300 (ab_row tab_M_isWord 0) [(vR 30 0), (.inl p1), (.inl p2), (.inl p3), (.inl p4), (.inl p5), (.inl p6), (.inl p7), (.inl p8)] [] σ = M_isWord p1 p2 p3 p4 p5 p6 p7 p8 σ := rfl
def tab_M_isSign : List (Nat × List AOp) := [(0, [(3, 0, 0, vU, []), (18, 30, 24, vU, []), (41, 1, 29, vU, []), (40, 7, 1, vU, [])]),
  (7, [(3, 0, 0, vU, []), (18, 30, 20, vU, []), (0, 0, 0, vI 3, []), (42, 1, 29, vU, []), (40, 15, 1, vU, [])]),
  (15, [(3, 0, 0, vU, []), (19, 30, 22, vU, []), (1, 1, 0, vU, []), (11, 0, 0, vU, []), (15, 0, 0, vU, []), (41, 1, 29, vU, []), (40, 25, 1, vU, [])]),
  (25, [(0, 0, 0, vI 1, []), (40, 30, 0, vU, [])]),
  (29, [(0, 0, 0, vI 0, []), (40, 30, 1, vU, [])]),
  (30, [(45, 3, 0, vU, [])])]
theorem e_M_isSign (p1 : Int32) (σ : Sg) : ab_ev tab_M_isSign [] [] finI 300 (ab_row tab_M_isSign 0) [(vR 30 0), (.inl p1)] [] σ = M_isSign p1 σ := rfl
def tab_M_opens : List (Nat × List AOp) := [(0, [(3, 0, 0, vU, []), (18, 30, 23, vU, []), (0, 0, 0, vI 5, []), (42, 1, 14, vU, []), (40, 8, 1, vU, [])]),
  (8, [(3, 0, 0, vU, []), (44, 80, 1, vU, []), (0, 0, 0, vI 0, []), (45, 3, 0, vU, [])]),
  (14, [(3, 0, 0, vU, []), (16, 0, 0, vU, []), (18, 30, 23, vU, []), (0, 0, 0, vI 1, []), (8, 0, 0, vU, []), (21, 30, 23, vU, []), (3, 0, 0, vU, []), (44, 79, 1, vU, []), (0, 0, 0, vI 1, []), (45, 3, 0, vU, [])])]
theorem e_M_opens (σ : Sg) : ab_ev tab_M_opens [(79, cp_M_next), (80, cp_M_fail)] [] finI 300 (ab_row tab_M_opens 0) [(vR 30 0)] [] σ = M_opens  σ := rfl
def tab_M_name : List (Nat × List AOp) := [(0, [(3, 0, 0, vU, []), (0, 0, 0, vI 99, []), (0, 0, 0, vI 117, []), (0, 0, 0, vI 116, []), (0, 0, 0, vI 0, []), (0, 0, 0, vI 0, []), (0, 0, 0, vI 0, []), (0, 0, 0, vI 0, []), (0, 0, 0, vI 0, []), (44, 82, 9, vU, []), (41, 0, 23, vU, []), (40, 18, 1, vU, [])]),
  (18, [(3, 0, 0, vU, []), (18, 30, 11, vU, []), (45, 1, 0, vU, [])]),
  (23, [(3, 0, 0, vU, []), (0, 0, 0, vI 109, []), (0, 0, 0, vI 111, []), (0, 0, 0, vI 111, []), (0, 0, 0, vI 100, []), (0, 0, 0, vI 0, []), (0, 0, 0, vI 0, []), (0, 0, 0, vI 0, []), (0, 0, 0, vI 0, []), (44, 82, 9, vU, []), (41, 0, 47, vU, []), (40, 42, 1, vU, [])]),
  (42, [(3, 0, 0, vU, []), (18, 30, 12, vU, []), (45, 1, 0, vU, [])]),
  (47, [(3, 0, 0, vU, []), (0, 0, 0, vI 110, []), (0, 0, 0, vI 117, []), (0, 0, 0, vI 109, []), (0, 0, 0, vI 98, []), (0, 0, 0, vI 101, []), (0, 0, 0, vI 114, []), (0, 0, 0, vI 0, []), (0, 0, 0, vI 0, []), (44, 82, 9, vU, []), (41, 0, 73, vU, []), (40, 68, 1, vU, [])]),
  (68, [(3, 0, 0, vU, []), (18, 30, 13, vU, []), (45, 1, 0, vU, [])]),
  (73, [(3, 0, 0, vU, []), (0, 0, 0, vI 104, []), (0, 0, 0, vI 111, []), (0, 0, 0, vI 117, []), (0, 0, 0, vI 114, []), (0, 0, 0, vI 0, []), (0, 0, 0, vI 0, []), (0, 0, 0, vI 0, []), (0, 0, 0, vI 0, []), (44, 82, 9, vU, []), (41, 0, 97, vU, []), (40, 92, 1, vU, [])]),
  (92, [(3, 0, 0, vU, []), (18, 30, 14, vU, []), (45, 1, 0, vU, [])]),
  (97, [(3, 0, 0, vU, []), (0, 0, 0, vI 119, []), (0, 0, 0, vI 111, []), (0, 0, 0, vI 114, []), (0, 0, 0, vI 110, []), (0, 0, 0, vI 0, []), (0, 0, 0, vI 0, []), (0, 0, 0, vI 0, []), (0, 0, 0, vI 0, []), (44, 82, 9, vU, []), (41, 0, 121, vU, []), (40, 116, 1, vU, [])]),
  (116, [(3, 0, 0, vU, []), (18, 30, 15, vU, []), (45, 1, 0, vU, [])]),
  (121, [(3, 0, 0, vU, []), (0, 0, 0, vI 111, []), (0, 0, 0, vI 102, []), (0, 0, 0, vI 102, []), (0, 0, 0, vI 0, []), (0, 0, 0, vI 0, []), (0, 0, 0, vI 0, []), (0, 0, 0, vI 0, []), (0, 0, 0, vI 0, []), (44, 82, 9, vU, []), (41, 0, 144, vU, []), (40, 139, 1, vU, [])]),
  (139, [(3, 0, 0, vU, []), (18, 30, 16, vU, []), (45, 1, 0, vU, [])]),
  (144, [(3, 0, 0, vU, []), (44, 80, 1, vU, []), (0, 0, 0, vI 0, []), (45, 1, 0, vU, [])])]
theorem e_M_name (σ : Sg) : ab_ev tab_M_name [(80, cp_M_fail), (82, cp_M_isWord)] [] finI 300 (ab_row tab_M_name 0) [(vR 30 0)] [] σ = M_name  σ := rfl
def kc_M_atom5_64 {R : Type} (c : Int32 → Sg → Option R) : ACut R := fun L st σ => match L, st with
  | [.inr (.inr (.inl (g1, i1))), .inl v1], [] => match Nat.beq g1 30 && Nat.beq i1 0 with
    | true => c v1 σ
    | false => none
  | _, _ => none
def tab_M_atom5 : List (Nat × List AOp) := [(0, [(0, 0, 0, vI 0, []), (4, 1, 0, vU, []), (3, 0, 0, vU, []), (0, 0, 0, vI 45, []), (44, 83, 2, vU, []), (41, 0, 19, vU, []), (40, 11, 1, vU, [])]),
  (11, [(3, 0, 0, vU, []), (44, 84, 1, vU, []), (17, 0, 0, vU, []), (40, 102, 0, vU, [])]),
  (19, [(3, 0, 0, vU, []), (0, 0, 0, vI 40, []), (44, 83, 2, vU, []), (41, 0, 36, vU, []), (40, 28, 1, vU, [])]),
  (28, [(3, 0, 0, vU, []), (44, 84, 1, vU, []), (17, 0, 0, vU, []), (40, 102, 0, vU, [])]),
  (36, [(3, 0, 0, vU, []), (18, 30, 24, vU, []), (41, 1, 64, vU, []), (40, 43, 1, vU, [])]),
  (43, [(3, 0, 0, vU, []), (18, 30, 20, vU, []), (0, 0, 0, vI 2, []), (42, 1, 64, vU, []), (40, 51, 1, vU, [])]),
  (51, [(3, 0, 0, vU, []), (19, 30, 22, vU, []), (12, 0, 0, vU, []), (4, 1, 0, vU, []), (3, 0, 0, vU, []), (44, 79, 1, vU, []), (40, 102, 0, vU, [])]),
  (64, [(3, 0, 0, vU, []), (18, 30, 24, vU, []), (41, 1, 98, vU, []), (40, 71, 1, vU, [])]),
  (71, [(3, 0, 0, vU, []), (18, 30, 20, vU, []), (0, 0, 0, vI 1, []), (42, 1, 98, vU, []), (40, 79, 1, vU, [])]),
  (79, [(3, 0, 0, vU, []), (44, 85, 1, vU, []), (4, 1, 0, vU, []), (3, 0, 0, vU, []), (18, 30, 24, vU, []), (41, 1, 102, vU, []), (40, 91, 1, vU, [])]),
  (91, [(3, 0, 0, vU, []), (44, 79, 1, vU, []), (40, 102, 0, vU, [])]),
  (98, [(3, 0, 0, vU, []), (44, 80, 1, vU, []), (40, 102, 1, vU, [])]),
  (102, [(1, 1, 0, vU, []), (45, 1, 0, vU, [])])]
theorem e_M_atom5_J64 (v1 : Int32) (σ : Sg) : ab_ev tab_M_atom5 [(79, cp_M_next), (80, cp_M_fail), (83, cp_M_isSign), (84, cp_M_opens), (85, cp_M_name)] [] finI 300 (ab_row tab_M_atom5 64) [(vR 30 0), (.inl v1)] [] σ = M_atom5_J64 v1 σ := rfl
theorem e_M_atom5 (σ : Sg) : ab_ev tab_M_atom5 [(79, cp_M_next), (80, cp_M_fail), (83, cp_M_isSign), (84, cp_M_opens), (85, cp_M_name)] [(64, kc_M_atom5_64 (M_atom5_J64))] finI 300 (ab_row tab_M_atom5 0) [(vR 30 0), vU] [] σ = M_atom5  σ := rfl
def kc_M_term5_5 {R : Type} (c : Int32 → Sg → Option R) : ACut R := fun L st σ => match L, st with
  | [.inr (.inr (.inl (g1, i1))), .inl v1], [] => match Nat.beq g1 30 && Nat.beq i1 0 with
    | true => c v1 σ
    | false => none
  | _, _ => none
def tab_M_term5 : List (Nat × List AOp) := [(0, [(3, 0, 0, vU, []), (44, 86, 1, vU, []), (4, 1, 0, vU, []), (40, 5, 1, vU, [])]),
  (5, [(3, 0, 0, vU, []), (0, 0, 0, vI 42, []), (44, 83, 2, vU, []), (41, 0, 28, vU, []), (40, 14, 1, vU, [])]),
  (14, [(3, 0, 0, vU, []), (44, 79, 1, vU, []), (1, 1, 0, vU, []), (3, 0, 0, vU, []), (44, 86, 1, vU, []), (8, 2, 0, vU, []), (4, 1, 0, vU, []), (40, 5, 0, vU, [])]),
  (28, [(1, 1, 0, vU, []), (45, 1, 0, vU, [])])]
theorem e_M_term5_L5 (n : Nat) (v1 : Int32) (σ : Sg) : ab_ev tab_M_term5 [(79, cp_M_next), (83, cp_M_isSign), (86, cp_M_atom5)] [(5, kc_M_term5_5 (M_term5_L5 n))] finI 300 (ab_row tab_M_term5 5) [(vR 30 0), (.inl v1)] [] σ = M_term5_L5 (n + 1) v1 σ := rfl
theorem e_M_term5 (σ : Sg) : ab_ev tab_M_term5 [(79, cp_M_next), (83, cp_M_isSign), (86, cp_M_atom5)] [(5, kc_M_term5_5 (M_term5_L5 FU))] finI 300 (ab_row tab_M_term5 0) [(vR 30 0), vU] [] σ = M_term5  σ := rfl
def kc_M_added5_39 {R : Type} (c : Int32 → Int32 → Sg → Option R) : ACut R := fun L st σ => match L, st with
  | [.inr (.inr (.inl (g1, i1))), .inl v1, _, _], [.inl w0] => match Nat.beq g1 30 && Nat.beq i1 0 with
    | true => c v1 w0 σ
    | false => none
  | _, _ => none
def kc_M_added5_23 {R : Type} (c : Int32 → Sg → Option R) : ACut R := fun L st σ => match L, st with
  | [.inr (.inr (.inl (g1, i1))), .inl v1, _, _], [] => match Nat.beq g1 30 && Nat.beq i1 0 with
    | true => c v1 σ
    | false => none
  | _, _ => none
def kc_M_added5_5 {R : Type} (c : Int32 → Sg → Option R) : ACut R := fun L st σ => match L, st with
  | [.inr (.inr (.inl (g1, i1))), .inl v1, _, _], [] => match Nat.beq g1 30 && Nat.beq i1 0 with
    | true => c v1 σ
    | false => none
  | _, _ => none
def tab_M_added5 : List (Nat × List AOp) := [(0, [(3, 0, 0, vU, []), (44, 87, 1, vU, []), (4, 1, 0, vU, []), (40, 5, 1, vU, [])]),
  (5, [(3, 0, 0, vU, []), (0, 0, 0, vI 43, []), (44, 83, 2, vU, []), (41, 1, 23, vU, []), (40, 14, 1, vU, [])]),
  (14, [(3, 0, 0, vU, []), (0, 0, 0, vI 45, []), (44, 83, 2, vU, []), (41, 0, 66, vU, []), (40, 23, 1, vU, [])]),
  (23, [(3, 0, 0, vU, []), (19, 30, 22, vU, []), (0, 0, 0, vL 43, []), (15, 0, 0, vU, []), (41, 1, 38, vU, []), (40, 34, 1, vU, [])]),
  (34, [(0, 0, 0, vI 1, []), (40, 39, 0, vU, [])]),
  (38, [(0, 0, 0, vI 0, []), (40, 39, 1, vU, [])]),
  (39, [(4, 2, 0, vU, []), (3, 0, 0, vU, []), (44, 79, 1, vU, []), (3, 0, 0, vU, []), (44, 87, 1, vU, []), (4, 3, 0, vU, []), (1, 2, 0, vU, []), (41, 0, 59, vU, []), (40, 53, 1, vU, [])]),
  (53, [(1, 1, 0, vU, []), (1, 3, 0, vU, []), (8, 0, 0, vU, []), (40, 62, 0, vU, [])]),
  (59, [(1, 1, 0, vU, []), (1, 3, 0, vU, []), (8, 1, 0, vU, []), (40, 62, 1, vU, [])]),
  (62, [(4, 1, 0, vU, []), (40, 5, 0, vU, [])]),
  (66, [(1, 1, 0, vU, []), (45, 1, 0, vU, [])])]
theorem e_M_added5_J39 (k5 : Int32 → Sg → Option (Int32 × Sg)) (u2 u3 : AV) (v1 : Int32) (w0 : Int32) (σ : Sg) : ab_ev tab_M_added5 [(79, cp_M_next), (83, cp_M_isSign), (87, cp_M_term5)] [(5, kc_M_added5_5 k5)] finI 300 (ab_row tab_M_added5 39) [(vR 30 0), (.inl v1), u2, u3] [(.inl w0)] σ = M_added5_J39 k5 v1 w0 σ := rfl
theorem e_M_added5_J23 (k5 : Int32 → Sg → Option (Int32 × Sg)) (u2 u3 : AV) (v1 : Int32) (σ : Sg) : ab_ev tab_M_added5 [(79, cp_M_next), (83, cp_M_isSign), (87, cp_M_term5)] [(39, kc_M_added5_39 (M_added5_J39 k5))] finI 300 (ab_row tab_M_added5 23) [(vR 30 0), (.inl v1), u2, u3] [] σ = M_added5_J23 k5 v1 σ := rfl
theorem e_M_added5_L5 (n : Nat) (u2 u3 : AV) (v1 : Int32) (σ : Sg) : ab_ev tab_M_added5 [(79, cp_M_next), (83, cp_M_isSign), (87, cp_M_term5)] [(23, kc_M_added5_23 (M_added5_J23 (fun y0 τ => M_added5_L5 n y0 τ)))] finI 300 (ab_row tab_M_added5 5) [(vR 30 0), (.inl v1), u2, u3] [] σ = M_added5_L5 (n + 1) v1 σ := rfl
theorem e_M_added5 (σ : Sg) : ab_ev tab_M_added5 [(79, cp_M_next), (83, cp_M_isSign), (87, cp_M_term5)] [(5, kc_M_added5_5 (M_added5_L5 FU))] finI 300 (ab_row tab_M_added5 0) [(vR 30 0), vU, vU, vU] [] σ = M_added5  σ := rfl
def kc_M_not5_66 {R : Type} (c : Int32 → Int32 → Sg → Option R) : ACut R := fun L st σ => match L, st with
  | [.inr (.inr (.inl (g1, i1))), .inl v1, _, _], [.inl w0] => match Nat.beq g1 30 && Nat.beq i1 0 with
    | true => c v1 w0 σ
    | false => none
  | _, _ => none
def kc_M_not5_50 {R : Type} (c : Int32 → Sg → Option R) : ACut R := fun L st σ => match L, st with
  | [.inr (.inr (.inl (g1, i1))), .inl v1, _, _], [] => match Nat.beq g1 30 && Nat.beq i1 0 with
    | true => c v1 σ
    | false => none
  | _, _ => none
def tab_M_not5 : List (Nat × List AOp) := [(0, [(3, 0, 0, vU, []), (0, 0, 0, vI 110, []), (0, 0, 0, vI 111, []), (0, 0, 0, vI 116, []), (0, 0, 0, vI 0, []), (0, 0, 0, vI 0, []), (0, 0, 0, vI 0, []), (0, 0, 0, vI 0, []), (0, 0, 0, vI 0, []), (44, 82, 9, vU, []), (41, 0, 25, vU, []), (40, 18, 1, vU, [])]),
  (18, [(3, 0, 0, vU, []), (44, 84, 1, vU, []), (17, 0, 0, vU, []), (0, 0, 0, vI 0, []), (45, 1, 0, vU, [])]),
  (25, [(3, 0, 0, vU, []), (44, 88, 1, vU, []), (4, 1, 0, vU, []), (3, 0, 0, vU, []), (0, 0, 0, vI 60, []), (44, 83, 2, vU, []), (41, 1, 50, vU, []), (40, 39, 1, vU, [])]),
  (39, [(3, 0, 0, vU, []), (0, 0, 0, vI 61, []), (44, 83, 2, vU, []), (41, 1, 50, vU, []), (40, 48, 1, vU, [])]),
  (48, [(1, 1, 0, vU, []), (45, 1, 0, vU, [])]),
  (50, [(3, 0, 0, vU, []), (19, 30, 22, vU, []), (0, 0, 0, vL 60, []), (15, 0, 0, vU, []), (41, 1, 65, vU, []), (40, 61, 1, vU, [])]),
  (61, [(0, 0, 0, vI 1, []), (40, 66, 0, vU, [])]),
  (65, [(0, 0, 0, vI 0, []), (40, 66, 1, vU, [])]),
  (66, [(4, 2, 0, vU, []), (3, 0, 0, vU, []), (44, 79, 1, vU, []), (3, 0, 0, vU, []), (44, 88, 1, vU, []), (4, 3, 0, vU, []), (1, 2, 0, vU, []), (41, 0, 88, vU, []), (40, 80, 1, vU, [])]),
  (80, [(1, 1, 0, vU, []), (1, 3, 0, vU, []), (42, 3, 97, vU, []), (40, 85, 1, vU, [])]),
  (85, [(40, 93, 0, vU, [])]),
  (88, [(1, 1, 0, vU, []), (1, 3, 0, vU, []), (42, 1, 97, vU, []), (40, 93, 1, vU, [])]),
  (93, [(0, 0, 0, vI 1, []), (40, 98, 0, vU, [])]),
  (97, [(0, 0, 0, vI 0, []), (40, 98, 1, vU, [])]),
  (98, [(45, 1, 0, vU, [])])]
theorem e_M_not5_J66 (u2 u3 : AV) (v1 : Int32) (w0 : Int32) (σ : Sg) : ab_ev tab_M_not5 [(79, cp_M_next), (82, cp_M_isWord), (83, cp_M_isSign), (84, cp_M_opens), (88, cp_M_added5)] [] finI 300 (ab_row tab_M_not5 66) [(vR 30 0), (.inl v1), u2, u3] [(.inl w0)] σ = M_not5_J66 v1 w0 σ := rfl
theorem e_M_not5_J50 (u2 u3 : AV) (v1 : Int32) (σ : Sg) : ab_ev tab_M_not5 [(79, cp_M_next), (82, cp_M_isWord), (83, cp_M_isSign), (84, cp_M_opens), (88, cp_M_added5)] [(66, kc_M_not5_66 (M_not5_J66))] finI 300 (ab_row tab_M_not5 50) [(vR 30 0), (.inl v1), u2, u3] [] σ = M_not5_J50 v1 σ := rfl
theorem e_M_not5 (σ : Sg) : ab_ev tab_M_not5 [(79, cp_M_next), (82, cp_M_isWord), (83, cp_M_isSign), (84, cp_M_opens), (88, cp_M_added5)] [(50, kc_M_not5_50 (M_not5_J50))] finI 300 (ab_row tab_M_not5 0) [(vR 30 0), vU, vU, vU] [] σ = M_not5  σ := rfl
def kc_M_both5_5 {R : Type} (c : Int32 → Sg → Option R) : ACut R := fun L st σ => match L, st with
  | [.inr (.inr (.inl (g1, i1))), .inl v1, _], [] => match Nat.beq g1 30 && Nat.beq i1 0 with
    | true => c v1 σ
    | false => none
  | _, _ => none
def tab_M_both5 : List (Nat × List AOp) := [(0, [(3, 0, 0, vU, []), (44, 89, 1, vU, []), (4, 1, 0, vU, []), (40, 5, 1, vU, [])]),
  (5, [(3, 0, 0, vU, []), (0, 0, 0, vI 97, []), (0, 0, 0, vI 110, []), (0, 0, 0, vI 100, []), (0, 0, 0, vI 0, []), (0, 0, 0, vI 0, []), (0, 0, 0, vI 0, []), (0, 0, 0, vI 0, []), (0, 0, 0, vI 0, []), (44, 82, 9, vU, []), (41, 0, 49, vU, []), (40, 23, 1, vU, [])]),
  (23, [(3, 0, 0, vU, []), (44, 79, 1, vU, []), (3, 0, 0, vU, []), (44, 89, 1, vU, []), (4, 2, 0, vU, []), (1, 1, 0, vU, []), (41, 0, 44, vU, []), (40, 36, 1, vU, [])]),
  (36, [(1, 2, 0, vU, []), (41, 0, 44, vU, []), (40, 40, 1, vU, [])]),
  (40, [(0, 0, 0, vI 1, []), (40, 45, 0, vU, [])]),
  (44, [(0, 0, 0, vI 0, []), (40, 45, 1, vU, [])]),
  (45, [(4, 1, 0, vU, []), (40, 5, 0, vU, [])]),
  (49, [(1, 1, 0, vU, []), (45, 1, 0, vU, [])])]
theorem e_M_both5_L5 (n : Nat) (u2 : AV) (v1 : Int32) (σ : Sg) : ab_ev tab_M_both5 [(79, cp_M_next), (82, cp_M_isWord), (89, cp_M_not5)] [(5, kc_M_both5_5 (M_both5_L5 n))] finI 300 (ab_row tab_M_both5 5) [(vR 30 0), (.inl v1), u2] [] σ = M_both5_L5 (n + 1) v1 σ := rfl
theorem e_M_both5 (σ : Sg) : ab_ev tab_M_both5 [(79, cp_M_next), (82, cp_M_isWord), (89, cp_M_not5)] [(5, kc_M_both5_5 (M_both5_L5 FU))] finI 300 (ab_row tab_M_both5 0) [(vR 30 0), vU, vU] [] σ = M_both5  σ := rfl
def kc_M_either5_5 {R : Type} (c : Int32 → Sg → Option R) : ACut R := fun L st σ => match L, st with
  | [.inr (.inr (.inl (g1, i1))), .inl v1, _], [] => match Nat.beq g1 30 && Nat.beq i1 0 with
    | true => c v1 σ
    | false => none
  | _, _ => none
def tab_M_either5 : List (Nat × List AOp) := [(0, [(3, 0, 0, vU, []), (44, 90, 1, vU, []), (4, 1, 0, vU, []), (40, 5, 1, vU, [])]),
  (5, [(3, 0, 0, vU, []), (0, 0, 0, vI 111, []), (0, 0, 0, vI 114, []), (0, 0, 0, vI 0, []), (0, 0, 0, vI 0, []), (0, 0, 0, vI 0, []), (0, 0, 0, vI 0, []), (0, 0, 0, vI 0, []), (0, 0, 0, vI 0, []), (44, 82, 9, vU, []), (41, 0, 48, vU, []), (40, 22, 1, vU, [])]),
  (22, [(3, 0, 0, vU, []), (44, 79, 1, vU, []), (3, 0, 0, vU, []), (44, 90, 1, vU, []), (4, 2, 0, vU, []), (1, 1, 0, vU, []), (41, 1, 39, vU, []), (40, 35, 1, vU, [])]),
  (35, [(1, 2, 0, vU, []), (41, 0, 43, vU, []), (40, 39, 1, vU, [])]),
  (39, [(0, 0, 0, vI 1, []), (40, 44, 0, vU, [])]),
  (43, [(0, 0, 0, vI 0, []), (40, 44, 1, vU, [])]),
  (44, [(4, 1, 0, vU, []), (40, 5, 0, vU, [])]),
  (48, [(1, 1, 0, vU, []), (45, 1, 0, vU, [])])]
theorem e_M_either5_L5 (n : Nat) (u2 : AV) (v1 : Int32) (σ : Sg) : ab_ev tab_M_either5 [(79, cp_M_next), (82, cp_M_isWord), (90, cp_M_both5)] [(5, kc_M_either5_5 (M_either5_L5 n))] finI 300 (ab_row tab_M_either5 5) [(vR 30 0), (.inl v1), u2] [] σ = M_either5_L5 (n + 1) v1 σ := rfl
theorem e_M_either5 (σ : Sg) : ab_ev tab_M_either5 [(79, cp_M_next), (82, cp_M_isWord), (90, cp_M_both5)] [(5, kc_M_either5_5 (M_either5_L5 FU))] finI 300 (ab_row tab_M_either5 0) [(vR 30 0), vU, vU] [] σ = M_either5  σ := rfl
def kc_M_atom4_123 {R : Type} (c : Int32 → Sg → Option R) : ACut R := fun L st σ => match L, st with
  | [.inr (.inr (.inl (g1, i1))), .inl v1], [] => match Nat.beq g1 30 && Nat.beq i1 0 with
    | true => c v1 σ
    | false => none
  | _, _ => none
def kc_M_atom4_71 {R : Type} (c : Int32 → Sg → Option R) : ACut R := fun L st σ => match L, st with
  | [.inr (.inr (.inl (g1, i1))), .inl v1], [] => match Nat.beq g1 30 && Nat.beq i1 0 with
    | true => c v1 σ
    | false => none
  | _, _ => none
def tab_M_atom4 : List (Nat × List AOp) := [(0, [(0, 0, 0, vI 0, []), (4, 1, 0, vU, []), (3, 0, 0, vU, []), (0, 0, 0, vI 45, []), (44, 83, 2, vU, []), (41, 0, 37, vU, []), (40, 11, 1, vU, [])]),
  (11, [(3, 0, 0, vU, []), (44, 84, 1, vU, []), (41, 0, 161, vU, []), (40, 18, 1, vU, [])]),
  (18, [(3, 0, 0, vU, []), (44, 86, 1, vU, []), (10, 0, 0, vU, []), (4, 1, 0, vU, []), (3, 0, 0, vU, []), (16, 0, 0, vU, []), (18, 30, 23, vU, []), (0, 0, 0, vI 1, []), (8, 1, 0, vU, []), (21, 30, 23, vU, []), (40, 161, 0, vU, [])]),
  (37, [(3, 0, 0, vU, []), (0, 0, 0, vI 40, []), (44, 83, 2, vU, []), (41, 0, 95, vU, []), (40, 46, 1, vU, [])]),
  (46, [(3, 0, 0, vU, []), (44, 84, 1, vU, []), (41, 0, 161, vU, []), (40, 53, 1, vU, [])]),
  (53, [(3, 0, 0, vU, []), (44, 91, 1, vU, []), (4, 1, 0, vU, []), (3, 0, 0, vU, []), (0, 0, 0, vI 41, []), (44, 83, 2, vU, []), (41, 1, 71, vU, []), (40, 67, 1, vU, [])]),
  (67, [(3, 0, 0, vU, []), (44, 80, 1, vU, []), (40, 71, 1, vU, [])]),
  (71, [(3, 0, 0, vU, []), (16, 0, 0, vU, []), (18, 30, 23, vU, []), (0, 0, 0, vI 1, []), (8, 1, 0, vU, []), (21, 30, 23, vU, []), (3, 0, 0, vU, []), (18, 30, 24, vU, []), (41, 1, 161, vU, []), (40, 88, 1, vU, [])]),
  (88, [(3, 0, 0, vU, []), (44, 79, 1, vU, []), (40, 161, 0, vU, [])]),
  (95, [(3, 0, 0, vU, []), (18, 30, 24, vU, []), (41, 1, 123, vU, []), (40, 102, 1, vU, [])]),
  (102, [(3, 0, 0, vU, []), (18, 30, 20, vU, []), (0, 0, 0, vI 2, []), (42, 1, 123, vU, []), (40, 110, 1, vU, [])]),
  (110, [(3, 0, 0, vU, []), (19, 30, 22, vU, []), (12, 0, 0, vU, []), (4, 1, 0, vU, []), (3, 0, 0, vU, []), (44, 79, 1, vU, []), (40, 161, 0, vU, [])]),
  (123, [(3, 0, 0, vU, []), (18, 30, 24, vU, []), (41, 1, 157, vU, []), (40, 130, 1, vU, [])]),
  (130, [(3, 0, 0, vU, []), (18, 30, 20, vU, []), (0, 0, 0, vI 1, []), (42, 1, 157, vU, []), (40, 138, 1, vU, [])]),
  (138, [(3, 0, 0, vU, []), (44, 85, 1, vU, []), (4, 1, 0, vU, []), (3, 0, 0, vU, []), (18, 30, 24, vU, []), (41, 1, 161, vU, []), (40, 150, 1, vU, [])]),
  (150, [(3, 0, 0, vU, []), (44, 79, 1, vU, []), (40, 161, 0, vU, [])]),
  (157, [(3, 0, 0, vU, []), (44, 80, 1, vU, []), (40, 161, 1, vU, [])]),
  (161, [(1, 1, 0, vU, []), (45, 1, 0, vU, [])])]
theorem e_M_atom4_J123 (v1 : Int32) (σ : Sg) : ab_ev tab_M_atom4 [(79, cp_M_next), (80, cp_M_fail), (83, cp_M_isSign), (84, cp_M_opens), (85, cp_M_name), (86, cp_M_atom5), (91, cp_M_either5)] [] finI 300 (ab_row tab_M_atom4 123) [(vR 30 0), (.inl v1)] [] σ = M_atom4_J123 v1 σ := rfl
theorem e_M_atom4_J71 (v1 : Int32) (σ : Sg) : ab_ev tab_M_atom4 [(79, cp_M_next), (80, cp_M_fail), (83, cp_M_isSign), (84, cp_M_opens), (85, cp_M_name), (86, cp_M_atom5), (91, cp_M_either5)] [] finI 300 (ab_row tab_M_atom4 71) [(vR 30 0), (.inl v1)] [] σ = M_atom4_J71 v1 σ := rfl
theorem e_M_atom4 (σ : Sg) : ab_ev tab_M_atom4 [(79, cp_M_next), (80, cp_M_fail), (83, cp_M_isSign), (84, cp_M_opens), (85, cp_M_name), (86, cp_M_atom5), (91, cp_M_either5)] [(71, kc_M_atom4_71 (M_atom4_J71)), (123, kc_M_atom4_123 (M_atom4_J123))] finI 300 (ab_row tab_M_atom4 0) [(vR 30 0), vU] [] σ = M_atom4  σ := rfl
def kc_M_term4_5 {R : Type} (c : Int32 → Sg → Option R) : ACut R := fun L st σ => match L, st with
  | [.inr (.inr (.inl (g1, i1))), .inl v1], [] => match Nat.beq g1 30 && Nat.beq i1 0 with
    | true => c v1 σ
    | false => none
  | _, _ => none
def tab_M_term4 : List (Nat × List AOp) := [(0, [(3, 0, 0, vU, []), (44, 92, 1, vU, []), (4, 1, 0, vU, []), (40, 5, 1, vU, [])]),
  (5, [(3, 0, 0, vU, []), (0, 0, 0, vI 42, []), (44, 83, 2, vU, []), (41, 0, 28, vU, []), (40, 14, 1, vU, [])]),
  (14, [(3, 0, 0, vU, []), (44, 79, 1, vU, []), (1, 1, 0, vU, []), (3, 0, 0, vU, []), (44, 92, 1, vU, []), (8, 2, 0, vU, []), (4, 1, 0, vU, []), (40, 5, 0, vU, [])]),
  (28, [(1, 1, 0, vU, []), (45, 1, 0, vU, [])])]
theorem e_M_term4_L5 (n : Nat) (v1 : Int32) (σ : Sg) : ab_ev tab_M_term4 [(79, cp_M_next), (83, cp_M_isSign), (92, cp_M_atom4)] [(5, kc_M_term4_5 (M_term4_L5 n))] finI 300 (ab_row tab_M_term4 5) [(vR 30 0), (.inl v1)] [] σ = M_term4_L5 (n + 1) v1 σ := rfl
theorem e_M_term4 (σ : Sg) : ab_ev tab_M_term4 [(79, cp_M_next), (83, cp_M_isSign), (92, cp_M_atom4)] [(5, kc_M_term4_5 (M_term4_L5 FU))] finI 300 (ab_row tab_M_term4 0) [(vR 30 0), vU] [] σ = M_term4  σ := rfl
