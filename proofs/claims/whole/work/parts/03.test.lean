def tab_Tape_isDigit : List (Nat × List AOp) := [(0, [(1, 0, 0, vU, []), (0, 0, 0, vI 48, []), (42, 2, 16, vU, []), (40, 6, 1, vU, [])]),
  (6, [(1, 0, 0, vU, []), (0, 0, 0, vI 57, []), (42, 4, 16, vU, []), (40, 12, 1, vU, [])]),
  (12, [(0, 0, 0, vI 1, []), (40, 17, 0, vU, [])]),
  (16, [(0, 0, 0, vI 0, []), (40, 17, 1, vU, [])]),
  (17, [(45, 3, 0, vU, [])])]
theorem e_Tape_isDigit (p0 : Int32) (σ : Sg) : ab_ev tab_Tape_isDigit [] [] finI 300 (ab_row tab_Tape_isDigit 0) [(.inl p0)] [] σ = Tape_isDigit p0 σ := rfl
def kc_Tape_scanNumber_4 {R : Type} (c : Int32 → Int32 → Int32 → Sg → Option R) : ACut R := fun L st σ => match L, st with
  | [.inr (.inr (.inl (g1, i1))), .inl v1, .inl v2, .inl v3], [] => match Nat.beq g1 6 && Nat.beq i1 0 with
    | true => c v1 v2 v3 σ
    | false => none
  | _, _ => none
def tab_Tape_scanNumber : List (Nat × List AOp) := [(0, [(0, 0, 0, vI 0, []), (4, 2, 0, vU, []), (0, 0, 0, vI 0, []), (4, 3, 0, vU, []), (40, 4, 1, vU, [])]),
  (4, [(1, 3, 0, vU, []), (0, 0, 0, vI 160, []), (42, 3, 76, vU, []), (40, 11, 1, vU, [])]),
  (11, [(3, 0, 0, vU, []), (3, 0, 0, vU, []), (18, 6, 5, vU, []), (44, 212, 2, vU, []), (44, 215, 1, vU, []), (41, 0, 76, vU, []), (40, 25, 1, vU, [])]),
  (25, [(1, 2, 0, vU, []), (0, 0, 0, vI 4, []), (42, 3, 57, vU, []), (40, 30, 1, vU, [])]),
  (30, [(3, 0, 0, vU, []), (20, 6, 3, vR 10 0, []), (1, 1, 0, vU, []), (0, 0, 0, vI 10, []), (3, 0, 0, vU, []), (20, 6, 3, vR 10 0, []), (1, 1, 0, vU, []), (24, 10, 0, vU, []), (8, 2, 0, vU, []), (3, 0, 0, vU, []), (3, 0, 0, vU, []), (18, 6, 5, vU, []), (44, 212, 2, vU, []), (8, 0, 0, vU, []), (0, 0, 0, vI 48, []), (8, 1, 0, vU, []), (25, 10, 0, vU, []), (40, 57, 1, vU, [])]),
  (57, [(7, 2, 0, vI 1, []), (3, 0, 0, vU, []), (16, 0, 0, vU, []), (18, 6, 5, vU, []), (0, 0, 0, vI 1, []), (8, 0, 0, vU, []), (21, 6, 5, vU, []), (7, 3, 0, vI 1, []), (40, 4, 0, vU, [])]),
  (76, [(1, 2, 0, vU, []), (0, 0, 0, vI 4, []), (42, 4, 85, vU, []), (40, 81, 1, vU, [])]),
  (81, [(0, 0, 0, vI 2, []), (40, 86, 0, vU, [])]),
  (85, [(0, 0, 0, vI 1, []), (40, 86, 1, vU, [])]),
  (86, [(45, 1, 0, vU, [])])]
theorem e_Tape_scanNumber_L4 (n : Nat) (v1 : Int32) (v2 : Int32) (v3 : Int32) (σ : Sg) : ab_ev tab_Tape_scanNumber [(212, cp_Tape_byteAt), (215, cp_Tape_isDigit)] [(4, kc_Tape_scanNumber_4 (Tape_scanNumber_L4 n))] finI 300 (ab_row tab_Tape_scanNumber 4) [(vR 6 0), (.inl v1), (.inl v2), (.inl v3)] [] σ = Tape_scanNumber_L4 (n + 1) v1 v2 v3 σ := rfl
theorem e_Tape_scanNumber (p1 : Int32) (σ : Sg) : ab_ev tab_Tape_scanNumber [(212, cp_Tape_byteAt), (215, cp_Tape_isDigit)] [(4, kc_Tape_scanNumber_4 (Tape_scanNumber_L4 FU))] finI 300 (ab_row tab_Tape_scanNumber 0) [(vR 6 0), (.inl p1), vU, vU] [] σ = Tape_scanNumber p1 σ := rfl
def kc_Tape_isWord_17 {R : Type} (c : Int32 → Nat → Int32 → Sg → Option R) : ACut R := fun L st σ => match L, st with
  | [.inr (.inr (.inl (g1, i1))), .inl v1, .inr (.inr (.inl (g2, v2))), .inl v3], [] => match Nat.beq g1 6 && Nat.beq i1 0 && Nat.beq g2 60 with
    | true => c v1 v2 v3 σ
    | false => none
  | _, _ => none
def tab_Tape_isWord : List (Nat × List AOp) := [(0, [(3, 2, 0, vU, []), (44, 228, 1, vU, []), (3, 0, 0, vU, []), (18, 6, 5, vU, []), (1, 1, 0, vU, []), (8, 1, 0, vU, []), (42, 0, 15, vU, []), (40, 13, 1, vU, [])]),
  (13, [(0, 0, 0, vI 0, []), (45, 3, 0, vU, [])]),
  (15, [(0, 0, 0, vI 0, []), (4, 3, 0, vU, []), (40, 17, 1, vU, [])]),
  (17, [(1, 3, 0, vU, []), (3, 2, 0, vU, []), (44, 228, 1, vU, []), (42, 3, 48, vU, []), (40, 25, 1, vU, [])]),
  (25, [(3, 0, 0, vU, []), (1, 1, 0, vU, []), (1, 3, 0, vU, []), (8, 0, 0, vU, []), (44, 212, 2, vU, []), (3, 2, 0, vU, []), (1, 3, 0, vU, []), (44, 229, 2, vU, []), (42, 0, 42, vU, []), (40, 40, 1, vU, [])]),
  (40, [(0, 0, 0, vI 0, []), (45, 3, 0, vU, [])]),
  (42, [(7, 3, 0, vI 1, []), (40, 17, 0, vU, [])]),
  (48, [(0, 0, 0, vI 1, []), (45, 3, 0, vU, [])])]
theorem e_Tape_isWord_L17 (n : Nat) (v1 : Int32) (v2 : Nat) (v3 : Int32) (σ : Sg) : ab_ev tab_Tape_isWord [(212, cp_Tape_byteAt), (228, cp_Str_length), (229, cp_Str_charAt)] [(17, kc_Tape_isWord_17 (Tape_isWord_L17 n))] finI 300 (ab_row tab_Tape_isWord 17) [(vR 6 0), (.inl v1), (vR 60 v2), (.inl v3)] [] σ = Tape_isWord_L17 (n + 1) v1 v2 v3 σ := rfl
theorem e_Tape_isWord (p1 : Int32) (p2 : Nat) (σ : Sg) : ab_ev tab_Tape_isWord [(212, cp_Tape_byteAt), (228, cp_Str_length), (229, cp_Str_charAt)] [(17, kc_Tape_isWord_17 (Tape_isWord_L17 FU))] finI 300 (ab_row tab_Tape_isWord 0) [(vR 6 0), (.inl p1), (vR 60 p2), vU] [] σ = Tape_isWord p1 p2 σ := rfl
def tab_Tape_isLetter : List (Nat × List AOp) := [(0, [(1, 0, 0, vU, []), (0, 0, 0, vI 97, []), (42, 2, 16, vU, []), (40, 6, 1, vU, [])]),
  (6, [(1, 0, 0, vU, []), (0, 0, 0, vI 122, []), (42, 4, 16, vU, []), (40, 12, 1, vU, [])]),
  (12, [(0, 0, 0, vI 1, []), (40, 17, 0, vU, [])]),
  (16, [(0, 0, 0, vI 0, []), (40, 17, 1, vU, [])]),
  (17, [(45, 3, 0, vU, [])])]
theorem e_Tape_isLetter (p0 : Int32) (σ : Sg) : ab_ev tab_Tape_isLetter [] [] finI 300 (ab_row tab_Tape_isLetter 0) [(.inl p0)] [] σ = Tape_isLetter p0 σ := rfl
