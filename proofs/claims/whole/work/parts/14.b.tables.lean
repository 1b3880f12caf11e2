def kc_X_useless_4 {R : Type} (c : Int32 → Int32 → Sg → Option R) : ACut R := fun L st σ => match L, st with
  | [.inr (.inr (.inl (g1, i1))), .inl v1, .inl v2], [] => match Nat.beq g1 0 && Nat.beq i1 0 with
    | true => c v1 v2 σ
    | false => none
  | _, _ => none
def tab_X_useless : List (Nat × List AOp) := [(0, [(0, 0, 0, vI 0, []), (4, 1, 0, vU, []), (0, 0, 0, vI 0, []), (4, 2, 0, vU, []), (40, 4, 1, vU, [])]),
  (4, [(1, 2, 0, vU, []), (3, 0, 0, vU, []), (18, 0, 2, vU, []), (42, 3, 37, vU, []), (40, 12, 1, vU, [])]),
  (12, [(3, 0, 0, vU, []), (3, 0, 0, vU, []), (20, 0, 1, vR 24 0, []), (1, 2, 0, vU, []), (28, 24, 0, vU, []), (44, 45, 2, vU, []), (41, 1, 31, vU, []), (40, 25, 1, vU, [])]),
  (25, [(1, 1, 0, vU, []), (0, 0, 0, vI 1, []), (1, 2, 0, vU, []), (8, 5, 0, vU, []), (8, 4, 0, vU, []), (4, 1, 0, vU, []), (40, 31, 1, vU, [])]),
  (31, [(7, 2, 0, vI 1, []), (40, 4, 0, vU, [])]),
  (37, [(1, 1, 0, vU, []), (45, 1, 0, vU, [])])]
theorem e_X_useless_L4 (n : Nat) (v1 : Int32) (v2 : Int32) (σ : Sg) : ab_ev tab_X_useless [(45, cp_X_hoursOfEverybody)] [(4, kc_X_useless_4 (X_useless_L4 n))] finI 300 (ab_row tab_X_useless 4) [(vR 0 0), (.inl v1), (.inl v2)] [] σ = X_useless_L4 (n + 1) v1 v2 σ := rfl
theorem e_X_useless (σ : Sg) : ab_ev tab_X_useless [(45, cp_X_hoursOfEverybody)] [(4, kc_X_useless_4 (X_useless_L4 FU))] finI 300 (ab_row tab_X_useless 0) [(vR 0 0), vU, vU] [] σ = X_useless  σ := rfl
def kc_X_apart_5 {R : Type} (c : Int32 → Int32 → Int32 → Int32 → Sg → Option R) : ACut R := fun L st σ => match L, st with
  | [.inr (.inr (.inl (g1, i1))), .inl v1, .inl v2, .inl v3, .inl v4], [] => match Nat.beq g1 0 && Nat.beq i1 0 with
    | true => c v1 v2 v3 v4 σ
    | false => none
  | _, _ => none
def tab_X_apart : List (Nat × List AOp) := [(0, [(0, 0, 0, vI 0, []), (4, 3, 0, vU, []), (0, 0, 0, vI 0, []), (4, 4, 0, vU, []), (40, 5, 1, vU, [])]),
  (5, [(1, 4, 0, vU, []), (0, 0, 0, vI 24, []), (42, 3, 39, vU, []), (40, 12, 1, vU, [])]),
  (12, [(1, 3, 0, vU, []), (3, 0, 0, vU, []), (1, 1, 0, vU, []), (1, 4, 0, vU, []), (44, 38, 3, vU, []), (3, 0, 0, vU, []), (1, 2, 0, vU, []), (1, 4, 0, vU, []), (44, 38, 3, vU, []), (8, 1, 0, vU, []), (30, 0, 0, vU, []), (8, 0, 0, vU, []), (4, 3, 0, vU, []), (7, 4, 0, vI 1, []), (40, 5, 0, vU, [])]),
  (39, [(1, 3, 0, vU, []), (45, 1, 0, vU, [])])]
theorem e_X_apart_L5 (n : Nat) (v1 : Int32) (v2 : Int32) (v3 : Int32) (v4 : Int32) (σ : Sg) : ab_ev tab_X_apart [(38, cp_X_moodAt)] [(5, kc_X_apart_5 (X_apart_L5 n))] finI 300 (ab_row tab_X_apart 5) [(vR 0 0), (.inl v1), (.inl v2), (.inl v3), (.inl v4)] [] σ = X_apart_L5 (n + 1) v1 v2 v3 v4 σ := rfl
theorem e_X_apart (p1 : Int32) (p2 : Int32) (σ : Sg) : ab_ev tab_X_apart [(38, cp_X_moodAt)] [(5, kc_X_apart_5 (X_apart_L5 FU))] finI 300 (ab_row tab_X_apart 0) [(vR 0 0), (.inl p1), (.inl p2), vU, vU] [] σ = X_apart p1 p2 σ := rfl
def kc_X_alike_21 {R : Type} (c : Int32 → Int32 → Int32 → Int32 → Int32 → Sg → Option R) : ACut R := fun L st σ => match L, st with
  | [.inr (.inr (.inl (g1, i1))), .inl v1, .inl v2, .inl v3, .inl v4, .inl v5, _], [] => match Nat.beq g1 0 && Nat.beq i1 0 with
    | true => c v1 v2 v3 v4 v5 σ
    | false => none
  | _, _ => none
def kc_X_alike_9 {R : Type} (c : Int32 → Int32 → Int32 → Int32 → Sg → Option R) : ACut R := fun L st σ => match L, st with
  | [.inr (.inr (.inl (g1, i1))), .inl v1, .inl v2, .inl v3, .inl v4, _, _], [] => match Nat.beq g1 0 && Nat.beq i1 0 with
    | true => c v1 v2 v3 v4 σ
    | false => none
  | _, _ => none
def tab_X_alike : List (Nat × List AOp) := [(0, [(0, 0, 0, vI 0, []), (4, 2, 0, vU, []), (0, 0, 0, vI 7200, []), (4, 3, 0, vU, []), (0, 0, 0, vI 0, []), (4, 4, 0, vU, []), (40, 9, 1, vU, [])]),
  (9, [(1, 4, 0, vU, []), (0, 0, 0, vI 3, []), (42, 3, 67, vU, []), (40, 15, 1, vU, [])]),
  (15, [(1, 4, 0, vU, []), (0, 0, 0, vI 1, []), (8, 0, 0, vU, []), (4, 5, 0, vU, []), (40, 21, 1, vU, [])]),
  (21, [(1, 5, 0, vU, []), (0, 0, 0, vI 3, []), (42, 3, 61, vU, []), (40, 27, 1, vU, [])]),
  (27, [(3, 0, 0, vU, []), (1, 4, 0, vU, []), (1, 5, 0, vU, []), (44, 59, 3, vU, []), (4, 6, 0, vU, []), (1, 6, 0, vU, []), (1, 3, 0, vU, []), (42, 3, 55, vU, []), (40, 43, 1, vU, [])]),
  (43, [(1, 6, 0, vU, []), (4, 3, 0, vU, []), (0, 0, 0, vI 10, []), (1, 4, 0, vU, []), (8, 2, 0, vU, []), (1, 5, 0, vU, []), (8, 0, 0, vU, []), (4, 2, 0, vU, []), (40, 55, 1, vU, [])]),
  (55, [(7, 5, 0, vI 1, []), (40, 21, 0, vU, [])]),
  (61, [(7, 4, 0, vI 1, []), (40, 9, 0, vU, [])]),
  (67, [(1, 1, 0, vU, []), (41, 0, 75, vU, []), (40, 71, 1, vU, [])]),
  (71, [(1, 3, 0, vU, []), (40, 76, 0, vU, [])]),
  (75, [(1, 2, 0, vU, []), (40, 76, 1, vU, [])]),
  (76, [(45, 1, 0, vU, [])])]
theorem e_X_alike_L21 (k9 : Int32 → Int32 → Int32 → Int32 → Sg → Option (Int32 × Sg)) (n : Nat) (u6 : AV) (v1 : Int32) (v2 : Int32) (v3 : Int32) (v4 : Int32) (v5 : Int32) (σ : Sg) : ab_ev tab_X_alike [(59, cp_X_apart)] [(9, kc_X_alike_9 k9), (21, kc_X_alike_21 (X_alike_L21 k9 n))] finI 300 (ab_row tab_X_alike 21) [(vR 0 0), (.inl v1), (.inl v2), (.inl v3), (.inl v4), (.inl v5), u6] [] σ = X_alike_L21 k9 (n + 1) v1 v2 v3 v4 v5 σ := rfl
theorem e_X_alike_L9 (n : Nat) (u5 u6 : AV) (v1 : Int32) (v2 : Int32) (v3 : Int32) (v4 : Int32) (σ : Sg) : ab_ev tab_X_alike [(59, cp_X_apart)] [(21, kc_X_alike_21 (X_alike_L21 (fun y0 y1 y2 y3 τ => X_alike_L9 n y0 y1 y2 y3 τ) FU))] finI 300 (ab_row tab_X_alike 9) [(vR 0 0), (.inl v1), (.inl v2), (.inl v3), (.inl v4), u5, u6] [] σ = X_alike_L9 (n + 1) v1 v2 v3 v4 σ := rfl
theorem e_X_alike (p1 : Int32) (σ : Sg) : ab_ev tab_X_alike [(59, cp_X_apart)] [(9, kc_X_alike_9 (X_alike_L9 FU))] finI 300 (ab_row tab_X_alike 0) [(vR 0 0), (.inl p1), vU, vU, vU, vU, vU] [] σ = X_alike p1 σ := rfl
def tab_X_all : List (Nat × List AOp) := [(0, [(1, 1, 0, vU, []), (43, 45, 0, vU, [(0, 28), (1, 33), (2, 39)])]),
  (28, [(3, 0, 0, vU, []), (44, 57, 1, vU, []), (45, 1, 0, vU, [])]),
  (33, [(3, 0, 0, vU, []), (0, 0, 0, vI 0, []), (44, 58, 2, vU, []), (45, 1, 0, vU, [])]),
  (39, [(3, 0, 0, vU, []), (0, 0, 0, vI 1, []), (44, 58, 2, vU, []), (45, 1, 0, vU, [])]),
  (45, [(0, 0, 0, vI (-2), []), (45, 1, 0, vU, [])])]
theorem e_X_all (p1 : Int32) (σ : Sg) : ab_ev tab_X_all [(57, cp_X_useless), (58, cp_X_alike)] [] finI 300 (ab_row tab_X_all 0) [(vR 0 0), (.inl p1)] [] σ = X_all p1 σ := rfl
def kc_X_inLowestTerms_13 {R : Type} (c : Int32 → Int32 → Int32 → Int32 → Sg → Option R) : ACut R := fun L st σ => match L, st with
  | [.inl v0, .inl v1, _, .inl v3, .inl v4], [] => c v0 v1 v3 v4 σ
  | _, _ => none
def tab_X_inLowestTerms : List (Nat × List AOp) := [(0, [(1, 2, 0, vU, []), (41, 1, 8, vU, []), (40, 4, 1, vU, [])]),
  (4, [(1, 0, 0, vU, []), (40, 9, 0, vU, [])]),
  (8, [(1, 1, 0, vU, []), (40, 9, 1, vU, [])]),
  (9, [(4, 3, 0, vU, []), (1, 1, 0, vU, []), (4, 4, 0, vU, []), (40, 13, 1, vU, [])]),
  (13, [(1, 4, 0, vU, []), (0, 0, 0, vI 1, []), (42, 5, 45, vU, []), (40, 19, 1, vU, [])]),
  (19, [(1, 0, 0, vU, []), (1, 4, 0, vU, []), (9, 1, 0, vU, []), (41, 1, 39, vU, []), (40, 26, 1, vU, [])]),
  (26, [(1, 1, 0, vU, []), (1, 4, 0, vU, []), (9, 1, 0, vU, []), (41, 1, 39, vU, []), (40, 33, 1, vU, [])]),
  (33, [(1, 3, 0, vU, []), (1, 4, 0, vU, []), (9, 0, 0, vU, []), (11, 0, 0, vU, []), (45, 2, 0, vU, [])]),
  (39, [(7, 4, 0, vI (-1), []), (40, 13, 0, vU, [])]),
  (45, [(1, 3, 0, vU, []), (11, 0, 0, vU, []), (45, 2, 0, vU, [])])]
theorem e_X_inLowestTerms_L13 (n : Nat) (u2 : AV) (v0 : Int32) (v1 : Int32) (v3 : Int32) (v4 : Int32) (σ : Sg) : ab_ev tab_X_inLowestTerms [] [(13, kc_X_inLowestTerms_13 (X_inLowestTerms_L13 n))] finL 300 (ab_row tab_X_inLowestTerms 13) [(.inl v0), (.inl v1), u2, (.inl v3), (.inl v4)] [] σ = X_inLowestTerms_L13 (n + 1) v0 v1 v3 v4 σ := rfl
theorem e_X_inLowestTerms (p0 : Int32) (p1 : Int32) (p2 : Int32) (σ : Sg) : ab_ev tab_X_inLowestTerms [] [(13, kc_X_inLowestTerms_13 (X_inLowestTerms_L13 FU))] finL 300 (ab_row tab_X_inLowestTerms 0) [(.inl p0), (.inl p1), (.inl p2), vU, vU] [] σ = X_inLowestTerms p0 p1 p2 σ := rfl
def kc_X_mean_25 {R : Type} (c : Int32 → Int32 → Int32 → Int32 → Sg → Option R) : ACut R := fun L st σ => match L, st with
  | [.inr (.inr (.inl (g1, i1))), .inl v1, .inl v2, .inl v3, .inl v4], [] => match Nat.beq g1 0 && Nat.beq i1 0 with
    | true => c v1 v2 v3 v4 σ
    | false => none
  | _, _ => none
def tab_X_mean : List (Nat × List AOp) := [(0, [(1, 1, 0, vU, []), (44, 29, 1, vU, []), (41, 0, 16, vU, []), (40, 7, 1, vU, [])]),
  (7, [(1, 2, 0, vU, []), (41, 2, 16, vU, []), (40, 11, 1, vU, [])]),
  (11, [(1, 2, 0, vU, []), (0, 0, 0, vI 1, []), (42, 5, 20, vU, []), (40, 16, 1, vU, [])]),
  (16, [(0, 0, 0, vL (-4611686018427387904), []), (45, 2, 0, vU, [])]),
  (20, [(0, 0, 0, vI 0, []), (4, 3, 0, vU, []), (0, 0, 0, vI 0, []), (4, 4, 0, vU, []), (40, 25, 1, vU, [])]),
  (25, [(1, 4, 0, vU, []), (0, 0, 0, vI 24, []), (42, 3, 48, vU, []), (40, 32, 1, vU, [])]),
  (32, [(1, 3, 0, vU, []), (3, 0, 0, vU, []), (1, 1, 0, vU, []), (1, 4, 0, vU, []), (44, 38, 3, vU, []), (8, 0, 0, vU, []), (4, 3, 0, vU, []), (7, 4, 0, vI 1, []), (40, 25, 0, vU, [])]),
  (48, [(1, 3, 0, vU, []), (0, 0, 0, vI 24, []), (1, 2, 0, vU, []), (44, 37, 3, vU, []), (45, 2, 0, vU, [])])]
theorem e_X_mean_L25 (n : Nat) (v1 : Int32) (v2 : Int32) (v3 : Int32) (v4 : Int32) (σ : Sg) : ab_ev tab_X_mean [(29, cp_X_isOne), (37, cp_X_inLowestTerms), (38, cp_X_moodAt)] [(25, kc_X_mean_25 (X_mean_L25 n))] finL 300 (ab_row tab_X_mean 25) [(vR 0 0), (.inl v1), (.inl v2), (.inl v3), (.inl v4)] [] σ = X_mean_L25 (n + 1) v1 v2 v3 v4 σ := rfl
theorem e_X_mean (p1 : Int32) (p2 : Int32) (σ : Sg) : ab_ev tab_X_mean [(29, cp_X_isOne), (37, cp_X_inLowestTerms), (38, cp_X_moodAt)] [(25, kc_X_mean_25 (X_mean_L25 FU))] finL 300 (ab_row tab_X_mean 0) [(vR 0 0), (.inl p1), (.inl p2), vU, vU] [] σ = X_mean p1 p2 σ := rfl
def kc_X_firstOtherwise_28 {R : Type} (c : Nat → Nat → Nat → Int32 → Int32 → Int32 → Sg → Option R) : ACut R := fun L st σ => match L, st with
  | [.inr (.inr (.inl (g1, v0))), .inr (.inr (.inl (g2, v1))), .inr (.inr (.inl (g3, v2))), .inl v3, .inl v4, _], [.inl w0] => match Nat.beq g1 12 && Nat.beq g2 2 && Nat.beq g3 1 with
    | true => c v0 v1 v2 v3 v4 w0 σ
    | false => none
  | _, _ => none
def kc_X_firstOtherwise_3 {R : Type} (c : Nat → Nat → Nat → Int32 → Int32 → Sg → Option R) : ACut R := fun L st σ => match L, st with
  | [.inr (.inr (.inl (g1, v0))), .inr (.inr (.inl (g2, v1))), .inr (.inr (.inl (g3, v2))), .inl v3, .inl v4, _], [] => match Nat.beq g1 12 && Nat.beq g2 2 && Nat.beq g3 1 with
    | true => c v0 v1 v2 v3 v4 σ
    | false => none
  | _, _ => none
def tab_X_firstOtherwise : List (Nat × List AOp) := [(0, [(0, 0, 0, vI 0, []), (4, 4, 0, vU, []), (40, 3, 1, vU, [])]),
  (3, [(1, 4, 0, vU, []), (3, 0, 0, vU, []), (18, 12, 2, vU, []), (42, 3, 50, vU, []), (40, 12, 1, vU, [])]),
  (12, [(3, 1, 0, vU, []), (3, 2, 0, vU, []), (1, 4, 0, vU, []), (1, 3, 0, vU, []), (44, 40, 4, vU, []), (41, 0, 27, vU, []), (40, 23, 1, vU, [])]),
  (23, [(0, 0, 0, vI 1, []), (40, 28, 0, vU, [])]),
  (27, [(0, 0, 0, vI 0, []), (40, 28, 1, vU, [])]),
  (28, [(4, 5, 0, vU, []), (3, 0, 0, vU, []), (1, 4, 0, vU, []), (44, 200, 2, vU, []), (1, 5, 0, vU, []), (42, 0, 44, vU, []), (40, 41, 1, vU, [])]),
  (41, [(1, 4, 0, vU, []), (45, 1, 0, vU, [])]),
  (44, [(7, 4, 0, vI 1, []), (40, 3, 0, vU, [])]),
  (50, [(0, 0, 0, vI (-1), []), (45, 1, 0, vU, [])])]
theorem e_X_firstOtherwise_J28 (k3 : Nat → Nat → Nat → Int32 → Int32 → Sg → Option (Int32 × Sg)) (u5 : AV) (v0 : Nat) (v1 : Nat) (v2 : Nat) (v3 : Int32) (v4 : Int32) (w0 : Int32) (σ : Sg) : ab_ev tab_X_firstOtherwise [(40, cp_X_fitsAt), (200, cp_Sheet_item)] [(3, kc_X_firstOtherwise_3 k3)] finI 300 (ab_row tab_X_firstOtherwise 28) [(vR 12 v0), (vR 2 v1), (vR 1 v2), (.inl v3), (.inl v4), u5] [(.inl w0)] σ = X_firstOtherwise_J28 k3 v0 v1 v2 v3 v4 w0 σ := rfl
theorem e_X_firstOtherwise_L3 (n : Nat) (u5 : AV) (v0 : Nat) (v1 : Nat) (v2 : Nat) (v3 : Int32) (v4 : Int32) (σ : Sg) : ab_ev tab_X_firstOtherwise [(40, cp_X_fitsAt), (200, cp_Sheet_item)] [(28, kc_X_firstOtherwise_28 (X_firstOtherwise_J28 (fun y0 y1 y2 y3 y4 τ => X_firstOtherwise_L3 n y0 y1 y2 y3 y4 τ)))] finI 300 (ab_row tab_X_firstOtherwise 3) [(vR 12 v0), (vR 2 v1), (vR 1 v2), (.inl v3), (.inl v4), u5] [] σ = X_firstOtherwise_L3 (n + 1) v0 v1 v2 v3 v4 σ := rfl
theorem e_X_firstOtherwise (p0 : Nat) (p1 : Nat) (p2 : Nat) (p3 : Int32) (σ : Sg) : ab_ev tab_X_firstOtherwise [(40, cp_X_fitsAt), (200, cp_Sheet_item)] [(3, kc_X_firstOtherwise_3 (X_firstOtherwise_L3 FU))] finI 300 (ab_row tab_X_firstOtherwise 0) [(vR 12 p0), (vR 2 p1), (vR 1 p2), (.inl p3), vU, vU] [] σ = X_firstOtherwise p0 p1 p2 p3 σ := rfl
def kc_X_wouldBeSo_61 {R : Type} (c : Nat → Int32 → Int32 → Int32 → Nat → Sg → Option R) : ACut R := fun L st σ => match L, st with
  | [.inr (.inr (.inl (g1, i1))), .inr (.inr (.inl (g2, v1))), _, .inl v3, .inl v4, .inl v5, _], [.inr (.inr (.inl (g3, w0)))] => match Nat.beq g1 0 && Nat.beq i1 0 && Nat.beq g2 12 && Nat.beq g3 2 with
    | true => c v1 v3 v4 v5 w0 σ
    | false => none
  | _, _ => none
def kc_X_wouldBeSo_52 {R : Type} (c : Nat → Int32 → Int32 → Int32 → Sg → Option R) : ACut R := fun L st σ => match L, st with
  | [.inr (.inr (.inl (g1, i1))), .inr (.inr (.inl (g2, v1))), _, .inl v3, .inl v4, .inl v5, _], [] => match Nat.beq g1 0 && Nat.beq i1 0 && Nat.beq g2 12 with
    | true => c v1 v3 v4 v5 σ
    | false => none
  | _, _ => none
def tab_X_wouldBeSo : List (Nat × List AOp) := [(0, [(3, 0, 0, vU, []), (20, 0, 3, vR 1 8, []), (3, 0, 0, vU, []), (20, 0, 1, vR 24 0, []), (1, 2, 0, vU, []), (28, 24, 0, vU, []), (44, 178, 2, vU, []), (3, 0, 0, vU, []), (20, 0, 3, vR 1 8, []), (1, 4, 0, vU, []), (1, 5, 0, vU, []), (44, 180, 3, vU, []), (1, 4, 0, vU, []), (0, 0, 0, vI 5, []), (42, 1, 52, vU, []), (40, 30, 1, vU, [])]),
  (30, [(1, 5, 0, vU, []), (41, 2, 52, vU, []), (40, 35, 1, vU, [])]),
  (35, [(1, 5, 0, vU, []), (0, 0, 0, vI 6, []), (42, 3, 52, vU, []), (40, 42, 1, vU, [])]),
  (42, [(3, 0, 0, vU, []), (20, 0, 4, vR 25 0, []), (1, 5, 0, vU, []), (28, 25, 0, vU, []), (40, 61, 0, vU, [])]),
  (52, [(3, 0, 0, vU, []), (20, 0, 4, vR 25 0, []), (3, 0, 0, vU, []), (18, 0, 6, vU, []), (28, 25, 0, vU, []), (40, 61, 1, vU, [])]),
  (61, [(6, 6, 0, vU, []), (3, 1, 0, vU, []), (3, 6, 0, vU, []), (3, 0, 0, vU, []), (20, 0, 3, vR 1 8, []), (1, 4, 0, vU, []), (0, 0, 0, vI 6, []), (42, 1, 82, vU, []), (40, 77, 1, vU, [])]),
  (77, [(1, 5, 0, vU, []), (40, 83, 0, vU, [])]),
  (82, [(1, 3, 0, vU, []), (40, 83, 1, vU, [])]),
  (83, [(44, 60, 4, vU, []), (0, 0, 0, vI (-1), []), (42, 1, 94, vU, []), (40, 90, 1, vU, [])]),
  (90, [(0, 0, 0, vI 1, []), (40, 95, 0, vU, [])]),
  (94, [(0, 0, 0, vI 0, []), (40, 95, 1, vU, [])]),
  (95, [(45, 3, 0, vU, [])])]
theorem e_X_wouldBeSo_J61 (u2 u6 : AV) (v1 : Nat) (v3 : Int32) (v4 : Int32) (v5 : Int32) (w0 : Nat) (σ : Sg) : ab_ev tab_X_wouldBeSo [(60, cp_X_firstOtherwise), (178, cp_Coat_become), (180, cp_Coat_giveTrait)] [] finI 300 (ab_row tab_X_wouldBeSo 61) [(vR 0 0), (vR 12 v1), u2, (.inl v3), (.inl v4), (.inl v5), u6] [(vR 2 w0)] σ = X_wouldBeSo_J61 v1 v3 v4 v5 w0 σ := rfl
theorem e_X_wouldBeSo_J52 (u2 u6 : AV) (v1 : Nat) (v3 : Int32) (v4 : Int32) (v5 : Int32) (σ : Sg) : ab_ev tab_X_wouldBeSo [(60, cp_X_firstOtherwise), (178, cp_Coat_become), (180, cp_Coat_giveTrait)] [(61, kc_X_wouldBeSo_61 (X_wouldBeSo_J61))] finI 300 (ab_row tab_X_wouldBeSo 52) [(vR 0 0), (vR 12 v1), u2, (.inl v3), (.inl v4), (.inl v5), u6] [] σ = X_wouldBeSo_J52 v1 v3 v4 v5 σ := rfl
theorem e_X_wouldBeSo (p1 : Nat) (p2 : Int32) (p3 : Int32) (p4 : Int32) (p5 : Int32) (σ : Sg) : ab_ev tab_X_wouldBeSo [(60, cp_X_firstOtherwise), (178, cp_Coat_become), (180, cp_Coat_giveTrait)] [(52, kc_X_wouldBeSo_52 (X_wouldBeSo_J52)), (61, kc_X_wouldBeSo_61 (X_wouldBeSo_J61))] finI 300 (ab_row tab_X_wouldBeSo 0) [(vR 0 0), (vR 12 p1), (.inl p2), (.inl p3), (.inl p4), (.inl p5), vU] [] σ = X_wouldBeSo p1 p2 p3 p4 p5 σ := rfl
def kc_X_bitsBy_6 {R : Type} (c : Nat → Int32 → Int32 → Int32 → Int32 → Int32 → Int32 → Sg → Option R) : ACut R := fun L st σ => match L, st with
  | [.inr (.inr (.inl (g1, i1))), .inr (.inr (.inl (g2, v1))), .inl v2, .inl v3, .inl v4, .inl v5, .inl v6, .inl v7], [] => match Nat.beq g1 0 && Nat.beq i1 0 && Nat.beq g2 12 with
    | true => c v1 v2 v3 v4 v5 v6 v7 σ
    | false => none
  | _, _ => none
def tab_X_bitsBy : List (Nat × List AOp) := [(0, [(0, 0, 0, vI 0, []), (4, 6, 0, vU, []), (0, 0, 0, vI 0, []), (4, 7, 0, vU, []), (40, 6, 1, vU, [])]),
  (6, [(1, 7, 0, vU, []), (1, 5, 0, vU, []), (42, 3, 42, vU, []), (40, 13, 1, vU, [])]),
  (13, [(3, 0, 0, vU, []), (3, 1, 0, vU, []), (1, 2, 0, vU, []), (1, 3, 0, vU, []), (1, 4, 0, vU, []), (1, 7, 0, vU, []), (44, 61, 6, vU, []), (41, 0, 36, vU, []), (40, 27, 1, vU, [])]),
  (27, [(1, 6, 0, vU, []), (0, 0, 0, vI 1, []), (1, 7, 0, vU, []), (8, 5, 0, vU, []), (8, 4, 0, vU, []), (4, 6, 0, vU, []), (40, 36, 1, vU, [])]),
  (36, [(7, 7, 0, vI 1, []), (40, 6, 0, vU, [])]),
  (42, [(1, 6, 0, vU, []), (45, 1, 0, vU, [])])]
theorem e_X_bitsBy_L6 (n : Nat) (v1 : Nat) (v2 : Int32) (v3 : Int32) (v4 : Int32) (v5 : Int32) (v6 : Int32) (v7 : Int32) (σ : Sg) : ab_ev tab_X_bitsBy [(61, cp_X_wouldBeSo)] [(6, kc_X_bitsBy_6 (X_bitsBy_L6 n))] finI 300 (ab_row tab_X_bitsBy 6) [(vR 0 0), (vR 12 v1), (.inl v2), (.inl v3), (.inl v4), (.inl v5), (.inl v6), (.inl v7)] [] σ = X_bitsBy_L6 (n + 1) v1 v2 v3 v4 v5 v6 v7 σ := rfl
theorem e_X_bitsBy (p1 : Nat) (p2 : Int32) (p3 : Int32) (p4 : Int32) (p5 : Int32) (σ : Sg) : ab_ev tab_X_bitsBy [(61, cp_X_wouldBeSo)] [(6, kc_X_bitsBy_6 (X_bitsBy_L6 FU))] finI 300 (ab_row tab_X_bitsBy 0) [(vR 0 0), (vR 12 p1), (.inl p2), (.inl p3), (.inl p4), (.inl p5), vU, vU] [] σ = X_bitsBy p1 p2 p3 p4 p5 σ := rfl
def kc_X_manyBy_6 {R : Type} (c : Nat → Int32 → Int32 → Int32 → Int32 → Int32 → Int32 → Sg → Option R) : ACut R := fun L st σ => match L, st with
  | [.inr (.inr (.inl (g1, i1))), .inr (.inr (.inl (g2, v1))), .inl v2, .inl v3, .inl v4, .inl v5, .inl v6, .inl v7], [] => match Nat.beq g1 0 && Nat.beq i1 0 && Nat.beq g2 12 with
    | true => c v1 v2 v3 v4 v5 v6 v7 σ
    | false => none
  | _, _ => none
def tab_X_manyBy : List (Nat × List AOp) := [(0, [(0, 0, 0, vI 0, []), (4, 6, 0, vU, []), (0, 0, 0, vI 0, []), (4, 7, 0, vU, []), (40, 6, 1, vU, [])]),
  (6, [(1, 7, 0, vU, []), (1, 5, 0, vU, []), (42, 3, 36, vU, []), (40, 13, 1, vU, [])]),
  (13, [(3, 0, 0, vU, []), (3, 1, 0, vU, []), (1, 2, 0, vU, []), (1, 3, 0, vU, []), (1, 4, 0, vU, []), (1, 7, 0, vU, []), (44, 61, 6, vU, []), (41, 0, 30, vU, []), (40, 27, 1, vU, [])]),
  (27, [(7, 6, 0, vI 1, []), (40, 30, 1, vU, [])]),
  (30, [(7, 7, 0, vI 1, []), (40, 6, 0, vU, [])]),
  (36, [(1, 6, 0, vU, []), (45, 1, 0, vU, [])])]
theorem e_X_manyBy_L6 (n : Nat) (v1 : Nat) (v2 : Int32) (v3 : Int32) (v4 : Int32) (v5 : Int32) (v6 : Int32) (v7 : Int32) (σ : Sg) : ab_ev tab_X_manyBy [(61, cp_X_wouldBeSo)] [(6, kc_X_manyBy_6 (X_manyBy_L6 n))] finI 300 (ab_row tab_X_manyBy 6) [(vR 0 0), (vR 12 v1), (.inl v2), (.inl v3), (.inl v4), (.inl v5), (.inl v6), (.inl v7)] [] σ = X_manyBy_L6 (n + 1) v1 v2 v3 v4 v5 v6 v7 σ := rfl
theorem e_X_manyBy (p1 : Nat) (p2 : Int32) (p3 : Int32) (p4 : Int32) (p5 : Int32) (σ : Sg) : ab_ev tab_X_manyBy [(61, cp_X_wouldBeSo)] [(6, kc_X_manyBy_6 (X_manyBy_L6 FU))] finI 300 (ab_row tab_X_manyBy 0) [(vR 0 0), (vR 12 p1), (.inl p2), (.inl p3), (.inl p4), (.inl p5), vU, vU] [] σ = X_manyBy p1 p2 p3 p4 p5 σ := rfl
def kc_X_leastBy_3 {R : Type} (c : Nat → Int32 → Int32 → Int32 → Int32 → Int32 → Sg → Option R) : ACut R := fun L st σ => match L, st with
  | [.inr (.inr (.inl (g1, i1))), .inr (.inr (.inl (g2, v1))), .inl v2, .inl v3, .inl v4, .inl v5, .inl v6], [] => match Nat.beq g1 0 && Nat.beq i1 0 && Nat.beq g2 12 with
    | true => c v1 v2 v3 v4 v5 v6 σ
    | false => none
  | _, _ => none
def tab_X_leastBy : List (Nat × List AOp) := [(0, [(0, 0, 0, vI 0, []), (4, 6, 0, vU, []), (40, 3, 1, vU, [])]),
  (3, [(1, 6, 0, vU, []), (1, 5, 0, vU, []), (42, 3, 33, vU, []), (40, 10, 1, vU, [])]),
  (10, [(3, 0, 0, vU, []), (3, 1, 0, vU, []), (1, 2, 0, vU, []), (1, 3, 0, vU, []), (1, 4, 0, vU, []), (1, 6, 0, vU, []), (44, 61, 6, vU, []), (41, 0, 27, vU, []), (40, 24, 1, vU, [])]),
  (24, [(1, 6, 0, vU, []), (45, 1, 0, vU, [])]),
  (27, [(7, 6, 0, vI 1, []), (40, 3, 0, vU, [])]),
  (33, [(0, 0, 0, vI (-1), []), (45, 1, 0, vU, [])])]
theorem e_X_leastBy_L3 (n : Nat) (v1 : Nat) (v2 : Int32) (v3 : Int32) (v4 : Int32) (v5 : Int32) (v6 : Int32) (σ : Sg) : ab_ev tab_X_leastBy [(61, cp_X_wouldBeSo)] [(3, kc_X_leastBy_3 (X_leastBy_L3 n))] finI 300 (ab_row tab_X_leastBy 3) [(vR 0 0), (vR 12 v1), (.inl v2), (.inl v3), (.inl v4), (.inl v5), (.inl v6)] [] σ = X_leastBy_L3 (n + 1) v1 v2 v3 v4 v5 v6 σ := rfl
theorem e_X_leastBy (p1 : Nat) (p2 : Int32) (p3 : Int32) (p4 : Int32) (p5 : Int32) (σ : Sg) : ab_ev tab_X_leastBy [(61, cp_X_wouldBeSo)] [(3, kc_X_leastBy_3 (X_leastBy_L3 FU))] finI 300 (ab_row tab_X_leastBy 0) [(vR 0 0), (vR 12 p1), (.inl p2), (.inl p3), (.inl p4), (.inl p5), vU] [] σ = X_leastBy p1 p2 p3 p4 p5 σ := rfl
def tab_X_tells : List (Nat × List AOp) := [(0, [(1, 1, 0, vU, []), (44, 33, 1, vU, []), (41, 0, 34, vU, []), (40, 7, 1, vU, [])]),
  (7, [(3, 0, 0, vU, []), (1, 2, 0, vU, []), (44, 32, 2, vU, []), (41, 0, 34, vU, []), (40, 15, 1, vU, [])]),
  (15, [(1, 3, 0, vU, []), (44, 30, 1, vU, []), (41, 0, 34, vU, []), (40, 22, 1, vU, [])]),
  (22, [(1, 4, 0, vU, []), (41, 2, 34, vU, []), (40, 27, 1, vU, [])]),
  (27, [(1, 4, 0, vU, []), (0, 0, 0, vI 8, []), (42, 5, 37, vU, []), (40, 34, 1, vU, [])]),
  (34, [(0, 0, 0, vI (-2), []), (45, 1, 0, vU, [])]),
  (37, [(3, 0, 0, vU, []), (20, 0, 9, vR 26 0, []), (1, 1, 0, vU, []), (28, 26, 0, vU, []), (6, 5, 0, vU, []), (3, 5, 0, vU, []), (18, 12, 1, vU, []), (0, 0, 0, vI (-1), []), (42, 1, 57, vU, []), (40, 54, 1, vU, [])]),
  (54, [(0, 0, 0, vI (-11), []), (45, 1, 0, vU, [])]),
  (57, [(1, 4, 0, vU, []), (43, 212, 0, vU, [(0, 104), (1, 126), (2, 138), (3, 150), (4, 162), (5, 174), (6, 186), (7, 198)])]),
  (104, [(3, 5, 0, vU, []), (3, 0, 0, vU, []), (20, 0, 4, vR 25 0, []), (3, 0, 0, vU, []), (18, 0, 6, vU, []), (28, 25, 0, vU, []), (3, 0, 0, vU, []), (20, 0, 1, vR 24 0, []), (1, 2, 0, vU, []), (28, 24, 0, vU, []), (1, 3, 0, vU, []), (44, 60, 4, vU, []), (45, 1, 0, vU, [])]),
  (126, [(3, 0, 0, vU, []), (3, 5, 0, vU, []), (1, 2, 0, vU, []), (1, 3, 0, vU, []), (0, 0, 0, vI 4, []), (0, 0, 0, vI 6, []), (44, 62, 6, vU, []), (45, 1, 0, vU, [])]),
  (138, [(3, 0, 0, vU, []), (3, 5, 0, vU, []), (1, 2, 0, vU, []), (1, 3, 0, vU, []), (0, 0, 0, vI 1, []), (0, 0, 0, vI 10, []), (44, 62, 6, vU, []), (45, 1, 0, vU, [])]),
  (150, [(3, 0, 0, vU, []), (3, 5, 0, vU, []), (1, 2, 0, vU, []), (1, 3, 0, vU, []), (0, 0, 0, vI 2, []), (0, 0, 0, vI 100, []), (44, 63, 6, vU, []), (45, 1, 0, vU, [])]),
  (162, [(3, 0, 0, vU, []), (3, 5, 0, vU, []), (1, 2, 0, vU, []), (1, 3, 0, vU, []), (0, 0, 0, vI 2, []), (0, 0, 0, vI 100, []), (44, 64, 6, vU, []), (45, 1, 0, vU, [])]),
  (174, [(3, 0, 0, vU, []), (3, 5, 0, vU, []), (1, 2, 0, vU, []), (1, 3, 0, vU, []), (0, 0, 0, vI 3, []), (0, 0, 0, vI 100, []), (44, 63, 6, vU, []), (45, 1, 0, vU, [])]),
  (186, [(3, 0, 0, vU, []), (3, 5, 0, vU, []), (1, 2, 0, vU, []), (1, 3, 0, vU, []), (0, 0, 0, vI 3, []), (0, 0, 0, vI 100, []), (44, 64, 6, vU, []), (45, 1, 0, vU, [])]),
  (198, [(3, 0, 0, vU, []), (3, 5, 0, vU, []), (1, 2, 0, vU, []), (1, 3, 0, vU, []), (0, 0, 0, vI 5, []), (3, 0, 0, vU, []), (18, 0, 5, vU, []), (44, 62, 6, vU, []), (45, 1, 0, vU, [])]),
  (212, [(3, 0, 0, vU, []), (3, 5, 0, vU, []), (1, 2, 0, vU, []), (1, 3, 0, vU, []), (0, 0, 0, vI 6, []), (0, 0, 0, vI 24, []), (44, 62, 6, vU, []), (45, 1, 0, vU, [])])]
theorem e_X_tells (p1 : Int32) (p2 : Int32) (p3 : Int32) (p4 : Int32) (σ : Sg) : ab_ev tab_X_tells [(30, cp_X_isHour), (32, cp_X_isCoat), (33, cp_X_isSheet), (60, cp_X_firstOtherwise), (62, cp_X_bitsBy), (63, cp_X_manyBy), (64, cp_X_leastBy)] [] finI 300 (ab_row tab_X_tells 0) [(vR 0 0), (.inl p1), (.inl p2), (.inl p3), (.inl p4), vU] [] σ = X_tells p1 p2 p3 p4 σ := rfl
def kc_X_film_91 {R : Type} (c : Int32 → Int32 → Int32 → Int32 → Int32 → Int32 → Int32 → Sg → Option R) : ACut R := fun L st σ => match L, st with
  | [.inr (.inr (.inl (g1, i1))), .inl v1, .inl v2, .inl v3, .inl v4, .inl v5, .inl v6, _], [.inl w0] => match Nat.beq g1 0 && Nat.beq i1 0 with
    | true => c v1 v2 v3 v4 v5 v6 w0 σ
    | false => none
  | _, _ => none
def kc_X_film_55 {R : Type} (c : Int32 → Int32 → Int32 → Int32 → Int32 → Int32 → Sg → Option R) : ACut R := fun L st σ => match L, st with
  | [.inr (.inr (.inl (g1, i1))), .inl v1, .inl v2, .inl v3, .inl v4, .inl v5, .inl v6, _], [] => match Nat.beq g1 0 && Nat.beq i1 0 with
    | true => c v1 v2 v3 v4 v5 v6 σ
    | false => none
  | _, _ => none
def tab_X_film : List (Nat × List AOp) := [(0, [(1, 1, 0, vU, []), (44, 33, 1, vU, []), (41, 0, 34, vU, []), (40, 7, 1, vU, [])]),
  (7, [(3, 0, 0, vU, []), (1, 2, 0, vU, []), (44, 32, 2, vU, []), (41, 0, 34, vU, []), (40, 15, 1, vU, [])]),
  (15, [(1, 3, 0, vU, []), (44, 30, 1, vU, []), (41, 0, 34, vU, []), (40, 22, 1, vU, [])]),
  (22, [(1, 4, 0, vU, []), (41, 2, 34, vU, []), (40, 27, 1, vU, [])]),
  (27, [(1, 4, 0, vU, []), (0, 0, 0, vI 40, []), (42, 5, 37, vU, []), (40, 34, 1, vU, [])]),
  (34, [(0, 0, 0, vI (-2), []), (45, 1, 0, vU, [])]),
  (37, [(3, 0, 0, vU, []), (20, 0, 9, vR 26 0, []), (1, 1, 0, vU, []), (28, 26, 0, vU, []), (0, 0, 0, vI 0, []), (1, 4, 0, vU, []), (44, 198, 3, vU, []), (0, 0, 0, vI 0, []), (4, 5, 0, vU, []), (0, 0, 0, vI 0, []), (4, 6, 0, vU, []), (40, 55, 1, vU, [])]),
  (55, [(1, 6, 0, vU, []), (1, 4, 0, vU, []), (42, 3, 119, vU, []), (40, 62, 1, vU, [])]),
  (62, [(3, 0, 0, vU, []), (20, 0, 4, vR 25 0, []), (3, 0, 0, vU, []), (18, 0, 6, vU, []), (28, 25, 0, vU, []), (3, 0, 0, vU, []), (20, 0, 1, vR 24 0, []), (1, 2, 0, vU, []), (28, 24, 0, vU, []), (1, 6, 0, vU, []), (1, 3, 0, vU, []), (44, 40, 4, vU, []), (41, 0, 90, vU, []), (40, 86, 1, vU, [])]),
  (86, [(0, 0, 0, vI 1, []), (40, 91, 0, vU, [])]),
  (90, [(0, 0, 0, vI 0, []), (40, 91, 1, vU, [])]),
  (91, [(4, 7, 0, vU, []), (3, 0, 0, vU, []), (20, 0, 9, vR 26 0, []), (1, 1, 0, vU, []), (28, 26, 0, vU, []), (1, 6, 0, vU, []), (1, 7, 0, vU, []), (44, 199, 3, vU, []), (1, 5, 0, vU, []), (1, 7, 0, vU, []), (8, 0, 0, vU, []), (4, 5, 0, vU, []), (7, 6, 0, vI 1, []), (40, 55, 0, vU, [])]),
  (119, [(1, 5, 0, vU, []), (45, 1, 0, vU, [])])]
theorem e_X_film_J91 (k55 : Int32 → Int32 → Int32 → Int32 → Int32 → Int32 → Sg → Option (Int32 × Sg)) (u7 : AV) (v1 : Int32) (v2 : Int32) (v3 : Int32) (v4 : Int32) (v5 : Int32) (v6 : Int32) (w0 : Int32) (σ : Sg) : ab_ev tab_X_film [(30, cp_X_isHour), (32, cp_X_isCoat), (33, cp_X_isSheet), (40, cp_X_fitsAt), (198, cp_Sheet_become), (199, cp_Sheet_put)] [(55, kc_X_film_55 k55)] finI 300 (ab_row tab_X_film 91) [(vR 0 0), (.inl v1), (.inl v2), (.inl v3), (.inl v4), (.inl v5), (.inl v6), u7] [(.inl w0)] σ = X_film_J91 k55 v1 v2 v3 v4 v5 v6 w0 σ := rfl
theorem e_X_film_L55 (n : Nat) (u7 : AV) (v1 : Int32) (v2 : Int32) (v3 : Int32) (v4 : Int32) (v5 : Int32) (v6 : Int32) (σ : Sg) : ab_ev tab_X_film [(30, cp_X_isHour), (32, cp_X_isCoat), (33, cp_X_isSheet), (40, cp_X_fitsAt), (198, cp_Sheet_become), (199, cp_Sheet_put)] [(91, kc_X_film_91 (X_film_J91 (fun y0 y1 y2 y3 y4 y5 τ => X_film_L55 n y0 y1 y2 y3 y4 y5 τ)))] finI 300 (ab_row tab_X_film 55) [(vR 0 0), (.inl v1), (.inl v2), (.inl v3), (.inl v4), (.inl v5), (.inl v6), u7] [] σ = X_film_L55 (n + 1) v1 v2 v3 v4 v5 v6 σ := rfl
theorem e_X_film (p1 : Int32) (p2 : Int32) (p3 : Int32) (p4 : Int32) (σ : Sg) : ab_ev tab_X_film [(30, cp_X_isHour), (32, cp_X_isCoat), (33, cp_X_isSheet), (40, cp_X_fitsAt), (198, cp_Sheet_become), (199, cp_Sheet_put)] [(55, kc_X_film_55 (X_film_L55 FU))] finI 300 (ab_row tab_X_film 0) [(vR 0 0), (.inl p1), (.inl p2), (.inl p3), (.inl p4), vU, vU, vU] [] σ = X_film p1 p2 p3 p4 σ := rfl
def kc_X_drawnCost_4 {R : Type} (c : Int32 → Int32 → Sg → Option R) : ACut R := fun L st σ => match L, st with
  | [.inr (.inr (.inl (g1, i1))), _, .inl v2, .inl v3], [] => match Nat.beq g1 0 && Nat.beq i1 0 with
    | true => c v2 v3 σ
    | false => none
  | _, _ => none
def tab_X_drawnCost : List (Nat × List AOp) := [(0, [(1, 1, 0, vU, []), (4, 2, 0, vU, []), (0, 0, 0, vI 0, []), (4, 3, 0, vU, []), (40, 4, 1, vU, [])]),
  (4, [(1, 3, 0, vU, []), (0, 0, 0, vI 24, []), (42, 3, 38, vU, []), (40, 10, 1, vU, [])]),
  (10, [(1, 2, 0, vU, []), (0, 0, 0, vI 1103515245, []), (8, 2, 0, vU, []), (0, 0, 0, vI 12345, []), (8, 0, 0, vU, []), (4, 2, 0, vU, []), (3, 0, 0, vU, []), (1, 3, 0, vU, []), (1, 2, 0, vU, []), (0, 0, 0, vI 9, []), (8, 7, 0, vU, []), (0, 0, 0, vI 100, []), (9, 1, 0, vU, []), (44, 49, 3, vU, []), (7, 3, 0, vI 1, []), (40, 4, 0, vU, [])]),
  (38, [(3, 0, 0, vU, []), (20, 0, 10, vR 14 0, []), (44, 188, 1, vU, []), (45, 1, 0, vU, [])])]
theorem e_X_drawnCost_L4 (n : Nat) (u1 : AV) (v2 : Int32) (v3 : Int32) (σ : Sg) : ab_ev tab_X_drawnCost [(49, cp_X_tellHour), (188, cp_Day_cheapest)] [(4, kc_X_drawnCost_4 (X_drawnCost_L4 n))] finI 300 (ab_row tab_X_drawnCost 4) [(vR 0 0), u1, (.inl v2), (.inl v3)] [] σ = X_drawnCost_L4 (n + 1) v2 v3 σ := rfl
theorem e_X_drawnCost (p1 : Int32) (σ : Sg) : ab_ev tab_X_drawnCost [(49, cp_X_tellHour), (188, cp_Day_cheapest)] [(4, kc_X_drawnCost_4 (X_drawnCost_L4 FU))] finI 300 (ab_row tab_X_drawnCost 0) [(vR 0 0), (.inl p1), vU, vU] [] σ = X_drawnCost p1 σ := rfl
def tab_X_drawn : List (Nat × List AOp) := [(0, [(1, 2, 0, vU, []), (44, 29, 1, vU, []), (41, 0, 15, vU, []), (40, 7, 1, vU, [])]),
  (7, [(3, 0, 0, vU, []), (1, 1, 0, vU, []), (44, 52, 2, vU, []), (40, 17, 0, vU, [])]),
  (15, [(0, 0, 0, vI (-2), []), (40, 17, 1, vU, [])]),
  (17, [(45, 1, 0, vU, [])])]
theorem e_X_drawn (p1 : Int32) (p2 : Int32) (σ : Sg) : ab_ev tab_X_drawn [(29, cp_X_isOne), (52, cp_X_drawnCost)] [] finI 300 (ab_row tab_X_drawn 0) [(vR 0 0), (.inl p1), (.inl p2)] [] σ = X_drawn p1 p2 σ := rfl
def kc_X_chance_56 {R : Type} (c : Int32 → Int32 → Int32 → Int32 → Int32 → Int32 → Sg → Option R) : ACut R := fun L st σ => match L, st with
  | [.inr (.inr (.inl (g1, i1))), .inl v1, .inl v2, _, .inl v4, .inl v5, .inl v6, .inl v7], [] => match Nat.beq g1 0 && Nat.beq i1 0 with
    | true => c v1 v2 v4 v5 v6 v7 σ
    | false => none
  | _, _ => none
def tab_X_chance : List (Nat × List AOp) := [(0, [(1, 2, 0, vU, []), (0, 0, 0, vI 1, []), (42, 2, 18, vU, []), (40, 5, 1, vU, [])]),
  (5, [(1, 2, 0, vU, []), (0, 0, 0, vI 10, []), (42, 4, 18, vU, []), (40, 11, 1, vU, [])]),
  (11, [(1, 3, 0, vU, []), (44, 29, 1, vU, []), (41, 1, 22, vU, []), (40, 18, 1, vU, [])]),
  (18, [(0, 0, 0, vL (-4611686018427387904), []), (45, 2, 0, vU, [])]),
  (22, [(1, 4, 0, vU, []), (41, 2, 46, vU, []), (40, 27, 1, vU, [])]),
  (27, [(1, 4, 0, vU, []), (0, 0, 0, vI 9999, []), (42, 4, 46, vU, []), (40, 35, 1, vU, [])]),
  (35, [(1, 5, 0, vU, []), (41, 2, 46, vU, []), (40, 40, 1, vU, [])]),
  (40, [(1, 5, 0, vU, []), (0, 0, 0, vI 1, []), (42, 5, 50, vU, []), (40, 46, 1, vU, [])]),
  (46, [(0, 0, 0, vL (-4611686018427387904), []), (45, 2, 0, vU, [])]),
  (50, [(0, 0, 0, vI 0, []), (4, 6, 0, vU, []), (0, 0, 0, vI 0, []), (4, 7, 0, vU, []), (40, 56, 1, vU, [])]),
  (56, [(1, 7, 0, vU, []), (1, 2, 0, vU, []), (42, 3, 84, vU, []), (40, 62, 1, vU, [])]),
  (62, [(3, 0, 0, vU, []), (1, 1, 0, vU, []), (1, 7, 0, vU, []), (8, 0, 0, vU, []), (44, 52, 2, vU, []), (1, 4, 0, vU, []), (42, 4, 78, vU, []), (40, 75, 1, vU, [])]),
  (75, [(7, 6, 0, vI 1, []), (40, 78, 1, vU, [])]),
  (78, [(7, 7, 0, vI 1, []), (40, 56, 0, vU, [])]),
  (84, [(1, 6, 0, vU, []), (1, 2, 0, vU, []), (1, 5, 0, vU, []), (44, 37, 3, vU, []), (45, 2, 0, vU, [])])]
theorem e_X_chance_L56 (n : Nat) (u3 : AV) (v1 : Int32) (v2 : Int32) (v4 : Int32) (v5 : Int32) (v6 : Int32) (v7 : Int32) (σ : Sg) : ab_ev tab_X_chance [(29, cp_X_isOne), (37, cp_X_inLowestTerms), (52, cp_X_drawnCost)] [(56, kc_X_chance_56 (X_chance_L56 n))] finL 300 (ab_row tab_X_chance 56) [(vR 0 0), (.inl v1), (.inl v2), u3, (.inl v4), (.inl v5), (.inl v6), (.inl v7)] [] σ = X_chance_L56 (n + 1) v1 v2 v4 v5 v6 v7 σ := rfl
theorem e_X_chance (p1 : Int32) (p2 : Int32) (p3 : Int32) (p4 : Int32) (p5 : Int32) (σ : Sg) : ab_ev tab_X_chance [(29, cp_X_isOne), (37, cp_X_inLowestTerms), (52, cp_X_drawnCost)] [(56, kc_X_chance_56 (X_chance_L56 FU))] finL 300 (ab_row tab_X_chance 0) [(vR 0 0), (.inl p1), (.inl p2), (.inl p3), (.inl p4), (.inl p5), vU, vU] [] σ = X_chance p1 p2 p3 p4 p5 σ := rfl
def kc_X_image_20 {R : Type} (c : Int32 → Sg → Option R) : ACut R := fun L st σ => match L, st with
  | [.inr (.inr (.inl (g1, i1))), .inl v1], [] => match Nat.beq g1 0 && Nat.beq i1 0 with
    | true => c v1 σ
    | false => none
  | _, _ => none
def tab_X_image : List (Nat × List AOp) := [(0, [(3, 0, 0, vU, []), (20, 0, 0, vR 23 0, []), (0, 0, 0, vI 0, []), (3, 0, 0, vU, []), (20, 0, 12, vR 20 0, []), (20, 20, 0, vR 21 0, []), (0, 0, 0, vI 0, []), (0, 0, 0, vI 72, []), (31, 23, 21, vU, []), (0, 0, 0, vI 0, []), (4, 1, 0, vU, []), (40, 20, 1, vU, [])]),
  (20, [(1, 1, 0, vU, []), (0, 0, 0, vI 8, []), (42, 3, 50, vU, []), (40, 26, 1, vU, [])]),
  (26, [(3, 0, 0, vU, []), (20, 0, 12, vR 20 0, []), (20, 20, 1, vR 22 0, []), (1, 1, 0, vU, []), (28, 22, 0, vU, []), (3, 0, 0, vU, []), (20, 0, 1, vR 24 0, []), (1, 1, 0, vU, []), (28, 24, 0, vU, []), (44, 178, 2, vU, []), (7, 1, 0, vI 1, []), (40, 20, 0, vU, [])]),
  (50, [(3, 0, 0, vU, []), (20, 0, 12, vR 20 0, []), (3, 0, 0, vU, []), (18, 0, 2, vU, []), (21, 20, 2, vU, []), (3, 0, 0, vU, []), (20, 0, 12, vR 20 0, []), (3, 0, 0, vU, []), (18, 0, 6, vU, []), (21, 20, 3, vU, []), (3, 0, 0, vU, []), (18, 0, 2, vU, []), (45, 1, 0, vU, [])])]
theorem e_X_image_L20 (n : Nat) (v1 : Int32) (σ : Sg) : ab_ev tab_X_image [(178, cp_Coat_become)] [(20, kc_X_image_20 (X_image_L20 n))] finI 300 (ab_row tab_X_image 20) [(vR 0 0), (.inl v1)] [] σ = X_image_L20 (n + 1) v1 σ := rfl
theorem e_X_image (σ : Sg) : ab_ev tab_X_image [(178, cp_Coat_become)] [(20, kc_X_image_20 (X_image_L20 FU))] finI 300 (ab_row tab_X_image 0) [(vR 0 0), vU] [] σ = X_image  σ := rfl
def kc_X_back_34 {R : Type} (c : Int32 → Sg → Option R) : ACut R := fun L st σ => match L, st with
  | [.inr (.inr (.inl (g1, i1))), .inl v1], [] => match Nat.beq g1 0 && Nat.beq i1 0 with
    | true => c v1 σ
    | false => none
  | _, _ => none
def tab_X_back : List (Nat × List AOp) := [(0, [(3, 0, 0, vU, []), (20, 0, 12, vR 20 0, []), (18, 20, 2, vU, []), (0, 0, 0, vI (-1), []), (42, 1, 14, vU, []), (40, 11, 1, vU, [])]),
  (11, [(0, 0, 0, vI (-3), []), (45, 1, 0, vU, [])]),
  (14, [(3, 0, 0, vU, []), (20, 0, 12, vR 20 0, []), (20, 20, 0, vR 21 0, []), (0, 0, 0, vI 0, []), (3, 0, 0, vU, []), (20, 0, 0, vR 23 0, []), (0, 0, 0, vI 0, []), (0, 0, 0, vI 72, []), (31, 21, 23, vU, []), (0, 0, 0, vI 0, []), (4, 1, 0, vU, []), (40, 34, 1, vU, [])]),
  (34, [(1, 1, 0, vU, []), (0, 0, 0, vI 8, []), (42, 3, 64, vU, []), (40, 40, 1, vU, [])]),
  (40, [(3, 0, 0, vU, []), (20, 0, 1, vR 24 0, []), (1, 1, 0, vU, []), (28, 24, 0, vU, []), (3, 0, 0, vU, []), (20, 0, 12, vR 20 0, []), (20, 20, 1, vR 22 0, []), (1, 1, 0, vU, []), (28, 22, 0, vU, []), (44, 178, 2, vU, []), (7, 1, 0, vI 1, []), (40, 34, 0, vU, [])]),
  (64, [(3, 0, 0, vU, []), (3, 0, 0, vU, []), (20, 0, 12, vR 20 0, []), (18, 20, 2, vU, []), (21, 0, 2, vU, []), (3, 0, 0, vU, []), (3, 0, 0, vU, []), (20, 0, 12, vR 20 0, []), (18, 20, 3, vU, []), (21, 0, 6, vU, []), (3, 0, 0, vU, []), (18, 0, 2, vU, []), (45, 1, 0, vU, [])])]
theorem e_X_back_L34 (n : Nat) (v1 : Int32) (σ : Sg) : ab_ev tab_X_back [(178, cp_Coat_become)] [(34, kc_X_back_34 (X_back_L34 n))] finI 300 (ab_row tab_X_back 34) [(vR 0 0), (.inl v1)] [] σ = X_back_L34 (n + 1) v1 σ := rfl
theorem e_X_back (σ : Sg) : ab_ev tab_X_back [(178, cp_Coat_become)] [(34, kc_X_back_34 (X_back_L34 FU))] finI 300 (ab_row tab_X_back 0) [(vR 0 0), vU] [] σ = X_back  σ := rfl
def kc_X_wornTogether_4 {R : Type} (c : Int32 → Int32 → Sg → Option R) : ACut R := fun L st σ => match L, st with
  | [.inr (.inr (.inl (g1, i1))), .inl v1, .inl v2], [] => match Nat.beq g1 0 && Nat.beq i1 0 with
    | true => c v1 v2 σ
    | false => none
  | _, _ => none
def tab_X_wornTogether : List (Nat × List AOp) := [(0, [(0, 0, 0, vI 0, []), (4, 1, 0, vU, []), (0, 0, 0, vI 0, []), (4, 2, 0, vU, []), (40, 4, 1, vU, [])]),
  (4, [(1, 2, 0, vU, []), (3, 0, 0, vU, []), (18, 0, 2, vU, []), (42, 3, 30, vU, []), (40, 12, 1, vU, [])]),
  (12, [(1, 1, 0, vU, []), (3, 0, 0, vU, []), (20, 0, 1, vR 24 0, []), (1, 2, 0, vU, []), (28, 24, 0, vU, []), (18, 1, 3, vU, []), (8, 0, 0, vU, []), (4, 1, 0, vU, []), (7, 2, 0, vI 1, []), (40, 4, 0, vU, [])]),
  (30, [(1, 1, 0, vU, []), (45, 1, 0, vU, [])])]
theorem e_X_wornTogether_L4 (n : Nat) (v1 : Int32) (v2 : Int32) (σ : Sg) : ab_ev tab_X_wornTogether [] [(4, kc_X_wornTogether_4 (X_wornTogether_L4 n))] finI 300 (ab_row tab_X_wornTogether 4) [(vR 0 0), (.inl v1), (.inl v2)] [] σ = X_wornTogether_L4 (n + 1) v1 v2 σ := rfl
theorem e_X_wornTogether (σ : Sg) : ab_ev tab_X_wornTogether [] [(4, kc_X_wornTogether_4 (X_wornTogether_L4 FU))] finI 300 (ab_row tab_X_wornTogether 0) [(vR 0 0), vU, vU] [] σ = X_wornTogether  σ := rfl
def tab_X_count : List (Nat × List AOp) := [(0, [(1, 1, 0, vU, []), (43, 64, 0, vU, [(0, 36), (1, 41), (2, 46), (3, 51), (4, 59)])]),
  (36, [(3, 0, 0, vU, []), (18, 0, 2, vU, []), (45, 1, 0, vU, [])]),
  (41, [(3, 0, 0, vU, []), (44, 46, 1, vU, []), (45, 1, 0, vU, [])]),
  (46, [(3, 0, 0, vU, []), (18, 0, 5, vU, []), (45, 1, 0, vU, [])]),
  (51, [(3, 0, 0, vU, []), (20, 0, 7, vR 6 0, []), (18, 6, 4, vU, []), (45, 1, 0, vU, [])]),
  (59, [(3, 0, 0, vU, []), (18, 0, 6, vU, []), (45, 1, 0, vU, [])]),
  (64, [(0, 0, 0, vI (-2), []), (45, 1, 0, vU, [])])]
theorem e_X_count (p1 : Int32) (σ : Sg) : ab_ev tab_X_count [(46, cp_X_wornTogether)] [] finI 300 (ab_row tab_X_count 0) [(vR 0 0), (.inl p1)] [] σ = X_count p1 σ := rfl
def tab_X_sheet : List (Nat × List AOp) := [(0, [(1, 1, 0, vU, []), (44, 33, 1, vU, []), (41, 0, 17, vU, []), (40, 7, 1, vU, [])]),
  (7, [(1, 2, 0, vU, []), (0, 0, 0, vI (-1), []), (42, 2, 17, vU, []), (40, 12, 1, vU, [])]),
  (12, [(1, 2, 0, vU, []), (0, 0, 0, vI 2, []), (42, 5, 20, vU, []), (40, 17, 1, vU, [])]),
  (17, [(0, 0, 0, vI (-2), []), (45, 1, 0, vU, [])]),
  (20, [(1, 2, 0, vU, []), (0, 0, 0, vI (-1), []), (42, 1, 38, vU, []), (40, 25, 1, vU, [])]),
  (25, [(3, 0, 0, vU, []), (20, 0, 9, vR 26 0, []), (1, 1, 0, vU, []), (28, 26, 0, vU, []), (0, 0, 0, vI (-1), []), (0, 0, 0, vI 0, []), (44, 198, 3, vU, []), (0, 0, 0, vI 1, []), (45, 1, 0, vU, [])]),
  (38, [(1, 3, 0, vU, []), (0, 0, 0, vI 40, []), (42, 5, 47, vU, []), (40, 44, 1, vU, [])]),
  (44, [(0, 0, 0, vI (-2), []), (45, 1, 0, vU, [])]),
  (47, [(1, 3, 0, vU, []), (41, 3, 54, vU, []), (40, 51, 1, vU, [])]),
  (51, [(0, 0, 0, vI (-14), []), (45, 1, 0, vU, [])]),
  (54, [(3, 0, 0, vU, []), (20, 0, 9, vR 26 0, []), (1, 1, 0, vU, []), (28, 26, 0, vU, []), (1, 2, 0, vU, []), (1, 3, 0, vU, []), (44, 198, 3, vU, []), (0, 0, 0, vI 1, []), (45, 1, 0, vU, [])])]
theorem e_X_sheet (p1 : Int32) (p2 : Int32) (p3 : Int32) (σ : Sg) : ab_ev tab_X_sheet [(33, cp_X_isSheet), (198, cp_Sheet_become)] [] finI 300 (ab_row tab_X_sheet 0) [(vR 0 0), (.inl p1), (.inl p2), (.inl p3)] [] σ = X_sheet p1 p2 p3 σ := rfl
def tab_X_cell : List (Nat × List AOp) := [(0, [(1, 1, 0, vU, []), (44, 33, 1, vU, []), (41, 1, 10, vU, []), (40, 7, 1, vU, [])]),
  (7, [(0, 0, 0, vI (-2), []), (45, 1, 0, vU, [])]),
  (10, [(3, 0, 0, vU, []), (20, 0, 9, vR 26 0, []), (1, 1, 0, vU, []), (28, 26, 0, vU, []), (18, 12, 1, vU, []), (0, 0, 0, vI (-1), []), (42, 1, 26, vU, []), (40, 23, 1, vU, [])]),
  (23, [(0, 0, 0, vI (-11), []), (45, 1, 0, vU, [])]),
  (26, [(1, 2, 0, vU, []), (41, 2, 43, vU, []), (40, 30, 1, vU, [])]),
  (30, [(1, 2, 0, vU, []), (3, 0, 0, vU, []), (20, 0, 9, vR 26 0, []), (1, 1, 0, vU, []), (28, 26, 0, vU, []), (18, 12, 2, vU, []), (42, 2, 46, vU, []), (40, 43, 1, vU, [])]),
  (43, [(0, 0, 0, vI (-12), []), (45, 1, 0, vU, [])]),
  (46, [(3, 0, 0, vU, []), (20, 0, 9, vR 26 0, []), (1, 1, 0, vU, []), (28, 26, 0, vU, []), (1, 2, 0, vU, []), (1, 3, 0, vU, []), (44, 199, 3, vU, []), (0, 0, 0, vI 1, []), (45, 1, 0, vU, [])])]
theorem e_X_cell (p1 : Int32) (p2 : Int32) (p3 : Int32) (σ : Sg) : ab_ev tab_X_cell [(33, cp_X_isSheet), (199, cp_Sheet_put)] [] finI 300 (ab_row tab_X_cell 0) [(vR 0 0), (.inl p1), (.inl p2), (.inl p3)] [] σ = X_cell p1 p2 p3 σ := rfl
def tab_X_copy : List (Nat × List AOp) := [(0, [(1, 1, 0, vU, []), (44, 33, 1, vU, []), (41, 0, 14, vU, []), (40, 7, 1, vU, [])]),
  (7, [(1, 3, 0, vU, []), (44, 33, 1, vU, []), (41, 1, 17, vU, []), (40, 14, 1, vU, [])]),
  (14, [(0, 0, 0, vI (-2), []), (45, 1, 0, vU, [])]),
  (17, [(3, 0, 0, vU, []), (20, 0, 9, vR 26 0, []), (1, 1, 0, vU, []), (28, 26, 0, vU, []), (6, 6, 0, vU, []), (3, 0, 0, vU, []), (20, 0, 9, vR 26 0, []), (1, 3, 0, vU, []), (28, 26, 0, vU, []), (6, 7, 0, vU, []), (3, 6, 0, vU, []), (18, 12, 1, vU, []), (0, 0, 0, vI (-1), []), (42, 0, 51, vU, []), (40, 42, 1, vU, [])]),
  (42, [(3, 7, 0, vU, []), (18, 12, 1, vU, []), (0, 0, 0, vI (-1), []), (42, 1, 54, vU, []), (40, 51, 1, vU, [])]),
  (51, [(0, 0, 0, vI (-11), []), (45, 1, 0, vU, [])]),
  (54, [(3, 6, 0, vU, []), (18, 12, 1, vU, []), (3, 7, 0, vU, []), (18, 12, 1, vU, []), (42, 0, 70, vU, []), (40, 67, 1, vU, [])]),
  (67, [(0, 0, 0, vI (-13), []), (45, 1, 0, vU, [])]),
  (70, [(3, 6, 0, vU, []), (1, 2, 0, vU, []), (1, 5, 0, vU, []), (44, 201, 3, vU, []), (41, 0, 93, vU, []), (40, 81, 1, vU, [])]),
  (81, [(3, 7, 0, vU, []), (1, 4, 0, vU, []), (1, 5, 0, vU, []), (44, 201, 3, vU, []), (41, 1, 96, vU, []), (40, 93, 1, vU, [])]),
  (93, [(0, 0, 0, vI (-12), []), (45, 1, 0, vU, [])]),
  (96, [(3, 6, 0, vU, []), (20, 12, 0, vR 13 0, []), (1, 2, 0, vU, []), (3, 7, 0, vU, []), (20, 12, 0, vR 13 0, []), (1, 4, 0, vU, []), (1, 5, 0, vU, []), (31, 13, 13, vU, []), (1, 5, 0, vU, []), (45, 1, 0, vU, [])])]
theorem e_X_copy (p1 : Int32) (p2 : Int32) (p3 : Int32) (p4 : Int32) (p5 : Int32) (σ : Sg) : ab_ev tab_X_copy [(33, cp_X_isSheet), (201, cp_Sheet_hasRow)] [] finI 300 (ab_row tab_X_copy 0) [(vR 0 0), (.inl p1), (.inl p2), (.inl p3), (.inl p4), (.inl p5), vU, vU] [] σ = X_copy p1 p2 p3 p4 p5 σ := rfl
def kc_X_coats_69 {R : Type} (c : Int32 → Int32 → Nat → Int32 → Int32 → Sg → Option R) : ACut R := fun L st σ => match L, st with
  | [.inr (.inr (.inl (g1, i1))), _, _, .inl v3, .inl v4, .inr (.inr (.inl (g2, v5))), .inl v6, .inl v7, _], [] => match Nat.beq g1 0 && Nat.beq i1 0 && Nat.beq g2 12 with
    | true => c v3 v4 v5 v6 v7 σ
    | false => none
  | _, _ => none
def tab_X_coats : List (Nat × List AOp) := [(0, [(1, 1, 0, vU, []), (44, 33, 1, vU, []), (41, 0, 28, vU, []), (40, 7, 1, vU, [])]),
  (7, [(1, 2, 0, vU, []), (41, 2, 28, vU, []), (40, 11, 1, vU, [])]),
  (11, [(1, 2, 0, vU, []), (0, 0, 0, vI 2, []), (42, 4, 28, vU, []), (40, 16, 1, vU, [])]),
  (16, [(1, 4, 0, vU, []), (41, 2, 28, vU, []), (40, 21, 1, vU, [])]),
  (21, [(1, 4, 0, vU, []), (0, 0, 0, vI 8, []), (42, 5, 31, vU, []), (40, 28, 1, vU, [])]),
  (28, [(0, 0, 0, vI (-2), []), (45, 1, 0, vU, [])]),
  (31, [(3, 0, 0, vU, []), (20, 0, 9, vR 26 0, []), (1, 1, 0, vU, []), (28, 26, 0, vU, []), (6, 5, 0, vU, []), (3, 5, 0, vU, []), (18, 12, 1, vU, []), (0, 0, 0, vI (-1), []), (42, 1, 51, vU, []), (40, 48, 1, vU, [])]),
  (48, [(0, 0, 0, vI (-11), []), (45, 1, 0, vU, [])]),
  (51, [(3, 5, 0, vU, []), (18, 12, 1, vU, []), (1, 2, 0, vU, []), (42, 0, 63, vU, []), (40, 60, 1, vU, [])]),
  (60, [(0, 0, 0, vI (-13), []), (45, 1, 0, vU, [])]),
  (63, [(0, 0, 0, vI 0, []), (4, 6, 0, vU, []), (0, 0, 0, vI 0, []), (4, 7, 0, vU, []), (40, 69, 1, vU, [])]),
  (69, [(1, 7, 0, vU, []), (1, 4, 0, vU, []), (42, 3, 139, vU, []), (40, 76, 1, vU, [])]),
  (76, [(1, 3, 0, vU, []), (0, 0, 0, vI 3, []), (1, 7, 0, vU, []), (8, 2, 0, vU, []), (8, 0, 0, vU, []), (4, 8, 0, vU, []), (3, 5, 0, vU, []), (1, 8, 0, vU, []), (0, 0, 0, vI 3, []), (44, 201, 3, vU, []), (41, 1, 98, vU, []), (40, 95, 1, vU, [])]),
  (95, [(0, 0, 0, vI (-12), []), (45, 1, 0, vU, [])]),
  (98, [(3, 0, 0, vU, []), (3, 5, 0, vU, []), (1, 8, 0, vU, []), (44, 200, 2, vU, []), (3, 5, 0, vU, []), (1, 8, 0, vU, []), (0, 0, 0, vI 1, []), (8, 0, 0, vU, []), (44, 200, 2, vU, []), (3, 5, 0, vU, []), (1, 8, 0, vU, []), (0, 0, 0, vI 2, []), (8, 0, 0, vU, []), (44, 200, 2, vU, []), (44, 2, 4, vU, []), (41, 2, 133, vU, []), (40, 130, 1, vU, [])]),
  (130, [(7, 6, 0, vI 1, []), (40, 133, 1, vU, [])]),
  (133, [(7, 7, 0, vI 1, []), (40, 69, 0, vU, [])]),
  (139, [(1, 6, 0, vU, []), (45, 1, 0, vU, [])])]
theorem e_X_coats_L69 (n : Nat) (u1 u2 u8 : AV) (v3 : Int32) (v4 : Int32) (v5 : Nat) (v6 : Int32) (v7 : Int32) (σ : Sg) : ab_ev tab_X_coats [(2, cp_X_coat), (33, cp_X_isSheet), (200, cp_Sheet_item), (201, cp_Sheet_hasRow)] [(69, kc_X_coats_69 (X_coats_L69 n))] finI 300 (ab_row tab_X_coats 69) [(vR 0 0), u1, u2, (.inl v3), (.inl v4), (vR 12 v5), (.inl v6), (.inl v7), u8] [] σ = X_coats_L69 (n + 1) v3 v4 v5 v6 v7 σ := rfl
theorem e_X_coats (p1 : Int32) (p2 : Int32) (p3 : Int32) (p4 : Int32) (σ : Sg) : ab_ev tab_X_coats [(2, cp_X_coat), (33, cp_X_isSheet), (200, cp_Sheet_item), (201, cp_Sheet_hasRow)] [(69, kc_X_coats_69 (X_coats_L69 FU))] finI 300 (ab_row tab_X_coats 0) [(vR 0 0), (.inl p1), (.inl p2), (.inl p3), (.inl p4), vU, vU, vU, vU] [] σ = X_coats p1 p2 p3 p4 σ := rfl
def kc_Coat_isUnder_7 {R : Type} (c : Int32 → Int32 → Int32 → Sg → Option R) : ACut R := fun L st σ => match L, st with
  | [_, .inl v1, .inl v2, .inl v3], [] => c v1 v2 v3 σ
  | _, _ => none
def tab_Coat_isUnder : List (Nat × List AOp) := [(0, [(3, 0, 0, vU, []), (18, 1, 0, vU, []), (4, 2, 0, vU, []), (0, 0, 0, vI 0, []), (4, 3, 0, vU, []), (40, 7, 1, vU, [])]),
  (7, [(1, 3, 0, vU, []), (0, 0, 0, vI 6, []), (42, 3, 42, vU, []), (40, 13, 1, vU, [])]),
  (13, [(1, 2, 0, vU, []), (41, 2, 42, vU, []), (40, 17, 1, vU, [])]),
  (17, [(1, 2, 0, vU, []), (0, 0, 0, vI 6, []), (42, 3, 42, vU, []), (40, 23, 1, vU, [])]),
  (23, [(1, 2, 0, vU, []), (1, 1, 0, vU, []), (42, 1, 30, vU, []), (40, 28, 1, vU, [])]),
  (28, [(0, 0, 0, vI 1, []), (45, 3, 0, vU, [])]),
  (30, [(0, 0, 0, vR 61 0, []), (1, 2, 0, vU, []), (34, 0, 0, vU, []), (4, 2, 0, vU, []), (7, 3, 0, vI 1, []), (40, 7, 0, vU, [])]),
  (42, [(0, 0, 0, vI 0, []), (45, 3, 0, vU, [])])]
theorem e_Coat_isUnder_L7 (n : Nat) (u0 : AV) (v1 : Int32) (v2 : Int32) (v3 : Int32) (σ : Sg) : ab_ev tab_Coat_isUnder [] [(7, kc_Coat_isUnder_7 (Coat_isUnder_L7 n))] finI 300 (ab_row tab_Coat_isUnder 7) [u0, (.inl v1), (.inl v2), (.inl v3)] [] σ = Coat_isUnder_L7 (n + 1) v1 v2 v3 σ := rfl
theorem e_Coat_isUnder (p0 : Nat) (p1 : Int32) (σ : Sg) : ab_ev tab_Coat_isUnder [] [(7, kc_Coat_isUnder_7 (Coat_isUnder_L7 FU))] finI 300 (ab_row tab_Coat_isUnder 0) [(vR 1 p0), (.inl p1), vU, vU] [] σ = Coat_isUnder p0 p1 σ := rfl
def tab_X_taken : List (Nat × List AOp) := [(0, [(1, 2, 0, vU, []), (41, 2, 10, vU, []), (40, 4, 1, vU, [])]),
  (4, [(1, 2, 0, vU, []), (0, 0, 0, vI 6, []), (42, 2, 13, vU, []), (40, 10, 1, vU, [])]),
  (10, [(0, 0, 0, vI (-2), []), (45, 1, 0, vU, [])]),
  (13, [(3, 0, 0, vU, []), (1, 1, 0, vU, []), (44, 32, 2, vU, []), (41, 1, 24, vU, []), (40, 21, 1, vU, [])]),
  (21, [(0, 0, 0, vI (-11), []), (45, 1, 0, vU, [])]),
  (24, [(3, 0, 0, vU, []), (20, 0, 1, vR 24 0, []), (1, 1, 0, vU, []), (28, 24, 0, vU, []), (1, 2, 0, vU, []), (44, 182, 2, vU, []), (41, 0, 49, vU, []), (40, 37, 1, vU, [])]),
  (37, [(3, 0, 0, vU, []), (20, 0, 1, vR 24 0, []), (1, 1, 0, vU, []), (28, 24, 0, vU, []), (18, 1, 1, vU, []), (40, 51, 0, vU, [])]),
  (49, [(0, 0, 0, vI (-13), []), (40, 51, 1, vU, [])]),
  (51, [(45, 1, 0, vU, [])])]
theorem e_X_taken (p1 : Int32) (p2 : Int32) (σ : Sg) : ab_ev tab_X_taken [(32, cp_X_isCoat), (182, cp_Coat_isUnder)] [] finI 300 (ab_row tab_X_taken 0) [(vR 0 0), (.inl p1), (.inl p2)] [] σ = X_taken p1 p2 σ := rfl
def tab_M_in : List (Nat × List AOp) := [(0, [(2, 0, 0, vU, []), (2, 2, 0, vU, []), (15, 0, 0, vU, []), (41, 2, 17, vU, []), (40, 6, 1, vU, [])]),
  (6, [(2, 0, 0, vU, []), (2, 4, 0, vU, []), (15, 0, 0, vU, []), (41, 4, 17, vU, []), (40, 13, 1, vU, [])]),
  (13, [(0, 0, 0, vI 1, []), (40, 18, 0, vU, [])]),
  (17, [(0, 0, 0, vI 0, []), (40, 18, 1, vU, [])]),
  (18, [(45, 3, 0, vU, [])])]
theorem e_M_in (p0 : Int64) (p1 : Int64) (p2 : Int64) (σ : Sg) : ab_ev tab_M_in [] [] finI 300 (ab_row tab_M_in 0) [(.inr (.inl p0)), vU, (.inr (.inl p1)), vU, (.inr (.inl p2)), vU] [] σ = M_in p0 p1 p2 σ := rfl
def tab_M_within : List (Nat × List AOp) := [(0, [(1, 0, 0, vU, []), (1, 1, 0, vU, []), (42, 3, 9, vU, []), (40, 5, 1, vU, [])]),
  (5, [(1, 1, 0, vU, []), (40, 19, 0, vU, [])]),
  (9, [(1, 0, 0, vU, []), (1, 2, 0, vU, []), (42, 5, 18, vU, []), (40, 14, 1, vU, [])]),
  (14, [(1, 2, 0, vU, []), (40, 19, 0, vU, [])]),
  (18, [(1, 0, 0, vU, []), (40, 19, 1, vU, [])]),
  (19, [(45, 1, 0, vU, [])])]
theorem e_M_within (p0 : Int32) (p1 : Int32) (p2 : Int32) (σ : Sg) : ab_ev tab_M_within [] [] finI 300 (ab_row tab_M_within 0) [(.inl p0), (.inl p1), (.inl p2)] [] σ = M_within p0 p1 p2 σ := rfl
def tab_M_isCoat : List (Nat × List AOp) := [(0, [(1, 1, 0, vU, []), (11, 0, 0, vU, []), (0, 0, 0, vL 0, []), (3, 0, 0, vU, []), (18, 30, 10, vU, []), (0, 0, 0, vI 1, []), (8, 1, 0, vU, []), (11, 0, 0, vU, []), (44, 65, 3, vU, []), (45, 3, 0, vU, [])])]
theorem e_M_isCoat (p1 : Int32) (σ : Sg) : ab_ev tab_M_isCoat [(65, cp_M_in)] [] finI 300 (ab_row tab_M_isCoat 0) [(vR 30 0), (.inl p1)] [] σ = M_isCoat p1 σ := rfl
def tab_M_isHour : List (Nat × List AOp) := [(0, [(1, 0, 0, vU, []), (11, 0, 0, vU, []), (0, 0, 0, vL 0, []), (0, 0, 0, vL 23, []), (44, 65, 3, vU, []), (45, 3, 0, vU, [])])]
theorem e_M_isHour (p0 : Int32) (σ : Sg) : ab_ev tab_M_isHour [(65, cp_M_in)] [] finI 300 (ab_row tab_M_isHour 0) [(.inl p0)] [] σ = M_isHour p0 σ := rfl
def tab_M_isOne : List (Nat × List AOp) := [(0, [(1, 0, 0, vU, []), (11, 0, 0, vU, []), (0, 0, 0, vL 0, []), (0, 0, 0, vL 2, []), (44, 65, 3, vU, []), (45, 3, 0, vU, [])])]
theorem e_M_isOne (p0 : Int32) (σ : Sg) : ab_ev tab_M_isOne [(65, cp_M_in)] [] finI 300 (ab_row tab_M_isOne 0) [(.inl p0)] [] σ = M_isOne p0 σ := rfl
def kc_M_isOf_9 {R : Type} (c : Int32 → Sg → Option R) : ACut R := fun L st σ => match L, st with
  | [_, _, .inl v2], [] => c v2 σ
  | _, _ => none
def tab_M_isOf : List (Nat × List AOp) := [(0, [(1, 1, 0, vU, []), (41, 0, 9, vU, []), (40, 4, 1, vU, [])]),
  (4, [(1, 1, 0, vU, []), (0, 0, 0, vI 5, []), (42, 1, 37, vU, []), (40, 9, 1, vU, [])]),
  (9, [(1, 2, 0, vU, []), (11, 0, 0, vU, []), (0, 0, 0, vL 0, []), (0, 0, 0, vL 223, []), (44, 65, 3, vU, []), (41, 0, 35, vU, []), (40, 21, 1, vU, [])]),
  (21, [(1, 2, 0, vU, []), (0, 0, 0, vI 100, []), (9, 1, 0, vU, []), (44, 68, 1, vU, []), (41, 0, 35, vU, []), (40, 31, 1, vU, [])]),
  (31, [(0, 0, 0, vI 1, []), (40, 36, 0, vU, [])]),
  (35, [(0, 0, 0, vI 0, []), (40, 36, 1, vU, [])]),
  (36, [(45, 3, 0, vU, [])]),
  (37, [(3, 0, 0, vU, []), (1, 2, 0, vU, []), (44, 67, 2, vU, []), (45, 3, 0, vU, [])])]
theorem e_M_isOf_J9 (u0 u1 : AV) (v2 : Int32) (σ : Sg) : ab_ev tab_M_isOf [(65, cp_M_in), (67, cp_M_isCoat), (68, cp_M_isHour)] [] finI 300 (ab_row tab_M_isOf 9) [u0, u1, (.inl v2)] [] σ = M_isOf_J9 v2 σ := rfl
theorem e_M_isOf (p1 : Int32) (p2 : Int32) (σ : Sg) : ab_ev tab_M_isOf [(65, cp_M_in), (67, cp_M_isCoat), (68, cp_M_isHour)] [(9, kc_M_isOf_9 (M_isOf_J9))] finI 300 (ab_row tab_M_isOf 0) [(vR 30 0), (.inl p1), (.inl p2)] [] σ = M_isOf p1 p2 σ := rfl
def tab_M_placeOf : List (Nat × List AOp) := [(0, [(0, 0, 0, vI 24, []), (1, 0, 0, vU, []), (0, 0, 0, vI 100, []), (9, 0, 0, vU, []), (8, 2, 0, vU, []), (1, 0, 0, vU, []), (0, 0, 0, vI 100, []), (9, 1, 0, vU, []), (8, 0, 0, vU, []), (45, 1, 0, vU, [])])]
theorem e_M_placeOf (p0 : Int32) (σ : Sg) : ab_ev tab_M_placeOf [] [] finI 300 (ab_row tab_M_placeOf 0) [(.inl p0)] [] σ = M_placeOf p0 σ := rfl
def tab_M_mostOf : List (Nat × List AOp) := [(0, [(1, 0, 0, vU, []), (0, 0, 0, vI 1, []), (42, 1, 10, vU, []), (40, 5, 1, vU, [])]),
  (5, [(0, 0, 0, vI 9, []), (40, 23, 0, vU, [])]),
  (10, [(1, 0, 0, vU, []), (0, 0, 0, vI 3, []), (42, 1, 21, vU, []), (40, 15, 1, vU, [])]),
  (15, [(0, 0, 0, vI 999, []), (40, 23, 0, vU, [])]),
  (21, [(0, 0, 0, vI 99, []), (40, 23, 1, vU, [])]),
  (23, [(45, 1, 0, vU, [])])]
theorem e_M_mostOf (p0 : Int32) (σ : Sg) : ab_ev tab_M_mostOf [] [] finI 300 (ab_row tab_M_mostOf 0) [(.inl p0)] [] σ = M_mostOf p0 σ := rfl
def tab_M_lays : List (Nat × List AOp) := [(0, [(1, 1, 0, vU, []), (41, 1, 17, vU, []), (40, 4, 1, vU, [])]),
  (4, [(3, 0, 0, vU, []), (20, 30, 7, vR 34 0, []), (1, 2, 0, vU, []), (44, 71, 1, vU, []), (1, 3, 0, vU, []), (25, 34, 0, vU, []), (40, 58, 0, vU, [])]),
  (17, [(1, 1, 0, vU, []), (0, 0, 0, vI 4, []), (42, 3, 38, vU, []), (40, 22, 1, vU, [])]),
  (22, [(3, 0, 0, vU, []), (20, 30, 9, vR 36 0, []), (0, 0, 0, vI 3, []), (1, 2, 0, vU, []), (8, 2, 0, vU, []), (1, 1, 0, vU, []), (8, 0, 0, vU, []), (0, 0, 0, vI 1, []), (8, 1, 0, vU, []), (1, 3, 0, vU, []), (25, 36, 0, vU, []), (40, 58, 0, vU, [])]),
  (38, [(1, 1, 0, vU, []), (0, 0, 0, vI 4, []), (42, 1, 53, vU, []), (40, 43, 1, vU, [])]),
  (43, [(3, 0, 0, vU, []), (20, 30, 8, vR 35 0, []), (1, 2, 0, vU, []), (1, 3, 0, vU, []), (25, 35, 0, vU, []), (40, 58, 0, vU, [])]),
  (53, [(3, 0, 0, vU, []), (1, 3, 0, vU, []), (21, 30, 4, vU, []), (40, 58, 1, vU, [])]),
  (58, [(45, 0, 0, vU, [])])]
theorem e_M_lays (p1 : Int32) (p2 : Int32) (p3 : Int32) (σ : Sg) : ab_ev tab_M_lays [(71, cp_M_placeOf)] [] finV 300 (ab_row tab_M_lays 0) [(vR 30 0), (.inl p1), (.inl p2), (.inl p3)] [] σ = M_lays p1 p2 p3 σ := rfl
def tab_M_offOf : List (Nat × List AOp) := [(0, [(3, 0, 0, vU, []), (20, 30, 9, vR 36 0, []), (0, 0, 0, vI 3, []), (1, 1, 0, vU, []), (8, 2, 0, vU, []), (0, 0, 0, vI 1, []), (8, 0, 0, vU, []), (24, 36, 0, vU, []), (1, 2, 0, vU, []), (8, 1, 0, vU, []), (4, 3, 0, vU, []), (1, 3, 0, vU, []), (41, 3, 22, vU, []), (40, 17, 1, vU, [])]),
  (17, [(1, 3, 0, vU, []), (10, 0, 0, vU, []), (40, 23, 0, vU, [])]),
  (22, [(1, 3, 0, vU, []), (40, 23, 1, vU, [])]),
  (23, [(45, 1, 0, vU, [])])]
theorem e_M_offOf (p1 : Int32) (p2 : Int32) (σ : Sg) : ab_ev tab_M_offOf [] [] finI 300 (ab_row tab_M_offOf 0) [(vR 30 0), (.inl p1), (.inl p2), vU] [] σ = M_offOf p1 p2 σ := rfl
def tab_M_byteAt : List (Nat × List AOp) := [(0, [(1, 1, 0, vU, []), (3, 0, 0, vU, []), (18, 30, 18, vU, []), (42, 3, 22, vU, []), (40, 8, 1, vU, [])]),
  (8, [(3, 0, 0, vU, []), (20, 30, 1, vR 31 0, []), (3, 0, 0, vU, []), (18, 30, 17, vU, []), (1, 1, 0, vU, []), (8, 0, 0, vU, []), (24, 31, 0, vU, []), (40, 23, 0, vU, [])]),
  (22, [(0, 0, 0, vI (-1), []), (40, 23, 1, vU, [])]),
  (23, [(45, 1, 0, vU, [])])]
theorem e_M_byteAt (p1 : Int32) (σ : Sg) : ab_ev tab_M_byteAt [] [] finI 300 (ab_row tab_M_byteAt 0) [(vR 30 0), (.inl p1)] [] σ = M_byteAt p1 σ := rfl
def kc_M_next_300 {R : Type} (c : Int32 → Sg → Option R) : ACut R := fun L st σ => match L, st with
  | [.inr (.inr (.inl (g1, i1))), .inl v1, _], [] => match Nat.beq g1 30 && Nat.beq i1 0 with
    | true => c v1 σ
    | false => none
  | _, _ => none
def kc_M_next_160 {R : Type} (c : Int32 → Sg → Option R) : ACut R := fun L st σ => match L, st with
  | [.inr (.inr (.inl (g1, i1))), _, .inl v2], [] => match Nat.beq g1 30 && Nat.beq i1 0 with
    | true => c v2 σ
    | false => none
  | _, _ => none
def kc_M_next_100 {R : Type} (c : Sg → Option R) : ACut R := fun L st σ => match L, st with
  | [.inr (.inr (.inl (g1, i1))), _, _], [] => match Nat.beq g1 30 && Nat.beq i1 0 with
    | true => c  σ
    | false => none
  | _, _ => none
def kc_M_next_0 {R : Type} (c : Sg → Option R) : ACut R := fun L st σ => match L, st with
  | [.inr (.inr (.inl (g1, i1))), _, _], [] => match Nat.beq g1 30 && Nat.beq i1 0 with
    | true => c  σ
    | false => none
  | _, _ => none
def tab_M_next : List (Nat × List AOp) := [(0, [(3, 0, 0, vU, []), (3, 0, 0, vU, []), (18, 30, 19, vU, []), (44, 78, 2, vU, []), (0, 0, 0, vI 32, []), (42, 0, 26, vU, []), (40, 13, 1, vU, [])]),
  (13, [(3, 0, 0, vU, []), (3, 0, 0, vU, []), (18, 30, 19, vU, []), (44, 78, 2, vU, []), (0, 0, 0, vI 10, []), (42, 1, 39, vU, []), (40, 26, 1, vU, [])]),
  (26, [(3, 0, 0, vU, []), (16, 0, 0, vU, []), (18, 30, 19, vU, []), (0, 0, 0, vI 1, []), (8, 0, 0, vU, []), (21, 30, 19, vU, []), (40, 0, 0, vU, [])]),
  (39, [(3, 0, 0, vU, []), (3, 0, 0, vU, []), (18, 30, 19, vU, []), (21, 30, 21, vU, []), (3, 0, 0, vU, []), (3, 0, 0, vU, []), (18, 30, 19, vU, []), (44, 78, 2, vU, []), (4, 1, 0, vU, []), (3, 0, 0, vU, []), (0, 0, 0, vI 4, []), (21, 30, 20, vU, []), (1, 1, 0, vU, []), (41, 3, 81, vU, []), (40, 65, 1, vU, [])]),
  (65, [(3, 0, 0, vU, []), (0, 0, 0, vI 0, []), (21, 30, 20, vU, []), (3, 0, 0, vU, []), (3, 0, 0, vU, []), (18, 30, 18, vU, []), (21, 30, 21, vU, []), (40, 321, 0, vU, [])]),
  (81, [(1, 1, 0, vU, []), (11, 0, 0, vU, []), (0, 0, 0, vL 97, []), (0, 0, 0, vL 122, []), (44, 65, 3, vU, []), (41, 0, 134, vU, []), (40, 95, 1, vU, [])]),
  (95, [(3, 0, 0, vU, []), (0, 0, 0, vI 1, []), (21, 30, 20, vU, []), (40, 100, 1, vU, [])]),
  (100, [(3, 0, 0, vU, []), (3, 0, 0, vU, []), (18, 30, 19, vU, []), (44, 78, 2, vU, []), (11, 0, 0, vU, []), (0, 0, 0, vL 97, []), (0, 0, 0, vL 122, []), (44, 65, 3, vU, []), (41, 0, 321, vU, []), (40, 121, 1, vU, [])]),
  (121, [(3, 0, 0, vU, []), (16, 0, 0, vU, []), (18, 30, 19, vU, []), (0, 0, 0, vI 1, []), (8, 0, 0, vU, []), (21, 30, 19, vU, []), (40, 100, 0, vU, [])]),
  (134, [(1, 1, 0, vU, []), (11, 0, 0, vU, []), (0, 0, 0, vL 48, []), (0, 0, 0, vL 57, []), (44, 65, 3, vU, []), (41, 0, 252, vU, []), (40, 148, 1, vU, [])]),
  (148, [(3, 0, 0, vU, []), (0, 0, 0, vI 2, []), (21, 30, 20, vU, []), (3, 0, 0, vU, []), (0, 0, 0, vL 0, []), (23, 30, 22, vU, []), (0, 0, 0, vI 0, []), (4, 2, 0, vU, []), (40, 160, 1, vU, [])]),
  (160, [(3, 0, 0, vU, []), (3, 0, 0, vU, []), (18, 30, 19, vU, []), (44, 78, 2, vU, []), (11, 0, 0, vU, []), (0, 0, 0, vL 48, []), (0, 0, 0, vL 57, []), (44, 65, 3, vU, []), (41, 0, 235, vU, []), (40, 181, 1, vU, [])]),
  (181, [(3, 0, 0, vU, []), (1, 2, 0, vU, []), (0, 0, 0, vI 4, []), (42, 3, 212, vU, []), (40, 187, 1, vU, [])]),
  (187, [(0, 0, 0, vL 10, []), (3, 0, 0, vU, []), (19, 30, 22, vU, []), (13, 2, 0, vU, []), (3, 0, 0, vU, []), (3, 0, 0, vU, []), (18, 30, 19, vU, []), (44, 78, 2, vU, []), (11, 0, 0, vU, []), (13, 0, 0, vU, []), (0, 0, 0, vL 48, []), (13, 1, 0, vU, []), (40, 216, 0, vU, [])]),
  (212, [(3, 0, 0, vU, []), (19, 30, 22, vU, []), (40, 216, 1, vU, [])]),
  (216, [(23, 30, 22, vU, []), (7, 2, 0, vI 1, []), (3, 0, 0, vU, []), (16, 0, 0, vU, []), (18, 30, 19, vU, []), (0, 0, 0, vI 1, []), (8, 0, 0, vU, []), (21, 30, 19, vU, []), (40, 160, 0, vU, [])]),
  (235, [(3, 0, 0, vU, []), (1, 2, 0, vU, []), (0, 0, 0, vI 4, []), (42, 5, 245, vU, []), (40, 241, 1, vU, [])]),
  (241, [(0, 0, 0, vI 4, []), (40, 246, 0, vU, [])]),
  (245, [(0, 0, 0, vI 2, []), (40, 246, 1, vU, [])]),
  (246, [(21, 30, 20, vU, []), (40, 321, 0, vU, [])]),
  (252, [(1, 1, 0, vU, []), (0, 0, 0, vI 40, []), (42, 0, 300, vU, []), (40, 258, 1, vU, [])]),
  (258, [(1, 1, 0, vU, []), (0, 0, 0, vI 41, []), (42, 0, 300, vU, []), (40, 264, 1, vU, [])]),
  (264, [(1, 1, 0, vU, []), (0, 0, 0, vI 59, []), (42, 0, 300, vU, []), (40, 270, 1, vU, [])]),
  (270, [(1, 1, 0, vU, []), (0, 0, 0, vI 43, []), (42, 0, 300, vU, []), (40, 276, 1, vU, [])]),
  (276, [(1, 1, 0, vU, []), (0, 0, 0, vI 45, []), (42, 0, 300, vU, []), (40, 282, 1, vU, [])]),
  (282, [(1, 1, 0, vU, []), (0, 0, 0, vI 42, []), (42, 0, 300, vU, []), (40, 288, 1, vU, [])]),
  (288, [(1, 1, 0, vU, []), (0, 0, 0, vI 60, []), (42, 0, 300, vU, []), (40, 294, 1, vU, [])]),
  (294, [(1, 1, 0, vU, []), (0, 0, 0, vI 61, []), (42, 1, 321, vU, []), (40, 300, 1, vU, [])]),
  (300, [(3, 0, 0, vU, []), (0, 0, 0, vI 3, []), (21, 30, 20, vU, []), (3, 0, 0, vU, []), (1, 1, 0, vU, []), (11, 0, 0, vU, []), (23, 30, 22, vU, []), (3, 0, 0, vU, []), (16, 0, 0, vU, []), (18, 30, 19, vU, []), (0, 0, 0, vI 1, []), (8, 0, 0, vU, []), (21, 30, 19, vU, []), (40, 321, 1, vU, [])]),
  (321, [(45, 0, 0, vU, [])])]
theorem e_M_next_J300 (u2 : AV) (v1 : Int32) (σ : Sg) : ab_ev tab_M_next [(65, cp_M_in), (78, cp_M_byteAt)] [] finV 300 (ab_row tab_M_next 300) [(vR 30 0), (.inl v1), u2] [] σ = M_next_J300 v1 σ := rfl
theorem e_M_next_L160 (n : Nat) (u1 : AV) (v2 : Int32) (σ : Sg) : ab_ev tab_M_next [(65, cp_M_in), (78, cp_M_byteAt)] [(160, kc_M_next_160 (M_next_L160 n))] finV 300 (ab_row tab_M_next 160) [(vR 30 0), u1, (.inl v2)] [] σ = M_next_L160 (n + 1) v2 σ := rfl
theorem e_M_next_L100 (n : Nat) (u1 u2 : AV) (σ : Sg) : ab_ev tab_M_next [(65, cp_M_in), (78, cp_M_byteAt)] [(100, kc_M_next_100 (M_next_L100 n))] finV 300 (ab_row tab_M_next 100) [(vR 30 0), u1, u2] [] σ = M_next_L100 (n + 1)  σ := rfl
theorem e_M_next_L0 (n : Nat) (u1 u2 : AV) (σ : Sg) : ab_ev tab_M_next [(65, cp_M_in), (78, cp_M_byteAt)] [(0, kc_M_next_0 (M_next_L0 n)), (100, kc_M_next_100 (M_next_L100 FU)), (160, kc_M_next_160 (M_next_L160 FU)), (300, kc_M_next_300 (M_next_J300))] finV 300 (ab_row tab_M_next 0) [(vR 30 0), u1, u2] [] σ = M_next_L0 (n + 1)  σ := rfl
theorem e_M_next (σ : Sg) : ab_ev tab_M_next [(65, cp_M_in), (78, cp_M_byteAt)] [(0, kc_M_next_0 (M_next_L0 FU))] finV 300 [(40, 0, 1, vU, [])] [(vR 30 0), vU, vU] [] σ = M_next  σ := rfl
def tab_M_fail : List (Nat × List AOp) := [(0, [(3, 0, 0, vU, []), (18, 30, 24, vU, []), (41, 1, 20, vU, []), (40, 7, 1, vU, [])]),
  (7, [(3, 0, 0, vU, []), (0, 0, 0, vI 1, []), (22, 30, 24, vU, []), (3, 0, 0, vU, []), (3, 0, 0, vU, []), (18, 30, 21, vU, []), (21, 30, 25, vU, []), (40, 20, 1, vU, [])]),
  (20, [(45, 0, 0, vU, [])])]
theorem e_M_fail (σ : Sg) : ab_ev tab_M_fail [] [] finV 300 (ab_row tab_M_fail 0) [(vR 30 0)] [] σ = M_fail  σ := rfl
def tab_M_isLetter : List (Nat × List AOp) := [(0, [(3, 0, 0, vU, []), (18, 30, 21, vU, []), (1, 1, 0, vU, []), (8, 0, 0, vU, []), (3, 0, 0, vU, []), (18, 30, 19, vU, []), (42, 3, 35, vU, []), (40, 13, 1, vU, [])]),
  (13, [(3, 0, 0, vU, []), (3, 0, 0, vU, []), (18, 30, 21, vU, []), (1, 1, 0, vU, []), (8, 0, 0, vU, []), (44, 78, 2, vU, []), (1, 2, 0, vU, []), (42, 1, 31, vU, []), (40, 27, 1, vU, [])]),
  (27, [(0, 0, 0, vI 1, []), (40, 44, 0, vU, [])]),
  (31, [(0, 0, 0, vI 0, []), (40, 44, 0, vU, [])]),
  (35, [(1, 2, 0, vU, []), (41, 1, 43, vU, []), (40, 39, 1, vU, [])]),
  (39, [(0, 0, 0, vI 1, []), (40, 44, 0, vU, [])]),
  (43, [(0, 0, 0, vI 0, []), (40, 44, 1, vU, [])]),
  (44, [(45, 3, 0, vU, [])])]
theorem e_M_isLetter (p1 : Int32) (p2 : Int32) (σ : Sg) : ab_ev tab_M_isLetter [(78, cp_M_byteAt)] [] finI 300 (ab_row tab_M_isLetter 0) [(vR 30 0), (.inl p1), (.inl p2)] [] σ = M_isLetter p1 p2 σ := rfl
