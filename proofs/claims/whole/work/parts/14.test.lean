def tab_X_isOne : List (Nat × List AOp) := [(0, [(1, 0, 0, vU, []), (41, 2, 13, vU, []), (40, 4, 1, vU, [])]),
  (4, [(1, 0, 0, vU, []), (0, 0, 0, vI 3, []), (42, 3, 13, vU, []), (40, 9, 1, vU, [])]),
  (9, [(0, 0, 0, vI 1, []), (40, 14, 0, vU, [])]),
  (13, [(0, 0, 0, vI 0, []), (40, 14, 1, vU, [])]),
  (14, [(45, 3, 0, vU, [])])]
theorem e_X_isOne (p0 : Int32) (σ : Sg) : ab_ev tab_X_isOne [] [] finI 300 (ab_row tab_X_isOne 0) [(.inl p0)] [] σ = X_isOne p0 σ := rfl
def tab_X_isHour : List (Nat × List AOp) := [(0, [(1, 0, 0, vU, []), (41, 2, 14, vU, []), (40, 4, 1, vU, [])]),
  (4, [(1, 0, 0, vU, []), (0, 0, 0, vI 24, []), (42, 3, 14, vU, []), (40, 10, 1, vU, [])]),
  (10, [(0, 0, 0, vI 1, []), (40, 15, 0, vU, [])]),
  (14, [(0, 0, 0, vI 0, []), (40, 15, 1, vU, [])]),
  (15, [(45, 3, 0, vU, [])])]
theorem e_X_isHour (p0 : Int32) (σ : Sg) : ab_ev tab_X_isHour [] [] finI 300 (ab_row tab_X_isHour 0) [(.inl p0)] [] σ = X_isHour p0 σ := rfl
def tab_X_isPlace : List (Nat × List AOp) := [(0, [(1, 0, 0, vU, []), (41, 2, 28, vU, []), (40, 4, 1, vU, [])]),
  (4, [(1, 0, 0, vU, []), (0, 0, 0, vI 100, []), (9, 0, 0, vU, []), (44, 29, 1, vU, []), (41, 0, 28, vU, []), (40, 14, 1, vU, [])]),
  (14, [(1, 0, 0, vU, []), (0, 0, 0, vI 100, []), (9, 1, 0, vU, []), (44, 30, 1, vU, []), (41, 0, 28, vU, []), (40, 24, 1, vU, [])]),
  (24, [(0, 0, 0, vI 1, []), (40, 29, 0, vU, [])]),
  (28, [(0, 0, 0, vI 0, []), (40, 29, 1, vU, [])]),
  (29, [(45, 3, 0, vU, [])])]
theorem e_X_isPlace (p0 : Int32) (σ : Sg) : ab_ev tab_X_isPlace [(29, cp_X_isOne), (30, cp_X_isHour)] [] finI 300 (ab_row tab_X_isPlace 0) [(.inl p0)] [] σ = X_isPlace p0 σ := rfl
def tab_X_moodAt : List (Nat × List AOp) := [(0, [(1, 1, 0, vU, []), (44, 29, 1, vU, []), (41, 0, 28, vU, []), (40, 7, 1, vU, [])]),
  (7, [(1, 2, 0, vU, []), (44, 30, 1, vU, []), (41, 0, 28, vU, []), (40, 14, 1, vU, [])]),
  (14, [(3, 0, 0, vU, []), (20, 0, 0, vR 23 0, []), (1, 1, 0, vU, []), (0, 0, 0, vI 24, []), (8, 2, 0, vU, []), (1, 2, 0, vU, []), (8, 0, 0, vU, []), (24, 23, 0, vU, []), (40, 30, 0, vU, [])]),
  (28, [(0, 0, 0, vI 50, []), (40, 30, 1, vU, [])]),
  (30, [(45, 1, 0, vU, [])])]
theorem e_X_moodAt (p1 : Int32) (p2 : Int32) (σ : Sg) : ab_ev tab_X_moodAt [(29, cp_X_isOne), (30, cp_X_isHour)] [] finI 300 (ab_row tab_X_moodAt 0) [(vR 0 0), (.inl p1), (.inl p2)] [] σ = X_moodAt p1 p2 σ := rfl
