/-! numbers: an int is below 0 or a number; sums, products, order of numbers -/
theorem na_li (n : Nat) : (OfNat.ofNat n : Int32) = nI n := rfl
theorem na_lt {a b : Nat} (ha : a < 2147483648) (hb : b < 2147483648) : (nI a < nI b) = (a < b) := propext ⟨fun h => Nat.not_le.mp fun q => nI_nlt q ha h, fun h => nI_lt h hb⟩
theorem na_le {a b : Nat} (ha : a < 2147483648) (hb : b < 2147483648) : (nI a ≤ nI b) = (a ≤ b) := propext ⟨fun h => Nat.not_lt.mp fun q => nI_ge q ha h, fun h => nI_le h hb⟩
theorem na_eq {a b : Nat} (ha : a < 2147483648) (hb : b < 2147483648) : (nI a = nI b) = (a = b) := propext ⟨fun h => by
  have h1 := nI_toInt (n := a) ha
  have h2 := nI_toInt (n := b) hb
  rw [h] at h1
  omega, fun h => by rw [h]⟩
theorem na_mul (a b : Nat) : nI a * nI b = nI (a * b) := (Int32.ofNat_mul a b).symm
theorem na_add (a b : Nat) : nI a + nI b = nI (a + b) := (Int32.ofNat_add a b).symm
theorem na_sub {a b : Nat} (h : b ≤ a) : nI a - nI b = nI (a - b) := (Int32.ofNat_sub a b h).symm
theorem na_cl {a : Nat} (h : a < 2147483648) : (nI a).toNatClampNeg = a := nI_clamp h
theorem na_n0 {a : Nat} (h : a < 2147483648) : (nI a < 0) = False := eq_false (nI_pos h)
theorem na_lo {a : Nat} (h : a < 2147483648) : (nI a).toInt64 = lN a := nI_l h
theorem na_or (p : Int32) : p < 0 ∨ ∃ n : Nat, n < 2147483648 ∧ p = nI n := by
  by_cases h : p < 0
  · exact Or.inl h
  · refine Or.inr ⟨p.toInt.toNat, ?_, ?_⟩
    · have := Int32.toInt_lt p
      omega
    · have h0 : 0 ≤ p.toInt := by
        have := Int32.le_iff_toInt_le.mp (Int32.not_lt.mp h)
        simpa using this
      apply Int32.toInt_inj.mp
      have hl := Int32.toInt_lt p
      rw [nI_toInt (by omega)]
      omega
theorem na_neg_lt {p : Int32} (h : p < 0) {n : Nat} (hn : n < 2147483648) : p < nI n := by
  rw [Int32.lt_iff_toInt_lt] at h ⊢
  rw [nI_toInt hn]
  have : (0 : Int32).toInt = 0 := rfl
  omega
theorem na_neg_nlt {p : Int32} (h : p < 0) {n : Nat} (hn : n < 2147483648) : ¬ nI n < p := by
  rw [Int32.lt_iff_toInt_lt] at h ⊢
  rw [nI_toInt hn]
  have : (0 : Int32).toInt = 0 := rfl
  omega
theorem na_neg_ne {p : Int32} (h : p < 0) {n : Nat} (hn : n < 2147483648) : ¬ p = nI n := fun e => by
  rw [e] at h
  exact nI_pos hn h
theorem na_i64_lt (x y : Int32) : (x.toInt64 < y.toInt64) = (x < y) := by
  rw [Int64.lt_iff_toInt_lt, Int32.lt_iff_toInt_lt, Int32.toInt_toInt64, Int32.toInt_toInt64]
theorem s_M_in (x a b : Int32) (σ : Sg) : M_in x.toInt64 a.toInt64 b.toInt64 σ = some (if x < a then 0 else if b < x then 0 else 1, σ) := by
  unfold M_in
  simp only [lg_cmp_lt, lg_cmp_gt, na_i64_lt]
  split
  · rfl
  · split <;> rfl
theorem na_lit64 (n : Nat) (h : n < 2147483648) : (OfNat.ofNat n : Int64) = (nI n).toInt64 := (nI_l h).symm
theorem s_M_isOne (p : Int32) (σ : Sg) : M_isOne p σ = some (if p < 0 then 0 else if nI 2 < p then 0 else 1, σ) := by
  unfold M_isOne
  rw [show (0 : Int64) = (0 : Int32).toInt64 from rfl, show (2 : Int64) = (nI 2).toInt64 from rfl, s_M_in]
  simp only [Option.bind_some]
  split
  · rfl
  · split <;> rfl
theorem s_M_isHour (p : Int32) (σ : Sg) : M_isHour p σ = some (if p < 0 then 0 else if nI 23 < p then 0 else 1, σ) := by
  unfold M_isHour
  rw [show (0 : Int64) = (0 : Int32).toInt64 from rfl, show (23 : Int64) = (nI 23).toInt64 from rfl, s_M_in]
  simp only [Option.bind_some]
  split
  · rfl
  · split <;> rfl
theorem s_X_isOne (p : Int32) (σ : Sg) : X_isOne p σ = some (if p < 0 then 0 else if p < nI 3 then 1 else 0, σ) := by
  unfold X_isOne
  rw [show (3 : Int32) = nI 3 from rfl]
  split
  · rfl
  · split <;> rfl
theorem s_X_isHour (p : Int32) (σ : Sg) : X_isHour p σ = some (if p < 0 then 0 else if p < nI 24 then 1 else 0, σ) := by
  unfold X_isHour
  rw [show (24 : Int32) = nI 24 from rfl]
  split
  · rfl
  · split <;> rfl
/-- the mood of one at an hour -/
theorem s_X_moodAt {p h : Nat} (hp : p < 3) (hh : h < 24) (σ : Sg) : X_moodAt (nI p) (nI h) σ = some (σ 23 0 (24 * p + h), σ) := by
  unfold X_moodAt
  simp (disch := omega) only [s_X_isOne, s_X_isHour, Option.bind_some, na_li, na_mul, na_add, na_lt, na_eq, na_cl, Nat.not_lt_zero, hp, hh, if_true, if_false, Nat.one_ne_zero]
  rw [if_neg (by omega), show p * 24 + h = 24 * p + h from by omega]
