/-! the calls: day's cover and its bare hours -/
section
variable {S : Nat → Nat → Nat} {I : Nat → Nat → Int32} {P : Nat → Txt} {σ τ : Sg}
theorem rigS_lt (hV : SV S) (p h : Nat) : rigS S P p h < 256 := by
  obtain ⟨v1, v2, v3, v4⟩ := hV.1
  have := bsN_lt (fitA S P p h) (S 5 0)
  have : 2 ^ S 5 0 ≤ 2 ^ 8 := Nat.pow_le_pow_right (by omega) v1
  unfold rigS
  omega
/-- the bare hours -/
def baN (S : Nat → Nat → Nat) (P : Nat → Txt) (p : Nat) : Nat := bsN (fun h => decide (rigS S P p h = 0)) 24
theorem x_bare (hX : RX S I P σ) (hV : SV S) (hP : ∀ i, i < S 5 2 → TP (P i)) {p : Nat} (hp : p < 3) : wp (X_bare (nI p) σ) (fun r => r.1 = nI (baN S P p) ∧ RX S I P r.2) := by
  unfold X_bare
  refine loopW (fun N (y : Sg) i => X_bare_L4 N (nI p) (nI (bsN (fun h => decide (rigS S P p h = 0)) i)) (nI i) y) (fun i y => RX S I P y) 24 _ ?_ ?_ 0 σ FU (Nat.zero_le _) hX (FU_big (by omega))
  · rintro N i y hi y1 kk
    have kk : ∀ s', RX S I P s' → wp (X_bare_L4 N (nI p) (nI (bsN (fun h => decide (rigS S P p h = 0)) i + (if decide (rigS S P p i = 0) = true then 2 ^ i else 0))) (nI (i + 1)) s') _ := fun s' a => kk s' a
    show wp (X_bare_L4 (N + 1) (nI p) (nI (bsN (fun h => decide (rigS S P p h = 0)) i)) (nI i) y) _
    rw [X_bare_L4, if_pos (show nI i < 24 from nI_lt (b := 24) hi (by decide))]
    refine wp_bind (x_right y1 hV hP hp hi) ?_
    rintro ⟨r, y'⟩ ⟨r1, r2⟩
    have r1 : r = nI (rigS S P p i) := r1
    subst r1
    have fin := kk y' (y1.fr hV (r2.mo fun g a j q => q.nx))
    have hr := rigS_lt (P := P) hV p i
    rw [show nI i + 1 = nI (i + 1) from (nI_succ i).symm]
    simp only []
    by_cases c : rigS S P p i = 0
    · rw [if_pos (decide_eq_true c)] at fin
      rw [if_pos (by rw [c]; rfl), bsN_or _ (by omega)]
      exact fin
    · rw [if_neg (by rw [decide_eq_false c]; decide)] at fin
      rw [if_neg (na_0 (by omega) c)]
      exact fin
  · rintro N y y1
    show wp (X_bare_L4 (N + 1) (nI p) _ (nI 24) y) _
    rw [X_bare_L4, if_neg (by decide)]
    exact wp_some ⟨rfl, y1⟩
theorem m_bare (hM : RM S I P τ) (hV : SV S) {p : Nat} (hp : p < 3) : wp (M_bareOf (nI p) τ) (fun r => r.1 = nI (baN S P p) ∧ RM S I P r.2) := by
  unfold M_bareOf
  refine loopW (fun N (y : Sg) i => M_bareOf_L4 N (nI p) (nI (bsN (fun h => decide (rigS S P p h = 0)) i)) (nI i) y) (fun i y => RM S I P y) 24 _ ?_ ?_ 0 τ FU (Nat.zero_le _) hM (FU_big (by omega))
  · rintro N i y hi y1 kk
    have kk : ∀ s', RM S I P s' → wp (M_bareOf_L4 N (nI p) (nI (bsN (fun h => decide (rigS S P p h = 0)) i + (if decide (rigS S P p i = 0) = true then 2 ^ i else 0))) (nI (i + 1)) s') _ := fun s' a => kk s' a
    show wp (M_bareOf_L4 (N + 1) (nI p) (nI (bsN (fun h => decide (rigS S P p h = 0)) i)) (nI i) y) _
    rw [M_bareOf_L4, if_pos (show nI i < 24 from nI_lt (b := 24) hi (by decide))]
    refine wp_bind (m_right y1 hV hp hi) ?_
    rintro ⟨r, y'⟩ ⟨r1, r2⟩
    have r1 : r = nI (rigS S P p i) := r1
    subst r1
    have fin := kk y' (y1.fr (r2.mo fun g a j q => q.nm))
    have hr := rigS_lt (P := P) hV p i
    rw [show nI i + 1 = nI (i + 1) from (nI_succ i).symm]
    simp only []
    by_cases c : rigS S P p i = 0
    · rw [if_pos (decide_eq_true c)] at fin
      rw [if_pos (by rw [c]; rfl), bsN_or _ (by omega)]
      exact fin
    · rw [if_neg (by rw [decide_eq_false c]; decide)] at fin
      rw [if_neg (na_0 (by omega) c), zero_shl i (by omega), or_0]
      exact fin
  · rintro N y y1
    show wp (M_bareOf_L4 (N + 1) (nI p) _ (nI 24) y) _
    rw [M_bareOf_L4, if_neg (by decide)]
    exact wp_some ⟨rfl, y1⟩
/-- how many bits a small number has -/
def pqN (v : Nat) : Nat := ctN (fun k => v.testBit k) 8
theorem pqN_le (v : Nat) : pqN v ≤ 8 := ctN_le _ 8
def bqI (p0 : Int32) : Int32 :=
  let x1 := (p0 - (((p0).toUInt32 >>> (((1 : Int32)).toUInt32 &&& 31)).toInt32 &&& (1431655765 : Int32)))
  let x2 := ((x1 &&& (858993459 : Int32)) + (((x1).toUInt32 >>> (((2 : Int32)).toUInt32 &&& 31)).toInt32 &&& (858993459 : Int32)))
  let x3 := ((x2 + ((x2).toUInt32 >>> (((4 : Int32)).toUInt32 &&& 31)).toInt32) &&& (252645135 : Int32))
  let x4 := ((x3 + ((x3).toUInt32 >>> (((8 : Int32)).toUInt32 &&& 31)).toInt32) + (((x3 + ((x3).toUInt32 >>> (((8 : Int32)).toUInt32 &&& 31)).toInt32)).toUInt32 >>> (((16 : Int32)).toUInt32 &&& 31)).toInt32)
  x4 &&& (63 : Int32)
theorem bqI_n : ∀ v, v < 256 → bqI (nI v) = nI (pqN v) := by decide +kernel
theorem s_bitCount {v : Nat} (hv : v < 256) (σ : Sg) : Jint_bitCount (nI v) σ = some (nI (pqN v), σ) := by
  rw [← bqI_n v hv]
  rfl
theorem pc_step : ∀ v, v < 256 → v ≠ 0 → v &&& (v - 1) < v ∧ pqN v = pqN (v &&& (v - 1)) + 1 := by decide +kernel
theorem s_bitsOf {v : Nat} (hv : v < 256) (τ : Sg) : M_bitsOf (nI v) τ = some (nI (pqN v), τ) := by
  have key : ∀ n v a, v < 256 → v < n → M_bitsOf_L4 n (nI a) (nI v) τ = some (nI (a + pqN v), τ) := by
    intro n
    induction n with
    | zero => intro v a _ h; omega
    | succ n ih =>
      intro v a hv hn
      rw [M_bitsOf_L4]
      by_cases c : v = 0
      · subst c
        rw [if_pos (show nI 0 = 0 from rfl)]
        rfl
      · obtain ⟨c1, c2⟩ := pc_step v hv c
        rw [if_neg (na_0 (by omega) c), show nI v - 1 = nI (v - 1) from na_sub (a := v) (b := 1) (by omega), na_and, show nI a + 1 = nI (a + 1) from (nI_succ a).symm, ih (v &&& (v - 1)) (a + 1) (by omega) (by omega), c2, show a + 1 + pqN (v &&& (v - 1)) = a + (pqN (v &&& (v - 1)) + 1) by omega]
  have := key FU v 0 hv (FU_big (by omega))
  rw [Nat.zero_add] at this
  exact this
/-- v covers the hours -/
def cvP (r : Nat → Nat) (v : Nat) : Prop := ∀ h, h < 24 → ¬ r h = 0 → ¬ (r h &&& v) = 0
theorem and_l8 {a b : Nat} (h : a < 256) : a &&& b < 256 := Nat.lt_of_le_of_lt Nat.and_le_left h
theorem x_covers {r : Nat → Nat} (hr : ∀ h, r h < 256) (hc : ∀ h, h < 24 → σ 19 0 h = nI (r h)) (v : Nat) : wp (X_covers (nI v) σ) (fun q => q.2 = σ ∧ ((q.1 = 1 ∧ cvP r v) ∨ (q.1 = 0 ∧ ¬ cvP r v))) := by
  unfold X_covers
  refine loopW (fun N (y : Sg) i => X_covers_L2 N (nI v) (nI i) y) (fun i y => y = σ ∧ ∀ h, h < i → ¬ r h = 0 → ¬ (r h &&& v) = 0) 24 _ ?_ ?_ 0 σ FU (Nat.zero_le _) ⟨rfl, fun h q => absurd q (by omega)⟩ (FU_big (by omega))
  · rintro N i y hi ⟨rfl, y1⟩ kk
    show wp (X_covers_L2 (N + 1) (nI v) (nI i) y) _
    have h1 := hr i
    have h2 := and_l8 (b := v) h1
    rw [X_covers_L2, if_pos (show nI i < 24 from nI_lt (b := 24) hi (by decide)), if_neg (nI_pos (by omega)), na_cl (by omega), if_neg (by omega), hc i hi, na_and, show nI i + 1 = nI (i + 1) from (nI_succ i).symm]
    by_cases c : r i = 0
    · rw [if_pos (by rw [c]; rfl)]
      refine kk y ⟨rfl, fun h q w => ?_⟩
      by_cases e : h = i
      · subst e; exact absurd c w
      · exact y1 h (by omega) w
    · rw [if_neg (na_0 (by omega) c), if_neg (nI_pos (by omega)), if_neg (by omega)]
      by_cases d : (r i &&& v) = 0
      · rw [if_pos (by rw [d]; rfl)]
        exact wp_some ⟨rfl, Or.inr ⟨rfl, fun q => q i hi c d⟩⟩
      · rw [if_neg (na_0 (by omega) d)]
        refine kk y ⟨rfl, fun h q w => ?_⟩
        by_cases e : h = i
        · subst e; exact d
        · exact y1 h (by omega) w
  · rintro N y ⟨rfl, y1⟩
    show wp (X_covers_L2 (N + 1) (nI v) (nI 24) y) _
    rw [X_covers_L2, if_neg (by decide)]
    exact wp_some ⟨rfl, Or.inl ⟨rfl, y1⟩⟩
theorem m_covers {r : Nat → Nat} (hr : ∀ h, r h < 256) (hc : ∀ h, h < 24 → τ 37 0 h = nI (r h)) (v : Nat) : wp (M_covers (nI v) τ) (fun q => q.2 = τ ∧ ((q.1 = 1 ∧ cvP r v) ∨ (q.1 = 0 ∧ ¬ cvP r v))) := by
  unfold M_covers
  refine loopW (fun N (y : Sg) i => M_covers_L2 N (nI v) (nI i) y) (fun i y => y = τ ∧ ∀ h, h < i → ¬ r h = 0 → ¬ (r h &&& v) = 0) 24 _ ?_ ?_ 0 τ FU (Nat.zero_le _) ⟨rfl, fun h q => absurd q (by omega)⟩ (FU_big (by omega))
  · rintro N i y hi ⟨rfl, y1⟩ kk
    show wp (M_covers_L2 (N + 1) (nI v) (nI i) y) _
    have h1 := hr i
    have h2 := and_l8 (b := v) h1
    rw [M_covers_L2, if_pos (show nI i < 24 from nI_lt (b := 24) hi (by decide)), if_neg (nI_pos (by omega)), na_cl (by omega), if_neg (by omega), hc i hi, na_and, show nI i + 1 = nI (i + 1) from (nI_succ i).symm]
    by_cases c : r i = 0
    · rw [if_pos (by rw [c]; rfl)]
      refine kk y ⟨rfl, fun h q w => ?_⟩
      by_cases e : h = i
      · subst e; exact absurd c w
      · exact y1 h (by omega) w
    · rw [if_neg (na_0 (by omega) c), if_neg (nI_pos (by omega)), if_neg (by omega)]
      by_cases d : (r i &&& v) = 0
      · rw [if_pos (by rw [d]; rfl)]
        exact wp_some ⟨rfl, Or.inr ⟨rfl, fun q => q i hi c d⟩⟩
      · rw [if_neg (na_0 (by omega) d)]
        refine kk y ⟨rfl, fun h q w => ?_⟩
        by_cases e : h = i
        · subst e; exact d
        · exact y1 h (by omega) w
  · rintro N y ⟨rfl, y1⟩
    show wp (M_covers_L2 (N + 1) (nI v) (nI 24) y) _
    rw [M_covers_L2, if_neg (by decide)]
    exact wp_some ⟨rfl, Or.inl ⟨rfl, y1⟩⟩
/-- the best cover -/
def bqP (r : Nat → Nat) (M b : Nat) : Prop := b < M ∧ cvP r b ∧ ∀ v, v < M → cvP r v → pqN b < pqN v ∨ (pqN b = pqN v ∧ b ≤ v)
theorem bqP_u {r : Nat → Nat} {M b c : Nat} (h : bqP r M b) (k : bqP r M c) : b = c := by
  have h1 := h.2.2 c k.1 k.2.1
  have h2 := k.2.2 b h.1 h.2.1
  omega
theorem full_and {n x : Nat} (h : x < 2 ^ n) : x &&& (2 ^ n - 1) = x := by
  rw [Nat.and_two_pow_sub_one_eq_mod, Nat.mod_eq_of_lt h]
theorem cv_full {r : Nat → Nat} {n : Nat} (hr : ∀ h, r h < 2 ^ n) : cvP r (2 ^ n - 1) := fun h _ w => by rw [full_and (hr h)]; exact w
end
