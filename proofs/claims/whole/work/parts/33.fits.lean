/-! a coat at a mood and an hour, on both sides -/
def b2 (c : Bool) : Int32 := if c = true then 1 else 0
theorem b2_0 (c : Bool) : (b2 c = 0) = (c = false) := b01 c
def CB (kd nb ct wn : Nat) : Prop := kd < 6 ∧ nb < 10 ∧ ct < 100 ∧ wn ≤ 999
/-- a coat's cells on the class's side -/
def CT (kd nb ct wn c : Nat) (σ : Sg) : Prop := σ 1 c 0 = nI kd ∧ σ 1 c 1 = nI nb ∧ σ 1 c 2 = nI ct ∧ σ 1 c 3 = nI wn
theorem CT.un {kd nb ct wn c i : Nat} {σ σ' : Sg} (h : CT kd nb ct wn c σ) (u : Un i σ σ') : CT kd nb ct wn c σ' := by
  have e : ∀ j, σ' 1 c j = σ 1 c j := fun j => u 1 c j (fun q => by cases q.1) (fun q => by cases q.1)
  exact ⟨(e 0).trans h.1, (e 1).trans h.2.1, (e 2).trans h.2.2.1, (e 3).trans h.2.2.2⟩
theorem s_fitsAt {P : Txt} {i c kd nb ct wn m h : Nat} {σ : Sg} (hT : TX P i σ) (hP : TP P) (hC : CT kd nb ct wn c σ) (hB : CB kd nb ct wn) (hm : m < 1000) : ∃ σ', X_fitsAt i c (nI m) (nI h) σ = some (b2 (fitN P kd nb ct wn m h), σ') ∧ Un i σ σ' := by
  obtain ⟨σ1, e1, u1⟩ := s_value (h := h) hT hP (k := 0) (by omega) hC.2.1 hC.2.2.1 hC.2.2.2 (by have := hB.2.2.1; omega) (m := m) (by omega)
  have hC1 := hC.un u1
  unfold X_fitsAt
  rw [show Text_value i 0 c (nI m) (nI h) σ = _ from e1]
  simp only [Option.bind_some]
  rw [s_Coat_fits hC1.1 hC1.2.1 hC1.2.2.1 hB.1 (by have := hB.2.1; omega) (by have := hB.2.2.1; omega) hm (vaN_le _ _ _ _ _ _ _)]
  simp only [Option.bind_some, bi1]
  exact ⟨σ1, rfl, u1⟩
theorem s_Coat_fine {P : Txt} {c kd nb ct wn m h : Nat} {σ : Sg} (hC : CT kd nb ct wn c σ) (hB : CB kd nb ct wn) : Coat_fine c (nI (vaN P 1 nb ct wn m h)) σ = some (nI (fineN P kd nb ct wn m h), σ) := by
  have hv := vaN_le P 1 nb ct wn m h
  have hx : kd = 0 ∨ kd = 1 ∨ kd = 2 ∨ kd = 3 ∨ kd = 4 ∨ kd = 5 := by have := hB.1; omega
  unfold Coat_fine fineN
  rw [hC.1, hC.2.1]
  simp (disch := omega) only [na_li, na_eq, s_bounded, Option.bind_some, na_add, na_mul, pk_div]
  rcases hx with q | q | q | q | q | q <;> subst q <;> simp only [Nat.reduceEqDiff, reduceIte, Nat.zero_ne_one]
  · rw [bdS_nI _ (by omega)]
  · rw [bdS_nI _ (by omega)]
theorem s_Coat_cost {P : Txt} {c kd nb ct wn m h : Nat} {σ : Sg} (hC : CT kd nb ct wn c σ) (hB : CB kd nb ct wn) : Coat_cost c (nI (vaN P 2 nb ct wn m h)) σ = some (nI (costN P kd nb ct wn m h), σ) := by
  have hv := vaN_le P 2 nb ct wn m h
  have hn := hB.2.1
  have hx : kd = 0 ∨ kd = 1 ∨ kd = 2 ∨ kd = 3 ∨ kd = 4 ∨ kd = 5 := by have := hB.1; omega
  unfold Coat_cost costN
  rw [hC.1, hC.2.1]
  simp (disch := omega) only [na_li, na_eq, s_bounded, Option.bind_some, na_add, na_mul, pk_div]
  rcases hx with q | q | q | q | q | q <;> subst q <;> simp only [Nat.reduceEqDiff, reduceIte, Nat.zero_ne_one]
  · rw [bdS_nI _ (by omega)]
  · rw [bdS_nI _ (by omega)]
  · rw [bdS_nI _ (by omega)]
/-- whether a number is below another one, and none below 0 -/
def irB (p : Int32) (N : Nat) : Bool := decide (¬ p < 0 ∧ p < nI N)
theorem irB_t {p : Int32} {N : Nat} (hN : N < 2147483648) (h : irB p N = true) : ∃ k, k < N ∧ p = nI k := by
  unfold irB at h
  simp only [decide_eq_true_eq] at h
  rcases na_or p with q | ⟨n, hn, rfl⟩
  · exact absurd q h.1
  · exact ⟨n, by have := h.2; rwa [na_lt hn hN] at this, rfl⟩
theorem irB_n {k N : Nat} (hk : k < 2147483648) (hN : N < 2147483648) : irB (nI k) N = decide (k < N) := by
  unfold irB
  simp only [na_lt hk hN, nI_pos hk, not_false_eq_true, true_and]
theorem irB_neg {p : Int32} {N : Nat} (h : p < 0) : irB p N = false := by
  unfold irB
  simp [h]
theorem s_X_isCoat {n : Nat} {σ : Sg} (h : σ 0 0 2 = nI n) (hn : n ≤ 8) (p : Int32) : X_isCoat p σ = some (b2 (irB p n), σ) := by
  unfold X_isCoat
  rw [h]
  rcases na_or p with q | ⟨k, hk, rfl⟩
  · rw [if_pos q, irB_neg q]; rfl
  · rw [irB_n hk (by omega), if_neg (nI_pos hk)]
    by_cases c : k < n
    · rw [if_pos (nI_lt c (by omega)), if_pos (show nI k < 8 from nI_lt (b := 8) (by omega) (by decide))]
      simp [b2, c]
    · rw [if_neg (nI_nlt (by omega) hk)]
      simp [b2, c]
theorem s_M_in0 (p : Int32) {N : Nat} (hN : N + 1 < 2147483648) (σ : Sg) : M_in p.toInt64 0 (nI N).toInt64 σ = some (b2 (irB p (N + 1)), σ) := by
  rw [show (0 : Int64) = (0 : Int32).toInt64 from rfl, s_M_in]
  rcases na_or p with q | ⟨k, hk, rfl⟩
  · rw [if_pos q, irB_neg q]; rfl
  · rw [irB_n hk hN, if_neg (nI_pos hk)]
    by_cases c : N < k
    · rw [if_pos (nI_lt c hk)]
      have : ¬ k < N + 1 := by omega
      simp [b2, this]
    · rw [if_neg (nI_nlt (by omega) (by omega))]
      have : k < N + 1 := by omega
      simp [b2, this]
theorem b2_and (c : Bool) : b2 c &&& 1 = b2 c := bi1 c
theorem s_M_isCoat {n : Nat} {σ : Sg} (h : σ 30 0 10 = nI n) (hn : n ≤ 8) (p : Int32) : M_isCoat p σ = some (b2 (irB p n), σ) := by
  unfold M_isCoat
  rw [h]
  cases n with
  | zero =>
    rw [show (0 : Int64) = (0 : Int32).toInt64 from rfl, s_M_in]
    simp only [Option.bind_some]
    have : irB p 0 = false := by
      cases q : irB p 0 with
      | false => rfl
      | true => obtain ⟨k, hk, _⟩ := irB_t (by omega) q; omega
    rw [this]
    by_cases q : p < 0
    · rw [if_pos q]; rfl
    · rw [if_neg q, if_pos (show nI 0 - 1 < p from by
        rw [Int32.lt_iff_toInt_lt]
        have h1 := Int32.not_lt.mp q
        rw [Int32.le_iff_toInt_le] at h1
        have h2 : (nI 0 - 1).toInt = -1 := rfl
        have h3 : (0 : Int32).toInt = 0 := rfl
        omega)]
      rfl
  | succ n =>
    rw [nI_pred, s_M_in0 p (by omega)]
    simp only [Option.bind_some, b2_and]
theorem s_M_isHour' (p : Int32) (σ : Sg) : M_isHour p σ = some (b2 (irB p 24), σ) := by
  unfold M_isHour
  rw [show (23 : Int64) = (nI 23).toInt64 from rfl, s_M_in0 p (by omega)]
  simp only [Option.bind_some, b2_and]
theorem s_M_isOne' (p : Int32) (σ : Sg) : M_isOne p σ = some (b2 (irB p 3), σ) := by
  unfold M_isOne
  rw [show (2 : Int64) = (nI 2).toInt64 from rfl, s_M_in0 p (by omega)]
  simp only [Option.bind_some, b2_and]
theorem irB_x {N : Nat} (hN : N < 2147483648) (p : Int32) (σ : Sg) : (if p < 0 then some ((0 : Int32), σ) else if p < nI N then some ((1 : Int32), σ) else some ((0 : Int32), σ)) = some (b2 (irB p N), σ) := by
  rcases na_or p with q | ⟨k, hk, rfl⟩
  · rw [if_pos q, irB_neg q]; rfl
  · rw [irB_n hk hN, if_neg (nI_pos hk)]
    by_cases c : k < N
    · rw [if_pos (nI_lt c hN)]; simp [b2, c]
    · rw [if_neg (nI_nlt (by omega) hk)]; simp [b2, c]
theorem s_X_isHour' (p : Int32) (σ : Sg) : X_isHour p σ = some (b2 (irB p 24), σ) := irB_x (N := 24) (by omega) p σ
theorem s_X_isOne' (p : Int32) (σ : Sg) : X_isOne p σ = some (b2 (irB p 3), σ) := irB_x (N := 3) (by omega) p σ
theorem s_X_isSheet (p : Int32) (σ : Sg) : X_isSheet p σ = some (b2 (irB p 4), σ) := irB_x (N := 4) (by omega) p σ
/-- what telling of a coat writes in the reference -/
def SF : Nat → Nat → Nat → Prop := fun g _ j => g = 30 ∧ 11 ≤ j ∧ j ≤ 25
/-- a coat's cells on the reference's side -/
def CM (kd nb ct wn c : Nat) (τ : Sg) : Prop := τ 35 0 c = nI kd ∧ τ 36 0 (3 * c) = nI nb ∧ τ 36 0 (3 * c + 1) = nI ct ∧ τ 36 0 (3 * c + 2) = nI wn
theorem CM.fr {kd nb ct wn c : Nat} {τ τ' : Sg} (h : CM kd nb ct wn c τ) (f : Fr SF τ τ') : CM kd nb ct wn c τ' := by
  unfold CM
  rw [f _ _ _ (by unfold SF; omega), f _ _ _ (by unfold SF; omega), f _ _ _ (by unfold SF; omega), f _ _ _ (by unfold SF; omega)]
  exact h
theorem s_M_offOf {kd nb ct wn c m : Nat} {τ : Sg} (hC : CM kd nb ct wn c τ) (hB : CB kd nb ct wn) (hc : c < 8) (hm : m < 1000) : M_offOf (nI c) (nI m) τ = some (nI (offN ct m), τ) := by
  have := hB.2.2.1
  unfold M_offOf
  rw [show (3 : Int32) = nI 3 from rfl, na_mul, show (1 : Int32) = nI 1 from rfl, na_add, if_neg (nI_pos (by omega)), na_cl (by omega), if_neg (by omega), hC.2.2.1]
  unfold offN
  by_cases q : m < ct
  · rw [if_pos q, na_sub (by omega), if_neg (nI_pos (by omega))]
  · rw [if_neg q]
    by_cases e : m = ct
    · subst e
      rw [na_sub (Nat.le_refl _), if_neg (nI_pos (by omega))]
    · rw [if_pos (pk_sneg (by omega) (by omega)), ← na_sub (by omega), Int32.neg_sub]
theorem s_Msays {P : Txt} {i k kd nb ct wn c m h : Nat} {τ : Sg} (hr : τ 30 0 4 = nI i) (hT : MText P i τ) (hC : CM kd nb ct wn c τ) (hB : CB kd nb ct wn) (hc : c < 8) (hm : m < 1000) (hk : k < 3) : ∃ τ', M_says (nI k) (nI c) (nI m) (nI h) τ = some (nI (vaN P k nb ct wn m h), τ') ∧ Fr SF τ τ' := by
  have hct := hB.2.2.1
  have hP := hT.tp
  obtain ⟨b, sz, a, hb, hM, hs⟩ := hT
  unfold M_says
  rw [show (3 : Int32) = nI 3 from rfl, na_mul, show (1 : Int32) = nI 1 from rfl, na_add, show (2 : Int32) = nI 2 from rfl, na_add, if_neg (nI_pos (by omega)), na_cl (by omega), if_neg (by omega), if_neg (nI_pos (by omega)), na_cl (by omega), if_neg (by omega), if_neg (nI_pos (by omega)), na_cl (by omega), if_neg (by omega)]
  simp only []
  generalize hg : (upd3 (upd3 (upd3 (upd3 (upd3 τ 30 0 11 (τ 36 0 (3 * c + 1))) 30 0 12 (nI m)) 30 0 13 (upd3 (upd3 τ 30 0 11 (τ 36 0 (3 * c + 1))) 30 0 12 (nI m) 36 0 (3 * c))) 30 0 14 (nI h)) 30 0 15 (upd3 (upd3 (upd3 (upd3 τ 30 0 11 (τ 36 0 (3 * c + 1))) 30 0 12 (nI m)) 30 0 13 (upd3 (upd3 τ 30 0 11 (τ 36 0 (3 * c + 1))) 30 0 12 (nI m) 36 0 (3 * c))) 30 0 14 (nI h) 36 0 (3 * c + 2))) = τ5
  have f5 : Fr SF τ τ5 := by
    rw [← hg]
    exact ((((Fr.rf.up (by unfold SF; omega)).up (by unfold SF; omega)).up (by unfold SF; omega)).up (by unfold SF; omega)).up (by unfold SF; omega)
  have c11 : τ5 30 0 11 = nI ct := by rw [← hg]; simp [upd3]; exact hC.2.2.1
  have c12 : τ5 30 0 12 = nI m := by rw [← hg]; simp [upd3]
  have c13 : τ5 30 0 13 = nI nb := by rw [← hg]; simp [upd3]; exact hC.2.1
  have c14 : τ5 30 0 14 = nI h := by rw [← hg]; simp [upd3]
  have c15 : τ5 30 0 15 = nI wn := by rw [← hg]; simp [upd3]; exact hC.2.2.2
  rw [s_M_offOf (hC.fr f5) hB hc hm]
  simp only [Option.bind_some]
  have f7 : Fr SF τ (upd3 τ5 30 0 16 (nI (offN ct m))) := f5.up (by unfold SF; omega)
  have hE : EM (envN nb ct wn m h) (upd3 τ5 30 0 16 (nI (offN ct m))) := by
    intro k hk
    have : k = 0 ∨ k = 1 ∨ k = 2 ∨ k = 3 ∨ k = 4 ∨ k = 5 := by omega
    rcases this with q | q | q | q | q | q <;> subst q
    · rw [u3n _ _ _ _ _ (by omega)]; exact c11
    · rw [u3n _ _ _ _ _ (by omega)]; exact c12
    · rw [u3n _ _ _ _ _ (by omega)]; exact c13
    · rw [u3n _ _ _ _ _ (by omega)]; exact c14
    · rw [u3n _ _ _ _ _ (by omega)]; exact c15
    · rw [u3s]; rfl
  have hM7 : MTx b sz i (upd3 τ5 30 0 16 (nI (offN ct m))) := ⟨hM.1, by rw [f7 _ _ _ (by unfold SF; omega)]; exact hM.2.1, fun p hp => by rw [f7 _ _ _ (by unfold SF; omega)]; exact hM.2.2 p hp⟩
  rw [f7 30 0 4 (by unfold SF; omega), hr]
  obtain ⟨⟨r, τ8⟩, e8, k1, k2⟩ := s_Mread hb hM7 hE hk
  rw [hs] at k2
  rw [e8]
  simp only [Option.bind_some, s_Mwithin]
  refine ⟨τ8, ?_, f7.tr (k1.mo fun g a j q => by unfold SR2 at q; unfold SF; omega)⟩
  have hpv : pv P k (envN nb ct wn m h) = r := pv_eq k2.2
  rw [← hpv, (bdS_N _).1]
  rfl
theorem s_Mfits {P : Txt} {i kd nb ct wn c m h : Nat} {τ : Sg} (hr : τ 30 0 4 = nI i) (hT : MText P i τ) (hC : CM kd nb ct wn c τ) (hB : CB kd nb ct wn) (hc : c < 8) (hm : m < 1000) : ∃ τ', M_fits (nI c) (nI m) (nI h) τ = some (b2 (fitN P kd nb ct wn m h), τ') ∧ Fr SF τ τ' := by
  obtain ⟨τ1, e1, f1⟩ := s_Msays (h := h) hr hT hC hB hc hm (k := 0) (by omega)
  have hv := vaN_le P 0 nb ct wn m h
  have hct := hB.2.2.1
  have hnb := hB.2.1
  have ho : offN ct m < 1000 := by unfold offN; split <;> omega
  have hx : kd = 0 ∨ kd = 1 ∨ kd = 2 ∨ kd = 3 ∨ kd = 4 ∨ kd = 5 := by have := hB.1; omega
  unfold M_fits
  rw [if_neg (show ¬ nI c = -1 from fun q => absurd q (by
    intro q
    have := nI_pos (n := c) (by omega)
    rw [q] at this
    exact this (by decide))), if_neg (nI_pos (by omega)), na_cl (by omega), if_neg (by omega), show M_says 0 (nI c) (nI m) (nI h) τ = _ from e1]
  simp only [Option.bind_some]
  rw [s_M_offOf (hC.fr f1) hB hc hm]
  simp only [Option.bind_some]
  have key : ∀ w : Bool, w = decide (offN ct m ≤ 10 + vaN P 0 nb ct wn m h) → M_fits_J48 (nI c) (nI m) (τ 35 0 c) (nI (vaN P 0 nb ct wn m h)) (nI (offN ct m)) (b2 w) τ1 = some (b2 (fitN P kd nb ct wn m h), τ1) := by
    intro w hw
    rw [hC.1]
    unfold M_fits_J48 M_fits_J62 M_fits_J101 fitN
    rw [show (10 : Int32) = nI 10 from rfl, show (2 : Int32) * nI (offN ct m) = nI (2 * offN ct m) from na_mul 2 _, show (3 : Int32) * nI c = nI (3 * c) from na_mul 3 _, pk_rem (by omega) (by omega) (by omega), na_cl (by omega), (hC.fr f1).2.1, if_neg (nI_pos (by omega)), if_neg (show ¬ 24 ≤ 3 * c by omega)]
    simp (disch := omega) only [na_li, na_lt, na_eq]
    rcases hx with q | q | q | q | q | q <;> subst q <;> simp only [Nat.reduceEqDiff, reduceIte, Nat.zero_ne_one]
    · by_cases c1 : vaN P 0 nb ct wn m h < offN ct m
      · rw [if_pos c1, decide_eq_false (by omega)]; rfl
      · rw [if_neg c1, decide_eq_true (by omega)]; rfl
    · by_cases c1 : vaN P 0 nb ct wn m h < 2 * offN ct m
      · rw [if_pos c1, decide_eq_false (by omega)]; rfl
      · rw [if_neg c1, decide_eq_true (by omega)]; rfl
    · rw [hw]
      exact congrArg (fun x => some (x, τ1)) (b2_and _)
    · by_cases c1 : vaN P 0 nb ct wn m h < 2 * offN ct m
      · rw [if_pos c1, decide_eq_false (by omega)]; rfl
      · rw [if_neg c1, decide_eq_true (show 2 * offN ct m ≤ _ by omega)]
        by_cases c2 : m < 50
        · rw [if_pos c2, decide_eq_true c2]; rfl
        · rw [if_neg c2, decide_eq_false c2]; rfl
    · rw [hw]
      by_cases c1 : 10 + vaN P 0 nb ct wn m h < offN ct m
      · rw [decide_eq_false (show ¬ offN ct m ≤ _ by omega), decide_eq_true c1]; rfl
      · rw [decide_eq_true (show offN ct m ≤ _ by omega), decide_eq_false c1]; rfl
    · by_cases c1 : vaN P 0 nb ct wn m h < offN ct m
      · rw [if_pos c1, decide_eq_false (show ¬ offN ct m ≤ _ by omega)]
        by_cases c2 : m % 10 = nb
        · rw [if_pos c2, decide_eq_true c2]; rfl
        · rw [if_neg c2, decide_eq_false c2]; rfl
      · rw [if_neg c1, decide_eq_true (show offN ct m ≤ _ by omega)]; rfl
  by_cases c1 : 10 + vaN P 0 nb ct wn m h < offN ct m
  · rw [if_pos (show (10 : Int32) + nI (vaN P 0 nb ct wn m h) < nI (offN ct m) by rw [show (10 : Int32) = nI 10 from rfl, na_add]; exact nI_lt c1 (by omega))]
    have := key false (by rw [decide_eq_false (by omega)])
    exact ⟨τ1, this, f1⟩
  · rw [if_neg (show ¬ (10 : Int32) + nI (vaN P 0 nb ct wn m h) < nI (offN ct m) by rw [show (10 : Int32) = nI 10 from rfl, na_add]; exact nI_nlt (by omega) (by omega))]
    have := key true (by rw [decide_eq_true (by omega)])
    exact ⟨τ1, this, f1⟩
theorem nI_n1 {c : Nat} (hc : c < 2147483648) : ¬ nI c = -1 := fun q => by
  have := nI_pos hc
  rw [q] at this
  exact this (by decide)
theorem s_MfineOf {P : Txt} {i kd nb ct wn c m h : Nat} {τ : Sg} (hr : τ 30 0 4 = nI i) (hT : MText P i τ) (hC : CM kd nb ct wn c τ) (hB : CB kd nb ct wn) (hc : c < 8) (hm : m < 1000) : ∃ τ', M_fineOf (nI c) (nI m) (nI h) τ = some (nI (fineN P kd nb ct wn m h), τ') ∧ Fr SF τ τ' := by
  obtain ⟨τ1, e1, f1⟩ := s_Msays (h := h) hr hT hC hB hc hm (k := 1) (by omega)
  have hv := vaN_le P 1 nb ct wn m h
  have hx : kd = 0 ∨ kd = 1 ∨ kd = 2 ∨ kd = 3 ∨ kd = 4 ∨ kd = 5 := by have := hB.1; omega
  have w1 : M_within (nI (vaN P 1 nb ct wn m h) + 2) 0 99 τ1 = some (nI (min 99 (vaN P 1 nb ct wn m h + 2)), τ1) := by
    rw [show (2 : Int32) = nI 2 from rfl, na_add, s_Mwithin, bdS_nI _ (by omega)]
  have w3 : M_within (2 * (nI (vaN P 1 nb ct wn m h) + 2)) 0 99 τ1 = some (nI (min 99 (2 * (vaN P 1 nb ct wn m h + 2))), τ1) := by
    rw [show (2 : Int32) = nI 2 from rfl, na_add, na_mul, s_Mwithin, bdS_nI _ (by omega)]
  have w2 : M_within (nI (vaN P 1 nb ct wn m h) / 2) 0 99 τ1 = some (nI (vaN P 1 nb ct wn m h / 2), τ1) := by
    rw [show (2 : Int32) = nI 2 from rfl, pk_div (by omega) (by omega) (by omega), s_Mwithin, bdS_nI _ (by omega), Nat.min_eq_right (by omega)]
  have w0 : M_within (nI (vaN P 1 nb ct wn m h)) 0 99 τ1 = some (nI (vaN P 1 nb ct wn m h), τ1) := by
    rw [s_Mwithin, bdS_nI _ (by omega), Nat.min_eq_right (by omega)]
  unfold M_fineOf fineN
  rw [if_neg (nI_n1 (by omega)), if_neg (nI_pos (by omega)), na_cl (by omega), if_neg (by omega), show M_says 1 (nI c) (nI m) (nI h) τ = _ from e1, hC.1, show (3 : Int32) * nI c = nI (3 * c) from na_mul 3 _, na_cl (by omega), if_neg (nI_pos (show c < 2147483648 by omega)), if_neg (show ¬ 8 ≤ c by omega), if_neg (nI_pos (show 3 * c < 2147483648 by omega)), if_neg (show ¬ 24 ≤ 3 * c by omega), hC.2.1]
  simp only [Option.bind_some, w0, w1, w2, w3]
  simp (disch := omega) only [na_li, na_eq]
  rcases hx with q | q | q | q | q | q <;> subst q <;> simp only [Nat.reduceEqDiff, reduceIte, Nat.zero_ne_one]
  · exact ⟨τ1, rfl, f1⟩
  · exact ⟨τ1, rfl, f1⟩
  · exact ⟨τ1, rfl, f1⟩
  · exact ⟨τ1, rfl, f1⟩
  · exact ⟨τ, rfl, Fr.rf⟩
  · exact ⟨τ, rfl, Fr.rf⟩
theorem s_McostOf {P : Txt} {i kd nb ct wn c m h : Nat} {τ : Sg} (hr : τ 30 0 4 = nI i) (hT : MText P i τ) (hC : CM kd nb ct wn c τ) (hB : CB kd nb ct wn) (hc : c < 8) (hm : m < 1000) : ∃ τ', M_costOf (nI c) (nI m) (nI h) τ = some (nI (costN P kd nb ct wn m h), τ') ∧ Fr SF τ τ' := by
  obtain ⟨τ1, e1, f1⟩ := s_Msays (h := h) hr hT hC hB hc hm (k := 2) (by omega)
  have hv := vaN_le P 2 nb ct wn m h
  have hnb := hB.2.1
  have hx : kd = 0 ∨ kd = 1 ∨ kd = 2 ∨ kd = 3 ∨ kd = 4 ∨ kd = 5 := by have := hB.1; omega
  have j47 : M_costOf_J47 (nI c) (nI (vaN P 2 nb ct wn m h)) τ1 = some (nI (min 99 (vaN P 2 nb ct wn m h + nb)), τ1) := by
    unfold M_costOf_J47
    rw [show (3 : Int32) * nI c = nI (3 * c) from na_mul 3 _, na_cl (by omega), if_neg (nI_pos (show 3 * c < 2147483648 by omega)), if_neg (show ¬ 24 ≤ 3 * c by omega), (hC.fr f1).2.1, na_add, s_Mwithin, bdS_nI _ (by omega)]
    rfl
  have w3 : M_within (nI (vaN P 2 nb ct wn m h) + 3) 0 99 τ1 = some (nI (min 99 (vaN P 2 nb ct wn m h + 3)), τ1) := by
    rw [show (3 : Int32) = nI 3 from rfl, na_add, s_Mwithin, bdS_nI _ (by omega)]
  have w0 : M_within (nI (vaN P 2 nb ct wn m h)) 0 99 τ1 = some (nI (vaN P 2 nb ct wn m h), τ1) := by
    rw [s_Mwithin, bdS_nI _ (by omega), Nat.min_eq_right (by omega)]
  unfold M_costOf costN
  rw [if_neg (nI_n1 (by omega)), if_neg (nI_pos (by omega)), na_cl (by omega), if_neg (by omega), show M_says 2 (nI c) (nI m) (nI h) τ = _ from e1, hC.1, if_neg (nI_pos (show c < 2147483648 by omega)), if_neg (show ¬ 8 ≤ c by omega)]
  simp only [Option.bind_some, j47, w3, w0]
  simp (disch := omega) only [na_li, na_eq]
  rcases hx with q | q | q | q | q | q <;> subst q <;> simp only [Nat.reduceEqDiff, reduceIte, Nat.zero_ne_one]
  · exact ⟨τ1, rfl, f1⟩
  · exact ⟨τ1, rfl, f1⟩
  · exact ⟨τ1, rfl, f1⟩
  · exact ⟨τ1, rfl, f1⟩
  · exact ⟨τ1, rfl, f1⟩
  · exact ⟨τ, rfl, Fr.rf⟩
