/-! the calls: asks, taken, push -/
section
variable {σ τ : Sg}
def undB (kd k : Nat) : Bool := (ab_nth [] [[0], [1, 0], [2, 0], [3, 1, 0], [4, 2, 0], [5, 0]] kd).contains k
theorem x_under {n kd k : Nat} (hd : kd < 6) (hk : k < 6) (σ : Sg) : Coat_isUnder_L7 (n + 8) (nI k) (nI kd) 0 σ = some (b2 (undB kd k), σ) := by
  have h1 : kd = 0 ∨ kd = 1 ∨ kd = 2 ∨ kd = 3 ∨ kd = 4 ∨ kd = 5 := by omega
  have h2 : k = 0 ∨ k = 1 ∨ k = 2 ∨ k = 3 ∨ k = 4 ∨ k = 5 := by omega
  rcases h1 with q | q | q | q | q | q <;> subst q <;> rcases h2 with q | q | q | q | q | q <;> subst q <;> rfl
theorem m_under {n kd k : Nat} (hd : kd < 6) (hk : k < 6) (v : Int32) (τ : Sg) : M_taken_L33 (n + 8) v (nI k) (nI kd) τ = M_taken_J51 v (nI k) (if undB kd k = true then nI k else -1) τ := by
  have h1 : kd = 0 ∨ kd = 1 ∨ kd = 2 ∨ kd = 3 ∨ kd = 4 ∨ kd = 5 := by omega
  have h2 : k = 0 ∨ k = 1 ∨ k = 2 ∨ k = 3 ∨ k = 4 ∨ k = 5 := by omega
  rcases h1 with q | q | q | q | q | q <;> subst q <;> rcases h2 with q | q | q | q | q | q <;> subst q <;> rfl
theorem q_taken (hR : Rel σ τ) (p1 p2 : Int32) : CP (X_taken p1 p2 σ) (M_taken p1 p2 τ) := by
  obtain ⟨S, I, P, hX, hM, hV⟩ := id hR
  obtain ⟨v1, v2, v3, v4⟩ := hV.1
  obtain ⟨m, hm⟩ : ∃ m, FU = m + 8 := ⟨992, FU_eq⟩
  have mt : M_taken p1 p2 τ = if b2 (irB p2 6) = 0 then some (-2, τ) else if b2 (irB p1 (S 5 0)) = 0 then some (-11, τ) else if p1 < 0 then none else if 8 ≤ p1.toNatClampNeg then none else M_taken_L33 FU p1 p2 (τ 35 0 p1.toNatClampNeg) τ := by
    unfold M_taken
    rw [M_in_l p2 5 (by omega)]
    simp only [Option.bind_some]
    rw [s_M_isCoat hM.1.1 v1]
    simp only [Option.bind_some]
  have xt : X_taken p1 p2 σ = if p2 < 0 then some (-2, σ) else if p2 < 6 then (if b2 (irB p1 (S 5 0)) = 0 then some (-11, σ) else if p1 < 0 then none else if 8 ≤ p1.toNatClampNeg then none else
        (Coat_isUnder p1.toNatClampNeg p2 σ).bind fun q2 =>
        if q2.1 = 0 then some ((-13 : Int32), q2.2) else
          if p1 < 0 then none else if 8 ≤ p1.toNatClampNeg then none else
          some ((q2.2 1 p1.toNatClampNeg 1), q2.2)) else some (-2, σ) := by
    unfold X_taken
    rw [s_X_isCoat hX.1.1 v1]
    rfl
  cases hv : irB p2 6 with
  | false =>
    refine CP_eq (o1' := some (-2, σ)) (o2' := some (-2, τ)) ?_ ?_ (CP_same hR _)
    · rw [xt]
      rcases irB_f (by omega) hv with q | ⟨k, hk, hk7, rfl⟩
      · rw [if_pos q]
      · rw [if_neg (nI_pos hk), if_neg (show ¬ nI k < 6 from nI_nlt (b := 6) hk7 hk)]
    · rw [mt, hv]; rfl
  | true =>
    obtain ⟨k, hk, rfl⟩ := irB_t (by omega) hv
    rw [hv, if_neg (show ¬ b2 true = 0 by decide)] at mt
    rw [if_neg (nI_pos (by omega)), if_pos (show nI k < 6 from nI_lt (b := 6) hk (by decide))] at xt
    cases hp : irB p1 (S 5 0) with
    | false =>
      refine CP_eq (o1' := some (-11, σ)) (o2' := some (-11, τ)) ?_ ?_ (CP_same hR _)
      · rw [xt, hp]; rfl
      · rw [mt, hp]; rfl
    | true =>
      obtain ⟨c, hc, rfl⟩ := irB_t (by omega) hp
      have hC := hX.2.2.1 c hc
      have hD := hM.2.2.1 c hc
      have hB := hV.2.2.1 c hc
      rw [hp, if_neg (show ¬ b2 true = 0 by decide), if_neg (nI_pos (by omega)), na_cl (by omega), if_neg (by omega), hm, hD.1, m_under hB.1 hk] at mt
      rw [hp, if_neg (show ¬ b2 true = 0 by decide), if_neg (nI_pos (by omega)), na_cl (by omega), if_neg (by omega)] at xt
      unfold Coat_isUnder at xt
      rw [hm, hC.1, x_under hB.1 hk] at xt
      simp only [Option.bind_some] at xt
      rw [if_neg (nI_pos (show c < 2147483648 by omega)), if_neg (show ¬ 8 ≤ c by omega), hC.2.1] at xt
      unfold M_taken_J51 at mt
      rw [xt, mt]
      cases undB (S 1 c) k with
      | false =>
        refine CP_eq (o1' := some (-13, σ)) (o2' := some (-13, τ)) rfl ?_ (CP_same hR _)
        rw [if_neg (show ¬ false = true by decide), if_neg (fun q => nI_n1 (c := k) (by omega) q.symm)]
      | true =>
        refine CP_eq (o1' := some (nI (S 2 c), σ)) (o2' := some (nI (S 2 c), τ)) rfl ?_ (CP_same hR _)
        rw [if_pos rfl, if_pos rfl, show (3 : Int32) * nI c = nI (3 * c) from na_mul 3 _, if_neg (nI_pos (by omega)), na_cl (by omega), if_neg (by omega), hD.2.1]
def mhB (p : Int32) : Bool := irB p 9924 && irB (p - p / 100 * 100) 24
theorem mhB_n {k : Nat} (hk : k < 2147483648) : mhB (nI k) = (decide (k / 100 < 100) && decide (k % 100 < 24)) := by
  unfold mhB
  rw [show (100 : Int32) = nI 100 from rfl, pk_rem hk (by omega) (by omega), irB_n hk (by omega), irB_n (by omega) (by omega)]
  by_cases c : k % 100 < 24
  · by_cases d : k < 9924
    · rw [decide_eq_true d, decide_eq_true (show k / 100 < 100 by omega)]
    · rw [decide_eq_false d, decide_eq_false (show ¬ k / 100 < 100 by omega)]
  · rw [decide_eq_false c, Bool.and_false, Bool.and_false]
theorem mhB_t {p : Int32} (h : mhB p = true) : ∃ m i, m < 100 ∧ i < 24 ∧ ¬ p < 0 ∧ p / 100 = nI m ∧ p - p / 100 * 100 = nI i := by
  rcases na_or p with q | ⟨k, hk, rfl⟩
  · unfold mhB at h
    rw [irB_neg q] at h
    cases h
  · rw [mhB_n hk] at h
    simp only [Bool.and_eq_true, decide_eq_true_eq] at h
    refine ⟨k / 100, k % 100, h.1, h.2, nI_pos hk, ?_, ?_⟩
    · rw [show (100 : Int32) = nI 100 from rfl, pk_div hk (by omega) (by omega)]
    · rw [show (100 : Int32) = nI 100 from rfl, pk_rem hk (by omega) (by omega)]
theorem x_asks_f {p1 p2 p3 : Int32} (h : mhB p2 = false ∨ irB p3 4 = false) : X_asks_J16 p1 p2 p3 σ = some (-2, σ) := by
  unfold X_asks_J16
  by_cases a : p2 < 0
  · rw [if_pos a]
  rw [if_neg a]
  rcases na_or p2 with q | ⟨k, hk, rfl⟩
  · exact absurd q a
  rw [show (100 : Int32) = nI 100 from rfl, pk_rem hk (by omega) (by omega), pk_div hk (by omega) (by omega)]
  by_cases c : k / 100 < 100
  · rw [if_pos (nI_lt c (by omega))]
    by_cases d : k % 100 < 24
    · rw [if_pos (show nI (k % 100) < 24 from nI_lt (b := 24) d (by decide))]
      have hv : irB p3 4 = false := h.resolve_left (by rw [mhB_n hk, decide_eq_true c, decide_eq_true d]; decide)
      have ne : ∀ n, n < 4 → ¬ p3 = nI n := by
        intro n hn e
        rw [e, irB_n (by omega) (by omega), decide_eq_true hn] at hv
        cases hv
      rw [if_neg (show ¬ p3 = 0 from ne 0 (by omega)), if_neg (show ¬ p3 = 1 from ne 1 (by omega)), if_neg (show ¬ p3 = 2 from ne 2 (by omega)), if_neg (show ¬ p3 = 3 from ne 3 (by omega))]
    · rw [if_neg (show ¬ nI (k % 100) < 24 from nI_nlt (b := 24) (by omega) (by omega))]
  · rw [if_neg (nI_nlt (by omega) (by omega))]
theorem m_asks_J {p1 p2 p3 : Int32} : M_asks_J13 p1 p2 p3 τ = if mhB p2 = false then some (-2, τ) else if irB p3 4 = false then some (-2, τ) else if p3 < 2 then (if p3 = 0 then (M_fits p1 (p2 / 100) (p2 - p2 / 100 * 100) τ).bind fun q7 => if q7.1 = 0 then some (0, q7.2) else some (1, q7.2) else M_fineOf p1 (p2 / 100) (p2 - p2 / 100 * 100) τ) else if p3 = 2 then M_costOf p1 (p2 / 100) (p2 - p2 / 100 * 100) τ else if p1 = -1 then some (99, τ) else M_offOf p1 (p2 / 100) τ := by
  unfold M_asks_J13 mhB
  rw [M_in_l p2 9923 (by omega)]
  simp only [Option.bind_some, b2_0, eta2]
  cases irB p2 9924 with
  | false => rfl
  | true =>
    rw [if_neg (by decide), s_M_isHour']
    simp only [Option.bind_some, b2_0, Bool.true_and]
    cases irB (p2 - p2 / 100 * 100) 24 with
    | false => rfl
    | true =>
      rw [if_neg (by decide), if_neg (by decide), M_in_l p3 3 (by omega)]
      simp only [Option.bind_some, b2_0]
theorem b2_01 (c : Bool) (σ : Sg) : (if c = false then some ((0 : Int32), σ) else some ((1 : Int32), σ)) = some (b2 c, σ) := by cases c <;> rfl
theorem q_asks (hR : Rel σ τ) (p1 p2 p3 : Int32) : CP (X_asks p1 p2 p3 σ) (M_asks p1 p2 p3 τ) := by
  obtain ⟨S, I, P, hX, hM, hV⟩ := id hR
  obtain ⟨v1, v2, v3, v4⟩ := hV.1
  have go : (p1 = -1 ∨ ∃ c, c < S 5 0 ∧ p1 = nI c) → CP (X_asks_J16 p1 p2 p3 σ) (M_asks_J13 p1 p2 p3 τ) := by
    intro hc
    rw [m_asks_J]
    cases hm : mhB p2 with
    | false => exact CP_eq (x_asks_f (Or.inl hm)) (if_pos rfl) (CP_same hR _)
    | true =>
      cases hv : irB p3 4 with
      | false => exact CP_eq (x_asks_f (Or.inr hv)) (by rw [if_neg (by decide), if_pos rfl]) (CP_same hR _)
      | true =>
        rw [if_neg (by decide), if_neg (by decide)]
        obtain ⟨m, i, hm1, hi, hn, e1, e2⟩ := mhB_t hm
        obtain ⟨w, hw, rfl⟩ := irB_t (by omega) hv
        rw [e2, e1]
        have xa : X_asks_J16 p1 p2 (nI w) σ = if nI w = 0 then (if p1 = -1 then some (0, σ) else if (σ 0 0 6) < 0 then none else if 6 ≤ (σ 0 0 6).toNatClampNeg then none else
            if p1 < 0 then none else if 8 ≤ p1.toNatClampNeg then none else
            (X_fitsAt (σ 0 0 6).toNatClampNeg p1.toNatClampNeg (nI m) (nI i) σ).bind fun q1 => if q1.1 = 0 then some ((0 : Int32), q1.2) else some ((1 : Int32), q1.2)) else if nI w = 1 then X_fineAt p1 (nI m) (nI i) σ else if nI w = 2 then X_costAt p1 (nI m) (nI i) σ else if nI w = 3 then (if p1 = -1 then some (99, σ) else if p1 < 0 then none else if 8 ≤ p1.toNatClampNeg then none else Coat_off p1.toNatClampNeg (nI m) σ) else some (-2, σ) := by
          unfold X_asks_J16
          rw [if_neg hn, e2, e1, if_pos (show nI m < 100 from nI_lt (b := 100) hm1 (by decide)), if_pos (show nI i < 24 from nI_lt (b := 24) hi (by decide))]
          simp only [eta2]
        rw [xa]
        have hq : w = 0 ∨ w = 1 ∨ w = 2 ∨ w = 3 := by omega
        rcases hc with hc | ⟨c, hc, rfl⟩
        · have no : irB p1 (S 5 0) = false := by rw [hc]; exact irB_neg (by decide)
          subst hc
          rcases hq with q | q | q | q <;> subst q
          · refine CP_eq (o1' := some (0, σ)) (o2' := some (0, τ)) ?_ ?_ (CP_same hR _)
            · rw [if_pos (by decide), if_pos (by decide)]
            · rw [if_pos (by decide), if_pos (by decide)]
              unfold M_fits
              rw [if_pos (by decide)]
              rfl
          · refine CP_eq (o1' := some (99, σ)) (o2' := some (99, τ)) ?_ ?_ (CP_same hR _)
            · rw [if_neg (by decide), if_pos (by decide), x_fineNo hX hV no]
            · rw [if_pos (by decide), if_neg (by decide)]
              unfold M_fineOf
              rw [if_pos (by decide)]
          · refine CP_eq (o1' := some (0, σ)) (o2' := some (0, τ)) ?_ ?_ (CP_same hR _)
            · rw [if_neg (by decide), if_neg (by decide), if_pos (by decide), x_costNo hX hV no]
            · rw [if_neg (by decide), if_pos (by decide)]
              unfold M_costOf
              rw [if_pos (by decide)]
          · refine CP_eq (o1' := some (99, σ)) (o2' := some (99, τ)) ?_ ?_ (CP_same hR _)
            · rw [if_neg (by decide), if_neg (by decide), if_neg (by decide), if_pos (by decide), if_pos (by decide)]
            · rw [if_neg (by decide), if_neg (by decide), if_pos (by decide)]
        · have hC := hX.2.2.1 c hc
          have hD := hM.2.2.1 c hc
          have hB := hV.2.2.1 c hc
          have n1 := nI_n1 (c := c) (by omega)
          rcases hq with q | q | q | q <;> subst q
          · refine CP_eq (o1' := X_fitsAt (S 5 1) c (nI m) (nI i) σ) (o2' := M_fits (nI c) (nI m) (nI i) τ) ?_ ?_ ?_
            · rw [if_pos (by decide), if_neg n1, hX.1.2.1, if_neg (nI_pos (by omega)), na_cl (by omega), if_neg (by omega), if_neg (nI_pos (by omega)), na_cl (by omega), if_neg (by omega)]
              obtain ⟨σ', e, f⟩ := x_fits (m := m) hX hV hM.tp hc (by omega) i
              rw [e]
              simp only [Option.bind_some, b2_0, b2_01]
            · rw [if_pos (by decide), if_pos (by decide)]
              obtain ⟨τ', e, f⟩ := m_fits (m := m) hM hV hc (by omega) i
              rw [e]
              simp only [Option.bind_some, b2_0, b2_01]
            · obtain ⟨σ', e, f⟩ := x_fits (m := m) hX hV hM.tp hc (by omega) i
              obtain ⟨τ', e', f'⟩ := m_fits (m := m) hM hV hc (by omega) i
              exact CP_ev hX hM hV ⟨_, e, rfl, f⟩ ⟨_, e', rfl, f'⟩
          · obtain ⟨σ', e, f⟩ := x_fine (m := m) hX hV hM.tp hc (by omega) i
            obtain ⟨τ', e', f'⟩ := m_fine (m := m) hM hV hc (by omega) i
            exact CP_ev hX hM hV ⟨_, e, rfl, f⟩ ⟨_, e', rfl, f'⟩
          · obtain ⟨σ', e, f⟩ := x_cost (m := m) hX hV hM.tp hc (by omega) i
            obtain ⟨τ', e', f'⟩ := m_cost (m := m) hM hV hc (by omega) i
            exact CP_ev hX hM hV ⟨_, e, rfl, f⟩ ⟨_, e', rfl, f'⟩
          · refine CP_eq (o1' := some (nI (offN (S 3 c) m), σ)) (o2' := some (nI (offN (S 3 c) m), τ)) ?_ ?_ (CP_same hR _)
            · rw [if_neg (by decide), if_neg (by decide), if_neg (by decide), if_pos (by decide), if_neg n1, if_neg (nI_pos (by omega)), na_cl (by omega), if_neg (by omega), s_off, hC.2.2.1, offS_N (by have := hB.2.2.1; omega) (by omega)]
            · rw [if_neg (by decide), if_neg (by decide), if_neg n1, s_M_offOf hD hB (by omega) (by omega)]
  unfold X_asks M_asks
  by_cases h1 : p1 = -1
  · rw [if_pos h1, if_pos h1]
    exact go (Or.inl h1)
  · rw [if_neg h1, if_neg h1, s_X_isCoat hX.1.1 v1, s_M_isCoat hM.1.1 v1]
    simp only [Option.bind_some, b2_0]
    cases hp : irB p1 (S 5 0) with
    | false =>
      rw [if_pos rfl, if_pos rfl]
      exact CP_same hR (-2)
    | true =>
      obtain ⟨c, hc, e⟩ := irB_t (by omega) hp
      rw [if_neg (show ¬ true = false by decide), if_neg (show ¬ true = false by decide)]
      exact go (Or.inr ⟨c, hc, e⟩)
end
section
variable {S : Nat → Nat → Nat} {I : Nat → Nat → Int32} {P : Nat → Txt} {σ τ : Sg}
/-- the moods of one from an hour on, to below another, pushed -/
def puN (S : Nat → Nat → Nat) (p a b : Nat) (v : Int32) : Nat → Nat → Nat := fun g k => if g = 0 ∧ 24 * p + a ≤ k ∧ k < 24 * p + b then bdN (nI (S 0 k) + v) else S g k
theorem puN_0 (S : Nat → Nat → Nat) (p a : Nat) (v : Int32) : puN S p a a v = S := by
  funext g k
  unfold puN
  rw [if_neg (by omega)]
theorem puN_s (S : Nat → Nat → Nat) {p a b : Nat} (hab : a ≤ b) (v : Int32) : puN S p a (b + 1) v = up2 (puN S p a b v) 0 (24 * p + b) (bdN (nI (S 0 (24 * p + b)) + v)) := by
  funext g k
  unfold up2
  by_cases c : g = 0 ∧ k = 24 * p + b
  · obtain ⟨c1, c2⟩ := c
    subst c1; subst c2
    rw [if_pos ⟨rfl, rfl⟩]
    unfold puN
    rw [if_pos (by omega)]
  · rw [if_neg c]
    unfold puN
    by_cases d : g = 0 ∧ 24 * p + a ≤ k ∧ k < 24 * p + b
    · rw [if_pos d, if_pos (by omega)]
    · rw [if_neg d, if_neg (by omega)]
theorem puN_at (S : Nat → Nat → Nat) (p a b : Nat) (v : Int32) : puN S p a b v 0 (24 * p + b) = S 0 (24 * p + b) := by
  unfold puN
  rw [if_neg (by omega)]
theorem puN_V (hV : SV S) {p a : Nat} {v : Int32} : ∀ b, a ≤ b → SV (puN S p a b v) := by
  intro b
  induction b with
  | zero => intro h; have : a = 0 := by omega
            subst this; rw [puN_0]; exact hV
  | succ b ih =>
    intro h
    by_cases e : a = b + 1
    · subst e; rw [puN_0]; exact hV
    · rw [puN_s S (by omega)]
      exact (ih (by omega)).mood (by have := (bdS_N (nI (S 0 (24 * p + b)) + v)).2; unfold bdN; unfold bdN at this; omega)
theorem s_giveMood {p h : Nat} (hp : p < 3) (hh : h < 24) (x : Int32) (σ : Sg) : X_giveMood (nI p) (nI h) x σ = some (upd3 σ 23 0 (24 * p + h) x) := by
  unfold X_giveMood
  rw [s_X_isOne', irB_n (by omega) (by omega), decide_eq_true hp]
  simp only [Option.bind_some]
  rw [if_neg (show ¬ b2 true = 0 by decide), s_X_isHour', irB_n (by omega) (by omega), decide_eq_true hh]
  simp only [Option.bind_some]
  rw [if_neg (show ¬ b2 true = 0 by decide), show nI p * 24 + nI h = nI (24 * p + h) by rw [show (24 : Int32) = nI 24 from rfl, na_mul, na_add, Nat.mul_comm], if_neg (nI_pos (by omega)), na_cl (by omega), if_neg (by omega)]
theorem x_push (hX : RX S I P σ) (hV : SV S) {p h : Nat} (hp : p < 3) (hh : h < 24) (v : Int32) : wp (X_push_L27 FU (nI p) (nI h) v (nI h) σ) (fun r => r.1 = nI (puN S p h 24 v 0 (24 * p + h)) ∧ RX (puN S p h 24 v) I P r.2) := by
  refine loopW (fun n (s : Sg) i => X_push_L27 n (nI p) (nI h) v (nI i) s) (fun i s => h ≤ i ∧ RX (puN S p h i v) I P s) 24 _ ?_ ?_ h σ FU (by omega) ⟨Nat.le_refl _, by rw [puN_0]; exact hX⟩ (FU_big (by omega))
  · rintro n i s hi ⟨hle, h1⟩ k
    show wp (X_push_L27 (n + 1) (nI p) (nI h) v (nI i) s) _
    unfold X_push_L27
    rw [if_pos (show nI i < 24 from nI_lt (b := 24) hi (by decide)), x_mood h1 hp hi]
    simp only [Option.bind_some, s_bounded]
    rw [s_giveMood hp hi]
    simp only [Option.bind_some]
    rw [show nI i + 1 = nI (i + 1) from (nI_succ i).symm, puN_at, (bdS_N _).1]
    refine k _ ⟨by omega, ?_⟩
    rw [puN_s S hle]
    exact h1.mood
  · rintro n s ⟨hle, h1⟩
    show wp (X_push_L27 (n + 1) (nI p) (nI h) v (nI 24) s) _
    unfold X_push_L27
    rw [if_neg (by decide), x_mood h1 hp hh]
    exact wp_some ⟨rfl, h1⟩
theorem m_pushed (hM : RM S I P τ) {p h : Nat} (hp : p < 3) (hh : h < 24) (v : Int32) : wp (M_pushed (nI p) (nI h) v τ) (fun s => RM (puN S p h 24 v) I P s ∧ Fr (fun g _ _ => g = 34) τ s) := by
  unfold M_pushed
  refine loopW (fun n (s : Sg) i => M_pushed_L3 n (nI p) v (nI i) s) (fun i s => h ≤ i ∧ RM (puN S p h i v) I P s ∧ Fr (fun g _ _ => g = 34) τ s) 24 _ ?_ ?_ h τ FU (by omega) ⟨Nat.le_refl _, by rw [puN_0]; exact hM, Fr.rf⟩ (FU_big (by omega))
  · rintro n i s hi ⟨hle, h1, f⟩ k
    obtain ⟨ma, mb⟩ := m_mood h1 hp hi
    show wp (M_pushed_L3 (n + 1) (nI p) v (nI i) s) _
    unfold M_pushed_L3
    rw [if_pos (show nI i < 24 from nI_lt (b := 24) hi (by decide)), ma, if_neg (nI_pos (by omega)), na_cl (by omega), if_neg (by omega), mb, s_Mwithin]
    simp only [Option.bind_some]
    rw [if_neg (nI_pos (by omega)), if_neg (by omega), show nI i + 1 = nI (i + 1) from (nI_succ i).symm]
    unfold mdS
    rw [puN_at, (bdS_N _).1]
    refine k _ ⟨by omega, ?_, f.up rfl⟩
    rw [puN_s S hle]
    exact h1.mood
  · rintro n s ⟨hle, h1, f⟩
    show wp (M_pushed_L3 (n + 1) (nI p) v (nI 24) s) _
    unfold M_pushed_L3
    rw [if_neg (by decide)]
    exact wp_some ⟨h1, f⟩
/-- -99 .. 99 -/
def puB (v : Int32) : Bool := decide (¬ v < -99 ∧ ¬ 99 < v)
theorem s_X_isPush (v : Int32) (σ : Sg) : X_isPush v σ = some (b2 (puB v), σ) := by
  unfold X_isPush puB
  by_cases a : v < -99
  · simp [a, b2]
  · by_cases c : 99 < v
    · simp [a, c, b2]
    · simp [a, c, b2]
theorem s_M_push (v : Int32) (τ : Sg) : M_in v.toInt64 (-99) 99 τ = some (b2 (puB v), τ) := by
  rw [show (-99 : Int64) = (-99 : Int32).toInt64 from rfl, show (99 : Int64) = (99 : Int32).toInt64 from rfl, s_M_in]
  unfold puB
  by_cases a : v < -99
  · simp [a, b2]
  · by_cases c : 99 < v
    · simp [a, c, b2]
    · simp [a, c, b2]
theorem q_push (hR : Rel σ τ) (p1 p2 p3 : Int32) : CP (X_push p1 p2 p3 σ) (M_push p1 p2 p3 τ) := by
  obtain ⟨S, I, P, hX, hM, hV⟩ := id hR
  unfold X_push M_push
  rw [s_X_isOne', s_M_isOne']
  simp only [Option.bind_some, b2_0]
  cases h1 : irB p1 3 with
  | false => exact CP_same hR (-2)
  | true =>
    obtain ⟨p, hp, rfl⟩ := irB_t (by omega) h1
    rw [if_neg (show ¬ true = false by decide), if_neg (show ¬ true = false by decide), s_X_isHour', s_M_isHour']
    simp only [Option.bind_some, b2_0]
    cases h2 : irB p2 24 with
    | false => exact CP_same hR (-2)
    | true =>
      obtain ⟨h, hh, rfl⟩ := irB_t (by omega) h2
      rw [if_neg (show ¬ true = false by decide), if_neg (show ¬ true = false by decide), s_X_isPush, s_M_push]
      simp only [Option.bind_some, b2_0]
      cases h3 : puB p3 with
      | false => exact CP_same hR (-2)
      | true =>
        rw [if_neg (show ¬ true = false by decide), if_neg (show ¬ true = false by decide)]
        refine CP_mk (x_push hX hV hp hh p3) ?_ (puN_V hV 24 (by omega))
        refine wp_bind (m_pushed hM hp hh p3) ?_
        rintro s ⟨k1, k2⟩
        obtain ⟨ma, mb⟩ := m_mood k1 hp hh
        rw [ma, if_neg (nI_pos (by omega)), na_cl (by omega), if_neg (by omega), mb]
        exact wp_some ⟨rfl, k1⟩
end
