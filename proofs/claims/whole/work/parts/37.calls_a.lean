/-! the calls: told, set, coat, feed, force, count, asks, taken -/
theorem irB_f {p : Int32} {N : Nat} (hN : N < 2147483648) (h : irB p N = false) : p < 0 ∨ ∃ k, k < 2147483648 ∧ N ≤ k ∧ p = nI k := by
  rcases na_or p with q | ⟨k, hk, rfl⟩
  · exact Or.inl q
  · rw [irB_n hk hN] at h
    exact Or.inr ⟨k, hk, by simpa using h, rfl⟩
def plB (p : Int32) : Bool := irB p 224 && irB (p - p / 100 * 100) 24
theorem plB_n {k : Nat} (hk : k < 2147483648) : plB (nI k) = (decide (k / 100 < 3) && decide (k % 100 < 24)) := by
  unfold plB
  rw [show (100 : Int32) = nI 100 from rfl, pk_rem hk (by omega) (by omega), irB_n hk (by omega), irB_n (by omega) (by omega)]
  by_cases c : k % 100 < 24
  · by_cases d : k < 224
    · rw [decide_eq_true d, decide_eq_true (show k / 100 < 3 by omega)]
    · rw [decide_eq_false d, decide_eq_false (show ¬ k / 100 < 3 by omega)]
  · rw [decide_eq_false c, Bool.and_false, Bool.and_false]
theorem plB_t {p : Int32} (h : plB p = true) : ∃ o m, o < 3 ∧ m < 24 ∧ p / 100 = nI o ∧ p - p / 100 * 100 = nI m := by
  rcases na_or p with q | ⟨k, hk, rfl⟩
  · unfold plB at h
    rw [irB_neg q] at h
    cases h
  · rw [plB_n hk] at h
    simp only [Bool.and_eq_true, decide_eq_true_eq] at h
    refine ⟨k / 100, k % 100, h.1, h.2, ?_, ?_⟩
    · rw [show (100 : Int32) = nI 100 from rfl, pk_div hk (by omega) (by omega)]
    · rw [show (100 : Int32) = nI 100 from rfl, pk_rem hk (by omega) (by omega)]
theorem s_X_isPlace (p : Int32) (σ : Sg) : X_isPlace p σ = some (b2 (plB p), σ) := by
  unfold X_isPlace
  rcases na_or p with q | ⟨k, hk, rfl⟩
  · rw [if_pos q]
    unfold plB
    rw [irB_neg q]
    rfl
  · rw [if_neg (nI_pos hk), plB_n hk, s_X_isOne', show (100 : Int32) = nI 100 from rfl, pk_div hk (by omega) (by omega)]
    simp only [Option.bind_some, b2_0]
    rw [irB_n (by omega) (by omega)]
    by_cases c : k / 100 < 3
    · rw [decide_eq_true c, if_neg (by decide), s_X_isHour', show nI k - nI (k / 100) * nI 100 = nI (k % 100) by rw [← pk_div hk (by omega) (by omega), pk_rem hk (by omega) (by omega)], irB_n (by omega) (by omega)]
      simp only [Option.bind_some, b2_0]
      by_cases d : k % 100 < 24
      · rw [decide_eq_true d, if_neg (by decide)]; rfl
      · rw [decide_eq_false d, if_pos rfl]; rfl
    · rw [decide_eq_false c, if_pos rfl]; rfl
theorem s_M_isOf_J9 (p : Int32) (σ : Sg) : M_isOf_J9 p σ = some (b2 (plB p), σ) := by
  unfold M_isOf_J9 plB
  rw [show (223 : Int64) = (nI 223).toInt64 from rfl, s_M_in0 p (by omega)]
  simp only [Option.bind_some, b2_0]
  cases c : irB p 224 with
  | false => rfl
  | true =>
    rw [if_neg (by decide), s_M_isHour']
    simp only [Option.bind_some, b2_0]
    cases d : irB (p - p / 100 * 100) 24 with
    | false => rfl
    | true => rfl
theorem CP_mk {o1 o2 : Option (Int32 × Sg)} {S : Nat → Nat → Nat} {I : Nat → Nat → Int32} {P : Nat → Txt} {r : Int32} (h1 : wp o1 (fun q => q.1 = r ∧ RX S I P q.2)) (h2 : wp o2 (fun q => q.1 = r ∧ RM S I P q.2)) (hV : SV S) : CP o1 o2 := by
  obtain ⟨q1, e1, f1, k1⟩ := h1
  obtain ⟨q2, e2, f2, k2⟩ := h2
  refine ⟨r, q1.2, q2.2, ?_, ?_, S, I, P, k1, k2, hV⟩
  · rw [e1, ← f1]
  · rw [e2, ← f2]
theorem CP_eq {o1 o2 o1' o2' : Option (Int32 × Sg)} (h1 : o1 = o1') (h2 : o2 = o2') (h : CP o1' o2') : CP o1 o2 := by rw [h1, h2]; exact h
theorem na_0 {k : Nat} (hk : k < 2147483648) (h : k ≠ 0) : ¬ nI k = 0 := fun q => h ((na_eq (a := k) (b := 0) hk (by omega)).mp q)
theorem na_ne {k m : Nat} (hk : k < 2147483648) (hm : m < 2147483648) (h : k ≠ m) : ¬ nI k = nI m := fun q => h ((na_eq hk hm).mp q)
theorem CP_same {σ τ : Sg} (h : Rel σ τ) (r : Int32) : CP (some (r, σ)) (some (r, τ)) := ⟨r, σ, τ, rfl, rfl, h⟩
theorem eta2 {α β : Type} (o : Option (α × β)) : (o.bind fun q => some (q.1, q.2)) = o := by cases o <;> rfl
section
variable {σ τ : Sg}
theorem CP_ev {S : Nat → Nat → Nat} {I : Nat → Nat → Int32} {P : Nat → Txt} {o1 o2 : Option (Int32 × Sg)} {r : Int32} (hX : RX S I P σ) (hM : RM S I P τ) (hV : SV S) (h1 : wp o1 (fun q => q.1 = r ∧ Fr EX σ q.2)) (h2 : wp o2 (fun q => q.1 = r ∧ Fr SF τ q.2)) : CP o1 o2 :=
  CP_mk (wp_mono h1 fun q h => ⟨h.1, hX.fr hV (h.2.mo fun g a j h => EX.nx h)⟩) (wp_mono h2 fun q h => ⟨h.1, hM.fr (h.2.mo fun g a j h => SF.nm h)⟩) hV
theorem q_told (hR : Rel σ τ) (p1 p2 : Int32) : CP (X_told p1 p2 σ) (M_told p1 p2 τ) := by
  obtain ⟨S, I, P, hX, hM, hV⟩ := id hR
  obtain ⟨v1, v2, v3, v4⟩ := hV.1
  have mi : M_in p2.toInt64 0 6 τ = some (b2 (irB p2 7), τ) := by rw [show (6 : Int64) = (nI 6).toInt64 from rfl, s_M_in0 p2 (by omega)]
  cases hw : irB p2 7 with
  | false =>
    refine CP_eq (o1' := some (-2, σ)) (o2' := some (-2, τ)) ?_ ?_ (CP_same hR _)
    · unfold X_told
      rcases irB_f (by omega) hw with q | ⟨k, hk, hk7, rfl⟩
      · rw [if_neg (show ¬ p2 = 0 from na_neg_ne q (n := 0) (by omega)), if_neg (show ¬ p2 = 5 from na_neg_ne q (n := 5) (by omega)), if_pos q]
      · rw [if_neg (na_0 hk (by omega)), if_neg (show ¬ nI k = 5 from na_ne hk (m := 5) (by omega) (by omega)), if_neg (nI_pos hk), if_pos (show 6 < nI k from nI_lt (a := 6) (by omega) hk)]
    · unfold M_told
      rw [mi, hw]
      rfl
  | true =>
    obtain ⟨w, hw7, rfl⟩ := irB_t (by omega) hw
    have mt : M_told p1 (nI w) τ = (M_isOf (nI w) p1 τ).bind fun q2 =>
        if q2.1 = 0 then some ((-2 : Int32), q2.2) else
          if nI w < (4 : Int32) then
            if nI w = 0 then
              (M_placeOf p1 q2.2).bind fun q5 =>
              if q5.1 < 0 then none else if 72 ≤ q5.1.toNatClampNeg then none else
              some ((q5.2 34 0 q5.1.toNatClampNeg), q5.2)
            else
              if ((((3 : Int32) * p1) + nI w) - (1 : Int32)) < 0 then none else if 24 ≤ ((((3 : Int32) * p1) + nI w) - (1 : Int32)).toNatClampNeg then none else
              some ((q2.2 36 0 ((((3 : Int32) * p1) + nI w) - (1 : Int32)).toNatClampNeg), q2.2)
          else
            if nI w = (4 : Int32) then
              if p1 < 0 then none else if 8 ≤ p1.toNatClampNeg then none else
              some ((q2.2 35 0 p1.toNatClampNeg), q2.2)
            else
              if nI w = (5 : Int32) then
                (M_rightAt (p1 / (100 : Int32)) (p1 - p1 / (100 : Int32) * (100 : Int32)) q2.2).bind fun q4 =>
                some (q4.1, q4.2)
              else
                (M_hoursOf p1 q2.2).bind fun q3 =>
                some (q3.1, q3.2) := by
      unfold M_told
      rw [mi, hw]
      rfl
    have place : w = 0 ∨ w = 5 ∨ (w ≠ 0 ∧ w ≠ 5) := by omega
    rcases place with q | q | ⟨q0, q5⟩
    · subst q
      have mo : M_isOf (nI 0) p1 τ = some (b2 (plB p1), τ) := s_M_isOf_J9 p1 τ
      cases hp : plB p1 with
      | false =>
        refine CP_eq (o1' := some (-2, σ)) (o2' := some (-2, τ)) ?_ ?_ (CP_same hR _)
        · unfold X_told
          rw [if_pos (by decide), s_X_isPlace, hp]; rfl
        · rw [mt, mo, hp]; rfl
      | true =>
        obtain ⟨o, m, ho, hm, e1, e2⟩ := plB_t hp
        obtain ⟨ma, mb⟩ := m_mood hM ho hm
        refine CP_eq (o1' := some (nI (mdS S o m), σ)) (o2' := some (nI (mdS S o m), τ)) ?_ ?_ (CP_same hR _)
        · unfold X_told
          rw [if_pos (by decide), s_X_isPlace, hp]
          show ((X_moodAt (p1 / 100) (p1 - p1 / 100 * 100) σ).bind fun q7 => some (q7.1, q7.2)) = _
          rw [e2, e1, x_mood hX ho hm]; rfl
        · rw [mt, mo, hp]
          show ((M_placeOf p1 τ).bind fun q5 => if q5.1 < 0 then none else if 72 ≤ q5.1.toNatClampNeg then none else some ((q5.2 34 0 q5.1.toNatClampNeg), q5.2)) = _
          unfold M_placeOf
          rw [e2, e1]
          simp only [Option.bind_some, ma]
          rw [if_neg (nI_pos (by omega)), na_cl (by omega), if_neg (by omega), mb]
    · subst q
      have mo : M_isOf (nI 5) p1 τ = some (b2 (plB p1), τ) := s_M_isOf_J9 p1 τ
      cases hp : plB p1 with
      | false =>
        refine CP_eq (o1' := some (-2, σ)) (o2' := some (-2, τ)) ?_ ?_ (CP_same hR _)
        · unfold X_told
          rw [if_neg (by decide), if_pos (by decide), s_X_isPlace, hp]; rfl
        · rw [mt, mo, hp]; rfl
      | true =>
        obtain ⟨o, m, ho, hm, e1, e2⟩ := plB_t hp
        refine CP_eq (o1' := X_rightAt (nI o) (nI m) σ) (o2' := M_rightAt (nI o) (nI m) τ) ?_ ?_ (CP_ev hX hM hV (x_right hX hV hM.tp ho hm) (m_right hM hV ho hm))
        · unfold X_told
          rw [if_neg (by decide), if_pos (by decide), s_X_isPlace, hp, e2, e1]
          exact eta2 _
        · rw [mt, mo, hp, e2, e1]
          exact eta2 _
    · have mo : M_isOf (nI w) p1 τ = some (b2 (irB p1 (S 5 0)), τ) := by
        unfold M_isOf
        rw [if_neg (na_0 (by omega) q0), if_neg (show ¬ nI w = 5 from na_ne (by omega) (m := 5) (by omega) q5), s_M_isCoat hM.1.1 v1]
        simp only [Option.bind_some, b2_and]
      have xt : X_told p1 (nI w) σ = if b2 (irB p1 (S 5 0)) = 0 then some (-2, σ) else if nI w = 6 then (if p1 < 0 then none else if 8 ≤ p1.toNatClampNeg then none else (X_hoursOfEverybody p1.toNatClampNeg σ).bind fun q3 => some (q3.1, q3.2)) else (if p1 < 0 then none else if 8 ≤ p1.toNatClampNeg then none else (Coat_trait p1.toNatClampNeg (nI w) σ).bind fun q2 => some (q2.1, q2.2)) := by
        unfold X_told
        rw [if_neg (na_0 (by omega) q0), if_neg (show ¬ nI w = 5 from na_ne (by omega) (m := 5) (by omega) q5), if_neg (nI_pos (by omega)), if_neg (show ¬ 6 < nI w from nI_nlt (a := 6) (by omega) (by decide)), s_X_isCoat hX.1.1 v1]
        rfl
      cases hp : irB p1 (S 5 0) with
      | false =>
        refine CP_eq (o1' := some (-2, σ)) (o2' := some (-2, τ)) ?_ ?_ (CP_same hR _)
        · rw [xt, hp]; rfl
        · rw [mt, mo, hp]; rfl
      | true =>
        obtain ⟨c, hc, rfl⟩ := irB_t (by omega) hp
        have hC := hX.2.2.1 c hc
        have hD := hM.2.2.1 c hc
        have xt : X_told (nI c) (nI w) σ = if nI w = 6 then X_hoursOfEverybody c σ else Coat_trait c (nI w) σ := by
          rw [xt, hp, if_neg (show ¬ b2 true = 0 by decide), if_neg (nI_pos (by omega)), na_cl (by omega), if_neg (show ¬ 8 ≤ c by omega), if_neg (nI_pos (by omega)), if_neg (show ¬ 8 ≤ c by omega), eta2, eta2]
        have hw : w = 1 ∨ w = 2 ∨ w = 3 ∨ w = 4 ∨ w = 6 := by omega
        rcases hw with q | q | q | q | q <;> subst q
        · refine CP_eq (o1' := some (nI (S 2 c), σ)) (o2' := some (nI (S 2 c), τ)) ?_ ?_ (CP_same hR _)
          · rw [xt, if_neg (by decide), ← hC.2.1]; rfl
          · rw [mt, mo, hp]
            show (if 3 * nI c + nI 1 - 1 < 0 then none else if 24 ≤ (3 * nI c + nI 1 - 1).toNatClampNeg then none else some (τ 36 0 (3 * nI c + nI 1 - 1).toNatClampNeg, τ)) = _
            rw [show 3 * nI c + nI 1 - 1 = nI (3 * c) by rw [show (3 : Int32) = nI 3 from rfl, na_mul, na_add]; exact nI_pred _, if_neg (nI_pos (by omega)), na_cl (by omega), if_neg (by omega), hD.2.1]
        · refine CP_eq (o1' := some (nI (S 3 c), σ)) (o2' := some (nI (S 3 c), τ)) ?_ ?_ (CP_same hR _)
          · rw [xt, if_neg (by decide), ← hC.2.2.1]; rfl
          · rw [mt, mo, hp]
            show (if 3 * nI c + nI 2 - 1 < 0 then none else if 24 ≤ (3 * nI c + nI 2 - 1).toNatClampNeg then none else some (τ 36 0 (3 * nI c + nI 2 - 1).toNatClampNeg, τ)) = _
            rw [show 3 * nI c + nI 2 - 1 = nI (3 * c + 1) by rw [show (3 : Int32) = nI 3 from rfl, na_mul, na_add]; exact nI_pred _, if_neg (nI_pos (by omega)), na_cl (by omega), if_neg (by omega), hD.2.2.1]
        · refine CP_eq (o1' := some (nI (S 4 c), σ)) (o2' := some (nI (S 4 c), τ)) ?_ ?_ (CP_same hR _)
          · rw [xt, if_neg (by decide), ← hC.2.2.2]; rfl
          · rw [mt, mo, hp]
            show (if 3 * nI c + nI 3 - 1 < 0 then none else if 24 ≤ (3 * nI c + nI 3 - 1).toNatClampNeg then none else some (τ 36 0 (3 * nI c + nI 3 - 1).toNatClampNeg, τ)) = _
            rw [show 3 * nI c + nI 3 - 1 = nI (3 * c + 2) by rw [show (3 : Int32) = nI 3 from rfl, na_mul, na_add]; exact nI_pred _, if_neg (nI_pos (by omega)), na_cl (by omega), if_neg (by omega), hD.2.2.2]
        · refine CP_eq (o1' := some (nI (S 1 c), σ)) (o2' := some (nI (S 1 c), τ)) ?_ ?_ (CP_same hR _)
          · rw [xt, if_neg (by decide), ← hC.1]; rfl
          · rw [mt, mo, hp]
            show (if nI c < 0 then none else if 8 ≤ (nI c).toNatClampNeg then none else some (τ 35 0 (nI c).toNatClampNeg, τ)) = _
            rw [if_neg (nI_pos (by omega)), na_cl (by omega), if_neg (by omega), hD.1]
        · refine CP_eq (o1' := X_hoursOfEverybody c σ) (o2' := M_hoursOf (nI c) τ) ?_ ?_ (CP_ev hX hM hV (x_hoursAll hX hV hM.tp hc) (m_hoursAll hM hV hc))
          · rw [xt, if_pos (by decide)]
          · rw [mt, mo, hp]
            exact eta2 _
end
