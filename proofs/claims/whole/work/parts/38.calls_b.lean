/-! the calls: set, coat, feed, force, count -/
section
variable {σ τ : Sg}
theorem M_in_l (p : Int32) (N : Nat) (hN : N + 1 < 2147483648) (τ : Sg) : M_in p.toInt64 0 (OfNat.ofNat N) τ = some (b2 (irB p (N + 1)), τ) := by rw [na_lit64 N (by omega), s_M_in0 p hN]
theorem q_set (hR : Rel σ τ) (p1 p2 p3 : Int32) : CP (X_set p1 p2 p3 σ) (M_set p1 p2 p3 τ) := by
  obtain ⟨S, I, P, hX, hM, hV⟩ := id hR
  obtain ⟨v1, v2, v3, v4⟩ := hV.1
  cases hw : irB p1 4 with
  | false =>
    refine CP_eq (o1' := some (-2, σ)) (o2' := some (-2, τ)) ?_ ?_ (CP_same hR _)
    · unfold X_set
      rcases irB_f (by omega) hw with q | ⟨k, hk, hk7, rfl⟩
      · rw [if_neg (show ¬ p1 = 0 from na_neg_ne q (n := 0) (by omega)), if_pos (show p1 < 1 from na_neg_lt q (n := 1) (by omega))]
      · rw [if_neg (na_0 hk (by omega)), if_neg (show ¬ nI k < 1 from nI_nlt (b := 1) (by omega) hk), if_pos (show 3 < nI k from nI_lt (a := 3) (by omega) hk)]
    · unfold M_set
      rw [M_in_l p1 3 (by omega), hw]; rfl
  | true =>
    obtain ⟨w, hw4, rfl⟩ := irB_t (by omega) hw
    have mt : M_set (nI w) p2 p3 τ = (M_isOf (nI w) p2 τ).bind fun q2 =>
        if q2.1 = 0 then some ((-2 : Int32), q2.2) else
          (M_mostOf (nI w) q2.2).bind fun q3 =>
          (M_in (p3).toInt64 (0 : Int64) (q3.1).toInt64 q3.2).bind fun q4 =>
          if q4.1 = 0 then some ((-2 : Int32), q4.2) else
            (M_told p2 (nI w) q4.2).bind fun q5 =>
            (M_lays (nI w) p2 p3 q5.2).bind fun σ6 =>
            some (q5.1, σ6) := by
      unfold M_set
      rw [M_in_l (nI w) 3 (by omega), hw]
      rfl
    have ti : M_in (nI w).toInt64 0 6 τ = some (1, τ) := by
      rw [M_in_l (nI w) 6 (by omega), irB_n (by omega) (by omega), decide_eq_true (show w < 7 by omega)]; rfl
    have hq : w = 0 ∨ w = 1 ∨ w = 2 ∨ w = 3 := by omega
    rcases hq with q | q | q | q <;> subst q
    · have mo : M_isOf (nI 0) p2 τ = some (b2 (plB p2), τ) := s_M_isOf_J9 p2 τ
      have xs : X_set (nI 0) p2 p3 σ = X_setMood p2 p3 σ := by
        unfold X_set
        rw [if_pos (by decide)]
        exact eta2 _
      cases hp : plB p2 with
      | false =>
        refine CP_eq (o1' := some (-2, σ)) (o2' := some (-2, τ)) ?_ ?_ (CP_same hR _)
        · rw [xs]
          unfold X_setMood
          rw [s_X_isPlace, hp]; rfl
        · rw [mt, mo, hp]; rfl
      | true =>
        obtain ⟨o, m, ho, hm, e1, e2⟩ := plB_t hp
        obtain ⟨ma, mb⟩ := m_mood hM ho hm
        have mt : M_set (nI 0) p2 p3 τ = (M_in (p3).toInt64 (0 : Int64) (nI 99).toInt64 τ).bind fun q4 =>
          if q4.1 = 0 then some ((-2 : Int32), q4.2) else
            (M_told p2 (nI 0) q4.2).bind fun q5 =>
            (M_lays (nI 0) p2 p3 q5.2).bind fun σ6 =>
            some (q5.1, σ6) := by rw [mt, mo, hp]; rfl
        have xs : X_set (nI 0) p2 p3 σ = if p3 < 0 then some (-2, σ) else if p3 < 100 then (X_moodAt (p2 / (100 : Int32)) (p2 - p2 / (100 : Int32) * (100 : Int32)) σ).bind fun q2 =>
            (X_giveMood (p2 / (100 : Int32)) (p2 - p2 / (100 : Int32) * (100 : Int32)) p3 q2.2).bind fun σ3 => some (q2.1, σ3) else some (-2, σ) := by
          rw [xs]
          unfold X_setMood
          rw [s_X_isPlace, hp]; rfl
        rw [s_M_in0 p3 (by omega)] at mt
        cases hv : irB p3 100 with
        | false =>
          refine CP_eq (o1' := some (-2, σ)) (o2' := some (-2, τ)) ?_ ?_ (CP_same hR _)
          · rw [xs]
            rcases irB_f (by omega) hv with q | ⟨k, hk, hk7, rfl⟩
            · rw [if_pos q]
            · rw [if_neg (nI_pos hk), if_neg (show ¬ nI k < 100 from nI_nlt (b := 100) hk7 hk)]
          · rw [mt, hv]; rfl
        | true =>
          obtain ⟨v, hv1, rfl⟩ := irB_t (by omega) hv
          refine CP_eq (o1' := some (nI (mdS S o m), upd3 σ 23 0 (24 * o + m) (nI v))) (o2' := some (nI (mdS S o m), upd3 τ 34 0 (24 * o + m) (nI v))) ?_ ?_ ⟨_, _, _, rfl, rfl, up2 S 0 (24 * o + m) v, I, P, hX.mood, hM.mood, hV.mood hv1⟩
          · rw [xs, if_neg (nI_pos (by omega)), if_pos (show nI v < 100 from nI_lt (b := 100) hv1 (by decide)), e2, e1, x_mood hX ho hm]
            simp only [Option.bind_some]
            unfold X_giveMood
            rw [s_X_isOne', irB_n (by omega) (by omega), decide_eq_true ho]
            show ((X_isHour (nI m) σ).bind _).bind _ = _
            rw [s_X_isHour', irB_n (by omega) (by omega), decide_eq_true hm]
            show Option.bind (if nI o * 24 + nI m < 0 then none else if 72 ≤ (nI o * 24 + nI m).toNatClampNeg then none else some (upd3 σ 23 0 (nI o * 24 + nI m).toNatClampNeg (nI v))) _ = _
            rw [show nI o * 24 + nI m = nI (24 * o + m) by rw [show (24 : Int32) = nI 24 from rfl, na_mul, na_add, Nat.mul_comm], if_neg (nI_pos (by omega)), na_cl (by omega), if_neg (by omega)]
            rfl
          · rw [mt, hv]
            show (M_told p2 (nI 0) τ).bind _ = _
            unfold M_told
            rw [ti]
            show ((M_isOf (nI 0) p2 τ).bind _).bind _ = _
            rw [mo, hp]
            simp only [Option.bind_some]
            rw [if_neg (show ¬ b2 true = 0 by decide), if_pos (show nI 0 < 4 by decide), if_pos (show nI 0 = 0 by decide)]
            have mp : M_placeOf p2 τ = some (nI (24 * o + m), τ) := by
              unfold M_placeOf
              rw [e2, e1, ma]
            have ml : M_lays (nI 0) p2 (nI v) τ = some (upd3 τ 34 0 (24 * o + m) (nI v)) := by
              unfold M_lays
              rw [if_pos (by decide), mp]
              simp only [Option.bind_some]
              rw [if_neg (nI_pos (by omega)), na_cl (by omega), if_neg (by omega)]
            rw [mp]
            simp only [Option.bind_some]
            rw [if_neg (nI_pos (by omega)), na_cl (by omega), if_neg (by omega), mb]
            simp only [Option.bind_some, ml]
    · have mo : M_isOf (nI 1) p2 τ = some (b2 (irB p2 (S 5 0)), τ) := by
        unfold M_isOf
        rw [if_neg (by decide), if_neg (by decide), s_M_isCoat hM.1.1 v1]
        simp only [Option.bind_some, b2_and]
      have xs : X_set (nI 1) p2 p3 σ = if b2 (irB p2 (S 5 0)) = 0 then some (-2, σ) else if p3 < 0 then some (-2, σ) else if (9 : Int32) < p3 then some (-2, σ) else if p2 < 0 then none else if 8 ≤ p2.toNatClampNeg then none else
              (Coat_trait p2.toNatClampNeg (nI 1) σ).bind fun q3 =>
              if p2 < 0 then none else if 8 ≤ p2.toNatClampNeg then none else
              (Coat_giveTrait p2.toNatClampNeg (nI 1) p3 q3.2).bind fun σ4 =>
              some (q3.1, σ4) := by
        unfold X_set
        rw [if_neg (by decide), if_neg (by decide), if_neg (by decide), s_X_isCoat hX.1.1 v1]
        rfl
      cases hp : irB p2 (S 5 0) with
      | false =>
        refine CP_eq (o1' := some (-2, σ)) (o2' := some (-2, τ)) ?_ ?_ (CP_same hR _)
        · rw [xs, hp]; rfl
        · rw [mt, mo, hp]; rfl
      | true =>
        obtain ⟨c, hc, rfl⟩ := irB_t (by omega) hp
        have hC := hX.2.2.1 c hc
        have hD := hM.2.2.1 c hc
        have mt : M_set (nI 1) (nI c) p3 τ = (M_in (p3).toInt64 (0 : Int64) (nI 9).toInt64 τ).bind fun q4 =>
          if q4.1 = 0 then some ((-2 : Int32), q4.2) else
            (M_told (nI c) (nI 1) q4.2).bind fun q5 =>
            (M_lays (nI 1) (nI c) p3 q5.2).bind fun σ6 =>
            some (q5.1, σ6) := by rw [mt, mo, hp]; rfl
        rw [s_M_in0 p3 (by omega)] at mt
        rw [hp, if_neg (show ¬ b2 true = 0 by decide)] at xs
        cases hv : irB p3 10 with
        | false =>
          refine CP_eq (o1' := some (-2, σ)) (o2' := some (-2, τ)) ?_ ?_ (CP_same hR _)
          · rw [xs]
            rcases irB_f (by omega) hv with q | ⟨k, hk, hk7, rfl⟩
            · rw [if_pos q]
            · rw [if_neg (nI_pos hk), if_pos (show 9 < nI k from nI_lt (a := 9) hk7 hk)]
          · rw [mt, hv]; rfl
        | true =>
          obtain ⟨v, hv1, rfl⟩ := irB_t (by omega) hv
          refine CP_eq (o1' := some (nI (S 2 c), upd3 σ 1 c 1 (nI v))) (o2' := some (nI (S 2 c), upd3 τ 36 0 (3 * c) (nI v))) ?_ ?_ ⟨_, _, _, rfl, rfl, up2 S 2 c v, I, P, hX.trait hV (g := 2) (by omega) (by omega) hc, hM.trait (g := 2) (by omega) (by omega) hc, hV.trait (by omega) (by omega) (by have : mostN 2 = 9 := rfl; omega)⟩
          · rw [xs, if_neg (nI_pos (by omega)), if_neg (show ¬ 9 < nI v from nI_nlt (a := 9) (by omega) (by decide)), if_neg (nI_pos (by omega)), na_cl (by omega), if_neg (by omega), ← hC.2.1]
            show Option.bind (some (σ 1 c 1, σ)) _ = _
            simp only [Option.bind_some]
            rw [if_neg (nI_pos (by omega)), if_neg (show ¬ 8 ≤ c by omega)]
            rfl
          · have ix : 3 * nI c + nI 1 - 1 = nI (3 * c) := by rw [show (3 : Int32) = nI 3 from rfl, na_mul, na_add]; exact nI_pred _
            rw [mt, hv]
            show (M_told (nI c) (nI 1) τ).bind _ = _
            unfold M_told
            rw [ti]
            show ((M_isOf (nI 1) (nI c) τ).bind _).bind _ = _
            rw [mo, hp]
            show Option.bind (if 3 * nI c + nI 1 - 1 < 0 then none else if 24 ≤ (3 * nI c + nI 1 - 1).toNatClampNeg then none else some (τ 36 0 (3 * nI c + nI 1 - 1).toNatClampNeg, τ)) _ = _
            rw [ix, if_neg (nI_pos (by omega)), na_cl (by omega), if_neg (by omega), hD.2.1]
            simp only [Option.bind_some]
            unfold M_lays
            rw [if_neg (by decide), if_pos (by decide), ix, if_neg (nI_pos (by omega)), na_cl (by omega), if_neg (by omega)]
            rfl
    · have mo : M_isOf (nI 2) p2 τ = some (b2 (irB p2 (S 5 0)), τ) := by
        unfold M_isOf
        rw [if_neg (by decide), if_neg (by decide), s_M_isCoat hM.1.1 v1]
        simp only [Option.bind_some, b2_and]
      have xs : X_set (nI 2) p2 p3 σ = if b2 (irB p2 (S 5 0)) = 0 then some (-2, σ) else if p3 < 0 then some (-2, σ) else if (99 : Int32) < p3 then some (-2, σ) else if p2 < 0 then none else if 8 ≤ p2.toNatClampNeg then none else
              (Coat_trait p2.toNatClampNeg (nI 2) σ).bind fun q3 =>
              if p2 < 0 then none else if 8 ≤ p2.toNatClampNeg then none else
              (Coat_giveTrait p2.toNatClampNeg (nI 2) p3 q3.2).bind fun σ4 =>
              some (q3.1, σ4) := by
        unfold X_set
        rw [if_neg (by decide), if_neg (by decide), if_neg (by decide), s_X_isCoat hX.1.1 v1]
        rfl
      cases hp : irB p2 (S 5 0) with
      | false =>
        refine CP_eq (o1' := some (-2, σ)) (o2' := some (-2, τ)) ?_ ?_ (CP_same hR _)
        · rw [xs, hp]; rfl
        · rw [mt, mo, hp]; rfl
      | true =>
        obtain ⟨c, hc, rfl⟩ := irB_t (by omega) hp
        have hC := hX.2.2.1 c hc
        have hD := hM.2.2.1 c hc
        have mt : M_set (nI 2) (nI c) p3 τ = (M_in (p3).toInt64 (0 : Int64) (nI 99).toInt64 τ).bind fun q4 =>
          if q4.1 = 0 then some ((-2 : Int32), q4.2) else
            (M_told (nI c) (nI 2) q4.2).bind fun q5 =>
            (M_lays (nI 2) (nI c) p3 q5.2).bind fun σ6 =>
            some (q5.1, σ6) := by rw [mt, mo, hp]; rfl
        rw [s_M_in0 p3 (by omega)] at mt
        rw [hp, if_neg (show ¬ b2 true = 0 by decide)] at xs
        cases hv : irB p3 100 with
        | false =>
          refine CP_eq (o1' := some (-2, σ)) (o2' := some (-2, τ)) ?_ ?_ (CP_same hR _)
          · rw [xs]
            rcases irB_f (by omega) hv with q | ⟨k, hk, hk7, rfl⟩
            · rw [if_pos q]
            · rw [if_neg (nI_pos hk), if_pos (show 99 < nI k from nI_lt (a := 99) hk7 hk)]
          · rw [mt, hv]; rfl
        | true =>
          obtain ⟨v, hv1, rfl⟩ := irB_t (by omega) hv
          refine CP_eq (o1' := some (nI (S 3 c), upd3 σ 1 c 2 (nI v))) (o2' := some (nI (S 3 c), upd3 τ 36 0 (3 * c + 1) (nI v))) ?_ ?_ ⟨_, _, _, rfl, rfl, up2 S 3 c v, I, P, hX.trait hV (g := 3) (by omega) (by omega) hc, hM.trait (g := 3) (by omega) (by omega) hc, hV.trait (by omega) (by omega) (by have : mostN 3 = 99 := rfl; omega)⟩
          · rw [xs, if_neg (nI_pos (by omega)), if_neg (show ¬ 99 < nI v from nI_nlt (a := 99) (by omega) (by decide)), if_neg (nI_pos (by omega)), na_cl (by omega), if_neg (by omega), ← hC.2.2.1]
            show Option.bind (some (σ 1 c 2, σ)) _ = _
            simp only [Option.bind_some]
            rw [if_neg (nI_pos (by omega)), if_neg (show ¬ 8 ≤ c by omega)]
            rfl
          · have ix : 3 * nI c + nI 2 - 1 = nI (3 * c + 1) := by rw [show (3 : Int32) = nI 3 from rfl, na_mul, na_add]; exact nI_pred _
            rw [mt, hv]
            show (M_told (nI c) (nI 2) τ).bind _ = _
            unfold M_told
            rw [ti]
            show ((M_isOf (nI 2) (nI c) τ).bind _).bind _ = _
            rw [mo, hp]
            show Option.bind (if 3 * nI c + nI 2 - 1 < 0 then none else if 24 ≤ (3 * nI c + nI 2 - 1).toNatClampNeg then none else some (τ 36 0 (3 * nI c + nI 2 - 1).toNatClampNeg, τ)) _ = _
            rw [ix, if_neg (nI_pos (by omega)), na_cl (by omega), if_neg (by omega), hD.2.2.1]
            simp only [Option.bind_some]
            unfold M_lays
            rw [if_neg (by decide), if_pos (by decide), ix, if_neg (nI_pos (by omega)), na_cl (by omega), if_neg (by omega)]
            rfl
    · have mo : M_isOf (nI 3) p2 τ = some (b2 (irB p2 (S 5 0)), τ) := by
        unfold M_isOf
        rw [if_neg (by decide), if_neg (by decide), s_M_isCoat hM.1.1 v1]
        simp only [Option.bind_some, b2_and]
      have xs : X_set (nI 3) p2 p3 σ = if b2 (irB p2 (S 5 0)) = 0 then some (-2, σ) else if p3 < 0 then some (-2, σ) else if (999 : Int32) < p3 then some (-2, σ) else if p2 < 0 then none else if 8 ≤ p2.toNatClampNeg then none else
              (Coat_trait p2.toNatClampNeg (nI 3) σ).bind fun q3 =>
              if p2 < 0 then none else if 8 ≤ p2.toNatClampNeg then none else
              (Coat_giveTrait p2.toNatClampNeg (nI 3) p3 q3.2).bind fun σ4 =>
              some (q3.1, σ4) := by
        unfold X_set
        rw [if_neg (by decide), if_neg (by decide), if_neg (by decide), s_X_isCoat hX.1.1 v1]
        rfl
      cases hp : irB p2 (S 5 0) with
      | false =>
        refine CP_eq (o1' := some (-2, σ)) (o2' := some (-2, τ)) ?_ ?_ (CP_same hR _)
        · rw [xs, hp]; rfl
        · rw [mt, mo, hp]; rfl
      | true =>
        obtain ⟨c, hc, rfl⟩ := irB_t (by omega) hp
        have hC := hX.2.2.1 c hc
        have hD := hM.2.2.1 c hc
        have mt : M_set (nI 3) (nI c) p3 τ = (M_in (p3).toInt64 (0 : Int64) (nI 999).toInt64 τ).bind fun q4 =>
          if q4.1 = 0 then some ((-2 : Int32), q4.2) else
            (M_told (nI c) (nI 3) q4.2).bind fun q5 =>
            (M_lays (nI 3) (nI c) p3 q5.2).bind fun σ6 =>
            some (q5.1, σ6) := by rw [mt, mo, hp]; rfl
        rw [s_M_in0 p3 (by omega)] at mt
        rw [hp, if_neg (show ¬ b2 true = 0 by decide)] at xs
        cases hv : irB p3 1000 with
        | false =>
          refine CP_eq (o1' := some (-2, σ)) (o2' := some (-2, τ)) ?_ ?_ (CP_same hR _)
          · rw [xs]
            rcases irB_f (by omega) hv with q | ⟨k, hk, hk7, rfl⟩
            · rw [if_pos q]
            · rw [if_neg (nI_pos hk), if_pos (show 999 < nI k from nI_lt (a := 999) hk7 hk)]
          · rw [mt, hv]; rfl
        | true =>
          obtain ⟨v, hv1, rfl⟩ := irB_t (by omega) hv
          refine CP_eq (o1' := some (nI (S 4 c), upd3 σ 1 c 3 (nI v))) (o2' := some (nI (S 4 c), upd3 τ 36 0 (3 * c + 2) (nI v))) ?_ ?_ ⟨_, _, _, rfl, rfl, up2 S 4 c v, I, P, hX.trait hV (g := 4) (by omega) (by omega) hc, hM.trait (g := 4) (by omega) (by omega) hc, hV.trait (by omega) (by omega) (by have : mostN 4 = 999 := rfl; omega)⟩
          · rw [xs, if_neg (nI_pos (by omega)), if_neg (show ¬ 999 < nI v from nI_nlt (a := 999) (by omega) (by decide)), if_neg (nI_pos (by omega)), na_cl (by omega), if_neg (by omega), ← hC.2.2.2]
            show Option.bind (some (σ 1 c 3, σ)) _ = _
            simp only [Option.bind_some]
            rw [if_neg (nI_pos (by omega)), if_neg (show ¬ 8 ≤ c by omega)]
            rfl
          · have ix : 3 * nI c + nI 3 - 1 = nI (3 * c + 2) := by rw [show (3 : Int32) = nI 3 from rfl, na_mul, na_add]; exact nI_pred _
            rw [mt, hv]
            show (M_told (nI c) (nI 3) τ).bind _ = _
            unfold M_told
            rw [ti]
            show ((M_isOf (nI 3) (nI c) τ).bind _).bind _ = _
            rw [mo, hp]
            show Option.bind (if 3 * nI c + nI 3 - 1 < 0 then none else if 24 ≤ (3 * nI c + nI 3 - 1).toNatClampNeg then none else some (τ 36 0 (3 * nI c + nI 3 - 1).toNatClampNeg, τ)) _ = _
            rw [ix, if_neg (nI_pos (by omega)), na_cl (by omega), if_neg (by omega), hD.2.2.2]
            simp only [Option.bind_some]
            unfold M_lays
            rw [if_neg (by decide), if_pos (by decide), ix, if_neg (nI_pos (by omega)), na_cl (by omega), if_neg (by omega)]
            rfl
/-- a coat comes -/
def coatS (S : Nat → Nat → Nat) (kd nb ct : Nat) : Nat → Nat → Nat := up2 (up2 (up2 (up2 (up2 S 1 (S 5 0) kd) 2 (S 5 0) nb) 3 (S 5 0) ct) 4 (S 5 0) 0) 5 0 (S 5 0 + 1)
theorem coatS_off {S : Nat → Nat → Nat} {kd nb ct g i : Nat} (h1 : i ≠ S 5 0 ∨ g = 0 ∨ 6 ≤ g ∨ (g = 5 ∧ i ≠ 0)) (h2 : ¬ (g = 5 ∧ i = 0)) : coatS S kd nb ct g i = S g i := by
  unfold coatS
  rw [up2n _ _ _ _ h2, up2n _ _ _ _ (by omega), up2n _ _ _ _ (by omega), up2n _ _ _ _ (by omega), up2n _ _ _ _ (by omega)]
theorem coatS_at {S : Nat → Nat → Nat} {kd nb ct : Nat} : coatS S kd nb ct 1 (S 5 0) = kd ∧ coatS S kd nb ct 2 (S 5 0) = nb ∧ coatS S kd nb ct 3 (S 5 0) = ct ∧ coatS S kd nb ct 4 (S 5 0) = 0 ∧ coatS S kd nb ct 5 0 = S 5 0 + 1 := by
  refine ⟨?_, ?_, ?_, ?_, ?_⟩ <;> simp [coatS, up2]
theorem q_coat (hR : Rel σ τ) (p1 p2 p3 : Int32) : CP (X_coat p1 p2 p3 σ) (M_coat p1 p2 p3 τ) := by
  obtain ⟨S, I, P, hX, hM, hV⟩ := id hR
  obtain ⟨v1, v2, v3, v4⟩ := hV.1
  have mc : M_coat p1 p2 p3 τ = if irB p1 6 = false then some (-2, τ) else if irB p2 10 = false then some (-2, τ) else if irB p3 100 = false then some (-2, τ) else if τ 30 0 10 = 8 then some (-4, τ) else
          if (τ 30 0 10) < 0 then none else if 8 ≤ (τ 30 0 10).toNatClampNeg then none else
          let σ4 := upd3 τ 35 0 ((τ 30 0 10).toNatClampNeg) p1
          if ((3 : Int32) * (σ4 30 0 10)) < 0 then none else if 24 ≤ ((3 : Int32) * (σ4 30 0 10)).toNatClampNeg then none else
          let σ5 := upd3 σ4 36 0 (((3 : Int32) * (σ4 30 0 10)).toNatClampNeg) p2
          if (((3 : Int32) * (σ5 30 0 10)) + (1 : Int32)) < 0 then none else if 24 ≤ (((3 : Int32) * (σ5 30 0 10)) + (1 : Int32)).toNatClampNeg then none else
          let σ6 := upd3 σ5 36 0 ((((3 : Int32) * (σ5 30 0 10)) + (1 : Int32)).toNatClampNeg) p3
          if (((3 : Int32) * (σ6 30 0 10)) + (2 : Int32)) < 0 then none else if 24 ≤ (((3 : Int32) * (σ6 30 0 10)) + (2 : Int32)).toNatClampNeg then none else
          let σ7 := upd3 σ6 36 0 ((((3 : Int32) * (σ6 30 0 10)) + (2 : Int32)).toNatClampNeg) (0 : Int32)
          let σ8 := upd3 σ7 30 0 10 ((σ7 30 0 10) + (1 : Int32))
          some (((σ8 30 0 10) - (1 : Int32)), σ8) := by
    unfold M_coat
    rw [M_in_l p1 5 (by omega)]
    simp only [Option.bind_some, b2_0]
    cases irB p1 6 with
    | false => rfl
    | true =>
      rw [if_neg (by decide), if_neg (by decide), M_in_l p2 9 (by omega)]
      simp only [Option.bind_some, b2_0]
      cases irB p2 10 with
      | false => rfl
      | true =>
        rw [if_neg (by decide), if_neg (by decide), M_in_l p3 99 (by omega)]
        simp only [Option.bind_some, b2_0]
  have xbad : irB p1 6 = false ∨ irB p2 10 = false ∨ irB p3 100 = false → X_coat p1 p2 p3 σ = some (-2, σ) := by
    intro h
    unfold X_coat
    by_cases a1 : p1 < 0
    · rw [if_pos a1]
    rw [if_neg a1]
    by_cases a2 : p1 < 6
    · rw [if_pos a2]
      have g1 : irB p1 6 = true := by unfold irB; exact decide_eq_true ⟨a1, a2⟩
      by_cases b1 : p2 < 0
      · rw [if_pos b1]
      rw [if_neg b1]
      by_cases b2 : p2 < 10
      · rw [if_pos b2]
        have g2 : irB p2 10 = true := by unfold irB; exact decide_eq_true ⟨b1, b2⟩
        by_cases c1 : p3 < 0
        · rw [if_pos c1]
        rw [if_neg c1]
        by_cases c2 : p3 < 100
        · have g3 : irB p3 100 = true := by unfold irB; exact decide_eq_true ⟨c1, c2⟩
          rw [g1, g2, g3] at h
          simp at h
        · rw [if_neg c2]
      · rw [if_neg b2]
    · rw [if_neg a2]
  cases h1 : irB p1 6 with
  | false => exact CP_eq (xbad (Or.inl h1)) (by rw [mc, if_pos h1]) (CP_same hR _)
  | true =>
    cases h2 : irB p2 10 with
    | false => exact CP_eq (xbad (Or.inr (Or.inl h2))) (by rw [mc, if_neg (by rw [h1]; decide), if_pos h2]) (CP_same hR _)
    | true =>
      cases h3 : irB p3 100 with
      | false => exact CP_eq (xbad (Or.inr (Or.inr h3))) (by rw [mc, if_neg (by rw [h1]; decide), if_neg (by rw [h2]; decide), if_pos h3]) (CP_same hR _)
      | true =>
        rw [h1, h2, h3, if_neg (by decide), if_neg (by decide), if_neg (by decide), hM.1.1] at mc
        obtain ⟨kd, hk, rfl⟩ := irB_t (by omega) h1
        obtain ⟨nb, hn, rfl⟩ := irB_t (by omega) h2
        obtain ⟨ct, hc, rfl⟩ := irB_t (by omega) h3
        have xc : X_coat (nI kd) (nI nb) (nI ct) σ = if nI (S 5 0) < 8 then (if nI (S 5 0) < 0 then none else if 8 ≤ (nI (S 5 0)).toNatClampNeg then none else
                (Coat_comeAs (nI (S 5 0)).toNatClampNeg (nI kd) (nI nb) (nI ct) σ).bind fun σ1 =>
                let σ2 := upd3 σ1 0 0 2 ((σ1 0 0 2) + (1 : Int32))
                some (((σ2 0 0 2) - (1 : Int32)), σ2)) else some (-4, σ) := by
          unfold X_coat
          rw [if_neg (nI_pos (by omega)), if_pos (show nI kd < 6 from nI_lt (b := 6) hk (by decide)), if_neg (nI_pos (by omega)), if_pos (show nI nb < 10 from nI_lt (b := 10) hn (by decide)), if_neg (nI_pos (by omega)), if_pos (show nI ct < 100 from nI_lt (b := 100) hc (by decide)), hX.1.1]
        by_cases full : S 5 0 = 8
        · refine CP_eq (o1' := some (-4, σ)) (o2' := some (-4, τ)) ?_ ?_ (CP_same hR _)
          · rw [xc, full]; rfl
          · rw [mc, full]; rfl
        · have hlt : S 5 0 < 8 := by omega
          rw [if_neg (show ¬ nI (S 5 0) = 8 from na_ne (by omega) (m := 8) (by omega) full), if_neg (nI_pos (by omega)), na_cl (by omega), if_neg (by omega)] at mc
          rw [if_pos (show nI (S 5 0) < 8 from nI_lt (b := 8) hlt (by decide)), if_neg (nI_pos (by omega)), na_cl (by omega), if_neg (by omega)] at xc
          obtain ⟨a1, a2, a3, a4⟩ := hX.1
          obtain ⟨m1, m2, m3, m4⟩ := hM.1
          obtain ⟨k1, k2, k3, k4, k5⟩ := coatS_at (S := S) (kd := kd) (nb := nb) (ct := ct)
          refine CP_mk (r := nI (S 5 0)) (S := coatS S kd nb ct) (I := I) (P := P) ?_ ?_ ?_
          · rw [xc]
            refine wp_some ⟨?_, ?_⟩
            · simp only [upd3]
              simp [a1]
            · have rd : ∀ g i j, ¬ (g = 0 ∧ i = 0 ∧ j = 2) → ¬ (g = 1 ∧ i = S 5 0) → upd3 (upd3 (upd3 (upd3 (upd3 σ 1 (S 5 0) 0 (nI kd)) 1 (S 5 0) 1 (nI nb)) 1 (S 5 0) 2 (nI ct)) 1 (S 5 0) 3 0) 0 0 2 (upd3 (upd3 (upd3 (upd3 σ 1 (S 5 0) 0 (nI kd)) 1 (S 5 0) 1 (nI nb)) 1 (S 5 0) 2 (nI ct)) 1 (S 5 0) 3 0 0 0 2 + 1) g i j = σ g i j := by
                intro g i j q1 q2
                rw [u3n _ _ _ _ _ q1, u3n _ _ _ _ _ (fun q => q2 ⟨q.1, q.2.1⟩), u3n _ _ _ _ _ (fun q => q2 ⟨q.1, q.2.1⟩), u3n _ _ _ _ _ (fun q => q2 ⟨q.1, q.2.1⟩), u3n _ _ _ _ _ (fun q => q2 ⟨q.1, q.2.1⟩)]
              refine ⟨⟨?_, ?_, ?_, ?_⟩, hX.2.1.cg (fun k => coatS_off (Or.inr (Or.inl rfl)) (by omega)) (fun j => rd 23 0 j (by omega) (by omega)), fun c hc2 => ?_, hX.2.2.2.1.cg (coatS_off (by omega) (by omega)) (fun k => coatS_off (by omega) (by omega)) (fun j => rd 7 0 j (by omega) (by omega)), hX.2.2.2.2.1.cg (fun s => coatS_off (by omega) (by omega)) (fun s => coatS_off (by omega) (by omega)) (fun s j => rd 12 s j (by omega) (by omega)) (fun s j => rd 13 s j (by omega) (by omega)), hX.2.2.2.2.2.1.cg (fun k hk => coatS_off (by omega) (by omega)) (fun g c hg => coatS_off (by omega) (by omega)) (fun q c hc2 => coatS_off (by have := (hV.2.2.2.2.2 q).1; omega) (by omega)) (fun j => rd 20 0 j (by omega) (by omega)) (fun j => rd 21 0 j (by omega) (by omega)) (fun c j => rd 1 (9 + c) j (by omega) (by omega)), hX.2.2.2.2.2.2.cg (coatS_off (by omega) (by omega)) (fun i j => rd 3 i j (by omega) (by omega)) (fun i j => rd 4 i j (by omega) (by omega))⟩
              · rw [k5]
                simp [upd3, a1, nI_succ]
              · rw [coatS_off (by omega) (by omega)]
                exact (rd _ _ _ (by omega) (by omega)).trans a2
              · rw [coatS_off (by omega) (by omega)]
                exact (rd _ _ _ (by omega) (by omega)).trans a3
              · rw [coatS_off (by omega) (by omega)]
                exact (rd _ _ _ (by omega) (by omega)).trans a4
              · rw [k5] at hc2
                by_cases e : c = S 5 0
                · subst e
                  rw [k1, k2, k3, k4]
                  refine ⟨?_, ?_, ?_, ?_⟩ <;> simp [upd3]
                  rfl
                · rw [coatS_off (by omega) (by omega), coatS_off (by omega) (by omega), coatS_off (by omega) (by omega), coatS_off (by omega) (by omega)]
                  obtain ⟨g0, g1, g2, g3⟩ := hX.2.2.1 c (by omega)
                  exact ⟨(rd _ _ _ (by omega) (by omega)).trans g0, (rd _ _ _ (by omega) (by omega)).trans g1, (rd _ _ _ (by omega) (by omega)).trans g2, (rd _ _ _ (by omega) (by omega)).trans g3⟩
          · have e3 : (3 : Int32) * nI (S 5 0) = nI (3 * S 5 0) := na_mul 3 _
            have c1 : upd3 τ 35 0 (S 5 0) (nI kd) 30 0 10 = nI (S 5 0) := (u3n _ _ _ _ _ (by omega)).trans m1
            have c2 : upd3 (upd3 τ 35 0 (S 5 0) (nI kd)) 36 0 (3 * S 5 0) (nI nb) 30 0 10 = nI (S 5 0) := (u3n _ _ _ _ _ (by omega)).trans c1
            have c3 : upd3 (upd3 (upd3 τ 35 0 (S 5 0) (nI kd)) 36 0 (3 * S 5 0) (nI nb)) 36 0 (3 * S 5 0 + 1) (nI ct) 30 0 10 = nI (S 5 0) := (u3n _ _ _ _ _ (by omega)).trans c2
            have c4 : upd3 (upd3 (upd3 (upd3 τ 35 0 (S 5 0) (nI kd)) 36 0 (3 * S 5 0) (nI nb)) 36 0 (3 * S 5 0 + 1) (nI ct)) 36 0 (3 * S 5 0 + 2) 0 30 0 10 = nI (S 5 0) := (u3n _ _ _ _ _ (by omega)).trans c3
            simp only [c1, e3, na_cl (show 3 * S 5 0 < 2147483648 by omega), if_neg (nI_pos (show 3 * S 5 0 < 2147483648 by omega)), if_neg (show ¬ 24 ≤ 3 * S 5 0 by omega), c2, show (1 : Int32) = nI 1 from rfl, na_add, na_cl (show 3 * S 5 0 + 1 < 2147483648 by omega), if_neg (nI_pos (show 3 * S 5 0 + 1 < 2147483648 by omega)), if_neg (show ¬ 24 ≤ 3 * S 5 0 + 1 by omega), c3, show (2 : Int32) = nI 2 from rfl, na_cl (show 3 * S 5 0 + 2 < 2147483648 by omega), if_neg (nI_pos (show 3 * S 5 0 + 2 < 2147483648 by omega)), if_neg (show ¬ 24 ≤ 3 * S 5 0 + 2 by omega), c4, u3s, na_sub (show 1 ≤ S 5 0 + 1 by omega), Nat.add_sub_cancel] at mc
            rw [mc]
            refine wp_some ⟨rfl, ?_⟩
            have rd : ∀ g j, ¬ (g = 30 ∧ j = 10) → ¬ (g = 35 ∧ j = S 5 0) → ¬ (g = 36 ∧ 3 * S 5 0 ≤ j ∧ j ≤ 3 * S 5 0 + 2) → upd3 (upd3 (upd3 (upd3 (upd3 τ 35 0 (S 5 0) (nI kd)) 36 0 (3 * S 5 0) (nI nb)) 36 0 (3 * S 5 0 + 1) (nI ct)) 36 0 (3 * S 5 0 + 2) 0) 30 0 10 (nI (S 5 0 + 1)) g 0 j = τ g 0 j := by
              intro g j q1 q2 q3
              rw [u3n _ _ _ _ _ (by omega), u3n _ _ _ _ _ (by omega), u3n _ _ _ _ _ (by omega), u3n _ _ _ _ _ (by omega), u3n _ _ _ _ _ (by omega)]
            refine ⟨⟨?_, ?_, ?_, ?_⟩, hM.2.1.cg (fun k => coatS_off (Or.inr (Or.inl rfl)) (by omega)) (fun j => rd 34 j (by omega) (by omega) (by omega)), fun c hc2 => ?_, hM.2.2.2.1.cg (coatS_off (by omega) (by omega)) (fun k => coatS_off (by omega) (by omega)) (fun j => rd 33 j (by omega) (by omega) (by omega)), hM.2.2.2.2.1.cg (fun s => coatS_off (by omega) (by omega)) (fun s => coatS_off (by omega) (by omega)) (fun g j hg => rd g j (by omega) (by omega) (by omega)), hM.2.2.2.2.2.1.cg (fun k hk => coatS_off (by omega) (by omega)) (fun g c hg => coatS_off (by omega) (by omega)) (fun j hj => rd 30 j (by omega) (by omega) (by omega)) (fun j => rd 45 j (by omega) (by omega) (by omega)) (fun j => rd 46 j (by omega) (by omega) (by omega)), hM.2.2.2.2.2.2.cg (coatS_off (by omega) (by omega)) (fun j => rd 31 j (by omega) (by omega) (by omega)) (fun j => rd 32 j (by omega) (by omega) (by omega))⟩
            · rw [k5]; simp [upd3]
            · rw [coatS_off (by omega) (by omega)]
              exact (rd _ _ (by omega) (by omega) (by omega)).trans m2
            · rw [coatS_off (by omega) (by omega)]
              exact (rd _ _ (by omega) (by omega) (by omega)).trans m3
            · rw [coatS_off (by omega) (by omega)]
              exact (rd _ _ (by omega) (by omega) (by omega)).trans m4
            · rw [k5] at hc2
              by_cases e : c = S 5 0
              · subst e
                rw [k1, k2, k3, k4]
                refine ⟨?_, ?_, ?_, ?_⟩ <;> simp [upd3]
                rfl
              · rw [coatS_off (by omega) (by omega), coatS_off (by omega) (by omega), coatS_off (by omega) (by omega), coatS_off (by omega) (by omega)]
                obtain ⟨g0, g1, g2, g3⟩ := hM.2.2.1 c (by omega)
                exact ⟨(rd _ _ (by omega) (by omega) (by omega)).trans g0, (rd _ _ (by omega) (by omega) (by omega)).trans g1, (rd _ _ (by omega) (by omega) (by omega)).trans g2, (rd _ _ (by omega) (by omega) (by omega)).trans g3⟩
          · refine ⟨⟨?_, ?_, ?_, ?_⟩, hV.2.1.cg (fun k => coatS_off (Or.inr (Or.inl rfl)) (by omega)), fun c hc2 => ?_, hV.2.2.2.1.cg (coatS_off (by omega) (by omega)) (fun k => coatS_off (by omega) (by omega)), hV.2.2.2.2.1.cg (fun s => coatS_off (by omega) (by omega)) (fun s => coatS_off (by omega) (by omega)), fun q => ?_⟩
            · rw [k5]; omega
            · rw [coatS_off (by omega) (by omega), coatS_off (by omega) (by omega)]; exact v2
            · rw [coatS_off (by omega) (by omega)]; exact v3
            · rw [coatS_off (by omega) (by omega)]; exact v4
            · rw [k5] at hc2
              by_cases e : c = S 5 0
              · subst e
                rw [k1, k2, k3, k4]
                exact ⟨hk, hn, hc, by omega⟩
              · rw [coatS_off (by omega) (by omega), coatS_off (by omega) (by omega), coatS_off (by omega) (by omega), coatS_off (by omega) (by omega)]
                exact hV.2.2.1 c (by omega)
            · rw [coatS_off (by omega) (by omega)] at q
              obtain ⟨h1, h2, h3, h4⟩ := hV.2.2.2.2.2 q
              rw [k5, coatS_off (g := 5) (i := 5) (by omega) (by omega), coatS_off (g := 5) (i := 6) (by omega) (by omega), coatS_off (g := 5) (i := 2) (by omega) (by omega)]
              refine ⟨by omega, h2, fun k hk => by rw [coatS_off (by omega) (by omega)]; exact h3 k hk, fun c hc2 => ?_⟩
              rw [coatS_off (by omega) (by omega), coatS_off (by omega) (by omega), coatS_off (by omega) (by omega), coatS_off (by omega) (by omega)]
              exact h4 c hc2
end
