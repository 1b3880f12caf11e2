/-! the calls: day, whole -/
section
variable {S : Nat → Nat → Nat} {I : Nat → Nat → Int32} {P : Nat → Txt} {σ τ : Sg}
theorem qd_no {v1 p2 : Int32} (h : ∀ k, k < 5 → ¬ p2 = nI k) : X_day_J47 v1 p2 σ = some (-2, σ) := by
  unfold X_day_J47
  rw [if_neg (show ¬ p2 = 0 from h 0 (by omega)), if_neg (show ¬ p2 = 1 from h 1 (by omega)), if_neg (show ¬ p2 = 2 from h 2 (by omega)), if_neg (show ¬ p2 = 3 from h 3 (by omega)), if_neg (show ¬ p2 = 4 from h 4 (by omega))]
theorem qd_w (hX : RX S I P σ) (hM : RM S I P τ) (hV : SV S) {p h : Nat} (hp : p < 3) (hh : h < 24) : CP ((X_tellDay (nI p) σ).bind fun σ8 => (Day_cheapest σ8).bind fun q9 => (Day_wornAt (nI (h + 10) - 10) q9.2).bind fun q10 => some (q10.1, q10.2)) (M_day_J36 (nI p) (nI (h + 10)) τ) := by
  have e10 : nI (h + 10) - 10 = nI h := na_sub (a := h + 10) (b := 10) (by omega)
  rw [e10]
  refine CP_mk (S := S) (I := I) (P := P) (r := nI (cwN (cfN S P (mdS S p)) (ccN S P (mdS S p)) (S 5 0) (h + 1)) - 1) ?_ ?_ hV
  · refine wp_bind (x_tellDay hX hV hM.tp hp) ?_
    rintro σ1 ⟨k1, k2⟩
    refine wp_bind (x_cheapest (cF hV _) hV.1.1 k2) ?_
    rintro ⟨r, σ2⟩ ⟨r1, r2, r3⟩
    have r2' : Dn (cfN S P (mdS S p)) (ccN S P (mdS S p)) (S 5 0) 0 σ2 := r2
    have r3' : Fr SD σ1 σ2 := r3
    show wp ((Day_wornAt (nI h) σ2).bind _) _
    rw [x_wornAt (cF hV _) hV.1.1 hh (k2.fr r3') r2', Option.bind_some]
    exact wp_some ⟨rfl, k1.fr hV (r3'.mo fun g a j q => q.nx)⟩
  · unfold M_day_J36
    rw [if_neg (show ¬ nI (h + 10) < 4 from nI_nlt (b := 4) (by omega) (by omega))]
    refine wp_bind (m_cheapEx hM hV hp) ?_
    rintro ⟨r, τ4⟩ ⟨r1, r2, r3, r4⟩
    rw [if_neg (show ¬ nI (h + 10) = 4 from fun q => absurd ((na_eq (a := h + 10) (b := 4) (by omega) (by omega)).mp q) (by omega)), e10, if_neg (nI_pos (by omega)), na_cl (a := h) (by omega), if_neg (by omega)]
    exact wp_some ⟨r3 h hh, r2⟩
theorem q_day (hR : Rel σ τ) (p1 p2 : Int32) : CP (X_day p1 p2 σ) (M_day p1 p2 τ) := by
  obtain ⟨S, I, P, hX, hM, hV⟩ := id hR
  have mm : M_day p1 p2 τ = if b2 (irB p1 3) = 0 then some (-2, τ) else if b2 (irB p2 5) = 0 then (if (if p2 < 10 then (0 : Int32) else if 33 < p2 then 0 else 1) = 0 then some (-2, τ) else M_day_J36 p1 p2 τ) else M_day_J36 p1 p2 τ := by
    unfold M_day
    rw [s_M_isOne', Option.bind_some, M_in_l p2 4 (by omega), Option.bind_some, show (10 : Int64) = (10 : Int32).toInt64 from rfl, show (33 : Int64) = (33 : Int32).toInt64 from rfl, s_M_in, Option.bind_some]
  have xm : X_day p1 p2 σ = if b2 (irB p1 3) = 0 then some (-2, σ) else if p2 < 10 then X_day_J47 p1 p2 σ else if p2 < 34 then ((X_tellDay p1 σ).bind fun σ8 => (Day_cheapest σ8).bind fun q9 => (Day_wornAt (p2 - 10) q9.2).bind fun q10 => some (q10.1, q10.2)) else X_day_J47 p1 p2 σ := by
    unfold X_day
    rw [s_X_isOne', Option.bind_some]
  cases h1 : irB p1 3 with
  | false =>
    refine CP_eq (o1' := some (-2, σ)) (o2' := some (-2, τ)) ?_ ?_ (CP_same hR _)
    · rw [xm, h1, if_pos (show b2 false = 0 from rfl)]
    · rw [mm, h1, if_pos (show b2 false = 0 from rfl)]
  | true =>
    obtain ⟨p, hp, rfl⟩ := irB_t (by omega) h1
    rw [h1, if_neg (show ¬ b2 true = 0 by decide)] at xm mm
    rcases na_or p2 with q | ⟨k, hk, rfl⟩
    · rw [if_pos (show p2 < 10 from na_neg_lt q (n := 10) (by omega)), qd_no (fun k hk => na_neg_ne q (by omega))] at xm
      rw [irB_neg q, if_pos (show b2 false = 0 from rfl), if_pos (show p2 < 10 from na_neg_lt q (n := 10) (by omega)), if_pos rfl] at mm
      exact CP_eq xm mm (CP_same hR _)
    · rw [irB_n hk (by omega)] at mm
      rcases Nat.lt_or_ge k 5 with a | a
      · rw [if_pos (show nI k < 10 from nI_lt (b := 10) (by omega) (by decide))] at xm
        rw [decide_eq_true a, if_neg (show ¬ b2 true = 0 by decide)] at mm
        exact CP_eq xm mm (qd_J hX hM hV hp a)
      · rw [decide_eq_false (show ¬ k < 5 by omega), if_pos (show b2 false = 0 from rfl)] at mm
        have hno : ∀ j, j < 5 → ¬ nI k = nI j := fun j hj e => absurd ((na_eq (a := k) (b := j) hk (by omega)).mp e) (by omega)
        rcases Nat.lt_or_ge k 10 with b | b
        · rw [if_pos (show nI k < 10 from nI_lt (b := 10) b (by decide)), qd_no hno] at xm
          rw [if_pos (show nI k < 10 from nI_lt (b := 10) b (by decide)), if_pos rfl] at mm
          exact CP_eq xm mm (CP_same hR _)
        · rw [if_neg (show ¬ nI k < 10 from nI_nlt (b := 10) b hk)] at xm mm
          rcases Nat.lt_or_ge k 34 with c | c
          · rw [if_pos (show nI k < 34 from nI_lt (b := 34) c (by decide))] at xm
            rw [if_neg (show ¬ 33 < nI k from nI_nlt (a := 33) (by omega) (by decide)), if_neg (show ¬ (1 : Int32) = 0 by decide)] at mm
            obtain ⟨j, rfl⟩ : ∃ j, k = j + 10 := ⟨k - 10, by omega⟩
            exact CP_eq xm mm (qd_w hX hM hV hp (by omega))
          · rw [if_neg (show ¬ nI k < 34 from nI_nlt (b := 34) c hk), qd_no hno] at xm
            rw [if_pos (show 33 < nI k from nI_lt (a := 33) (by omega) hk), if_pos rfl] at mm
            exact CP_eq xm mm (CP_same hR _)
end
