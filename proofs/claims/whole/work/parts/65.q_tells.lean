/-! the calls: tells, together -/
section
variable {S : Nat → Nat → Nat} {I : Nat → Nat → Int32} {P : Nat → Txt} {σ τ : Sg}
/-- how many of aspect a are tried -/
def tkN (S : Nat → Nat → Nat) (a : Nat) : Nat := if a = 5 then S 5 2 else if a = 4 then 6 else if a = 1 then 10 else 100
theorem tkN_k (hV : SV S) {a : Nat} (h1 : 1 ≤ a) (h2 : a ≤ 5) : ∀ v, v < tkN S a → wsK S a v := by
  obtain ⟨v1, v2, v3, v4⟩ := hV.1
  have h3 : a = 1 ∨ a = 2 ∨ a = 3 ∨ a = 4 ∨ a = 5 := by omega
  intro v hv
  unfold tkN at hv
  unfold wsK
  rcases h3 with q | q | q | q | q <;> subst q
  · rw [if_neg (by omega), if_neg (by omega), if_pos rfl] at hv; omega
  · rw [if_neg (by omega), if_neg (by omega), if_neg (by omega)] at hv; omega
  · rw [if_neg (by omega), if_neg (by omega), if_neg (by omega)] at hv; omega
  · rw [if_neg (by omega), if_pos rfl] at hv; omega
  · rw [if_pos rfl] at hv; omega
/-- what a question about traits answers -/
def trR (f : Nat → Bool) (w K : Nat) : Int32 := if w = 3 ∨ w = 5 then nI (ctN f K) else if w = 4 ∨ w = 6 then foF f K 0 else nI (bsN f K)
theorem m_tells_J (hM : RM S I P τ) (hV : SV S) {s c h a w : Nat} (hs : s < 4) (h7 : S 7 s ≠ 0) (hc : c < S 5 0) (h1 : 1 ≤ a) (h2 : a ≤ 5) (hw : w ≤ 8) (hb : a = 1 ∨ a = 4 ∨ a = 5 ∨ w = 3 ∨ w = 4 ∨ w = 5 ∨ w = 6) : wp (M_tells_J126 (nI s) (nI c) (nI h) (nI w) (nI a) τ) (fun r => r.1 = trR (wsN S I P s c h a) w (tkN S a) ∧ RM S I P r.2) := by
  obtain ⟨v1, v2, v3, v4⟩ := hV.1
  have h3 : a = 1 ∨ a = 2 ∨ a = 3 ∨ a = 4 ∨ a = 5 := by omega
  have hK : tkN S a ≤ 100 := by
    unfold tkN
    split
    · omega
    · split
      · omega
      · split <;> omega
  have hb' : tkN S a ≤ 10 ∨ w = 3 ∨ w = 4 ∨ w = 5 ∨ w = 6 := by
    unfold tkN
    split
    · omega
    · split
      · omega
      · split <;> omega
  have start := m_tells_L (h := h) hV hs h7 hc h1 h2 hw hK (tkN_k hV h1 h2) hb' (tkN S a) FU 0 τ (Nat.le_refl _) (FU_big (by omega)) ⟨S (agN a) (akN a c), by rw [up2_id]; exact hM⟩ (fun _ => by rw [Nat.sub_self]; rfl)
  rw [Nat.sub_self, ctD, foF, show nI 0 = (0 : Int32) from rfl] at start
  unfold M_tells_J126
  rcases h3 with q | q | q | q | q <;> subst q
  · rw [if_neg (by decide), m_trait hM v1 (by omega) (by omega) hc]
    simp only [Option.bind_some]
    unfold M_tells_J148
    rw [if_neg (by decide), if_neg (by decide), if_pos (by decide)]
    rw [show tkN S 1 = 10 from rfl, show nI 10 - 1 = (9 : Int32) from rfl] at start
    rw [show tkN S 1 = 10 from rfl]
    exact start
  · rw [if_neg (by decide), m_trait hM v1 (by omega) (by omega) hc]
    simp only [Option.bind_some]
    unfold M_tells_J148
    rw [if_neg (by decide), if_neg (by decide), if_neg (by decide)]
    rw [show tkN S 2 = 100 from rfl, show nI 100 - 1 = (99 : Int32) from rfl] at start
    rw [show tkN S 2 = 100 from rfl]
    exact start
  · rw [if_neg (by decide), m_trait hM v1 (by omega) (by omega) hc]
    simp only [Option.bind_some]
    unfold M_tells_J148
    rw [if_neg (by decide), if_neg (by decide), if_neg (by decide)]
    rw [show tkN S 3 = 100 from rfl, show nI 100 - 1 = (99 : Int32) from rfl] at start
    rw [show tkN S 3 = 100 from rfl]
    exact start
  · rw [if_neg (by decide), m_trait hM v1 (by omega) (by omega) hc]
    simp only [Option.bind_some]
    unfold M_tells_J148
    rw [if_neg (by decide), if_pos (by decide)]
    rw [show tkN S 4 = 6 from rfl, show nI 6 - 1 = (5 : Int32) from rfl] at start
    rw [show tkN S 4 = 6 from rfl]
    exact start
  · rw [if_pos (by decide), hM.1.2.1]
    unfold M_tells_J148
    rw [if_pos (by decide), hM.1.2.2.1]
    exact start
theorem trR_b {f : Nat → Bool} {w K : Nat} (h : w = 1 ∨ w = 2 ∨ w = 7) : trR f w K = nI (bsN f K) := by
  unfold trR
  rw [if_neg (by omega), if_neg (by omega)]
theorem trR_c {f : Nat → Bool} {w K : Nat} (h : w = 3 ∨ w = 5) : trR f w K = nI (ctN f K) := if_pos h
theorem trR_l {f : Nat → Bool} {w K : Nat} (h : w = 4 ∨ w = 6) : trR f w K = foF f K 0 := by
  unfold trR
  rw [if_neg (by omega), if_pos h]
theorem tkN_1 : tkN S 1 = 10 := rfl
theorem tkN_2 : tkN S 2 = 100 := rfl
theorem tkN_3 : tkN S 3 = 100 := rfl
theorem tkN_4 : tkN S 4 = 6 := rfl
theorem tkN_5 : tkN S 5 = S 5 2 := rfl
theorem q_tells (hR : Rel σ τ) (p1 p2 p3 p4 : Int32) : CP (X_tells p1 p2 p3 p4 σ) (M_tells p1 p2 p3 p4 τ) := by
  obtain ⟨S, I, P, hX, hM, hV⟩ := id hR
  obtain ⟨v1, v2, v3, v4⟩ := hV.1
  unfold X_tells M_tells
  rw [s_X_isSheet, s_M_isSheet]
  simp only [Option.bind_some, b2_0]
  cases h1 : irB p1 4 with
  | false => exact CP_same hR (-2)
  | true =>
    obtain ⟨s, hs, rfl⟩ := irB_t (by omega) h1
    rw [if_neg (show ¬ true = false by decide), if_neg (show ¬ true = false by decide), s_X_isCoat hX.1.1 v1, s_M_isCoat hM.1.1 v1]
    simp only [Option.bind_some, b2_0]
    cases h2 : irB p2 (S 5 0) with
    | false => exact CP_same hR (-2)
    | true =>
      obtain ⟨c, hc, rfl⟩ := irB_t (by omega) h2
      rw [if_neg (show ¬ true = false by decide), if_neg (show ¬ true = false by decide), s_X_isHour', s_M_isHour']
      simp only [Option.bind_some, b2_0]
      cases h3 : irB p3 24 with
      | false => exact CP_same hR (-2)
      | true =>
        obtain ⟨h, hh, rfl⟩ := irB_t (by omega) h3
        rw [if_neg (show ¬ true = false by decide), if_neg (show ¬ true = false by decide), M_in_l p4 8 (by omega)]
        simp only [Option.bind_some, b2_0]
        cases h4 : irB p4 9 with
        | false =>
          refine CP_eq (o1' := some (-2, σ)) (o2' := some (-2, τ)) ?_ (if_pos rfl) (CP_same hR _)
          rcases irB_f (by omega) h4 with q | ⟨k, hk, hk7, rfl⟩
          · rw [if_pos q]
          · rw [if_neg (nI_pos hk), if_pos (show 8 < nI k from nI_lt (a := 8) (by omega) hk)]
        | true =>
          obtain ⟨w, hw, rfl⟩ := irB_t (by omega) h4
          obtain ⟨x1, x2⟩ := hX.2.2.2.2.1 s hs
          obtain ⟨m1, m2⟩ := hM.2.2.2.2.1 s hs
          obtain ⟨w1, w2⟩ := hV.2.2.2.2.1 s hs
          have hP := hM.tp
          by_cases h7 : S 7 s = 0
          · refine CP_eq (o1' := some (-11, σ)) (o2' := some (-11, τ)) ?_ ?_ (CP_same hR _)
            · rw [if_neg (nI_pos (by omega)), if_neg (show ¬ 8 < nI w from nI_nlt (a := 8) (by omega) (by decide)), if_neg (nI_pos (by omega)), na_cl (by omega), if_neg (by omega), x1, if_pos h7, if_pos rfl]
            · rw [if_neg (show ¬ true = false by decide), if_neg (nI_pos (by omega)), na_cl (by omega), if_neg (by omega), m1, if_pos h7, if_pos rfl]
          · have n1 : ¬ σ 12 s 1 = -1 := by rw [x1, if_neg h7]; exact srI_n1 h7 w1
            have n2 : ¬ τ 47 0 s = 0 := by rw [m1, if_neg h7]; decide
            have h9 : w = 0 ∨ w = 1 ∨ w = 2 ∨ w = 3 ∨ w = 4 ∨ w = 5 ∨ w = 6 ∨ w = 7 ∨ w = 8 := by omega
            unfold M_tells_J50 M_tells_J62 M_tells_J84
            rcases h9 with q | q | q | q | q | q | q | q | q <;> subst q
            · refine CP_mk (r := foF (otB I s (P (S 5 1)) (S 1 c) (S 2 c) (S 3 c) (S 4 c) h) (S 8 s) 0) (I := I) (P := P) ?_ ?_ hV
              · rw [if_neg (nI_pos (by omega)), if_neg (show ¬ 8 < nI 0 by decide), if_neg (nI_pos (by omega)), na_cl (by omega), if_neg (by omega), if_neg n1, if_pos (by decide), hX.1.2.1, if_neg (nI_pos (by omega)), na_cl (by omega), if_neg (by omega), if_neg (nI_pos (by omega)), na_cl (by omega), if_neg (by omega), eta2]
                exact wp_mono (x_first (h := h) (hX.2.2.2.2.2.2 _ v2) (hP _ v2) (hX.2.2.1 c hc) (hV.2.2.1 c hc) w2 (x2 h7).1 (x2 h7).2) fun r q => ⟨q.1, hX.fr hV (q.2.mo fun g a j z => z.nx)⟩
              · rw [if_neg (show ¬ true = false by decide), if_neg (nI_pos (by omega)), na_cl (by omega), if_neg (by omega), if_neg n2, if_pos (by decide), if_pos (by decide), eta2]
                exact wp_mono (m_first (h := h) hM hV hs h7 hc) fun r q => ⟨q.1, hM.fr (q.2.mo fun g a j z => z.nm)⟩
            · refine CP_mk (r := nI (bsN (wsN S I P s c h 4) 6)) (I := I) (P := P) ?_ ?_ hV
              · rw [if_neg (nI_pos (by omega)), if_neg (show ¬ 8 < nI 1 by decide), if_neg (nI_pos (by omega)), na_cl (by omega), if_neg (by omega), if_neg n1, if_neg (by decide), if_pos (by decide), eta2]
                exact x_bitsBy (a := 4) (n := 6) hX hV hP hs h7 hc (by omega) (tkN_k hV (a := 4) (by omega) (by omega))
              · rw [if_neg (show ¬ true = false by decide), if_neg (nI_pos (by omega)), na_cl (by omega), if_neg (by omega), if_neg n2, if_neg (by decide), if_neg (by decide), if_pos (by decide)]
                exact (by have m' := m_tells_J (h := h) (a := 4) (w := 1) hM hV hs h7 hc (by omega) (by omega) (by omega) (by omega); rw [trR_b (by omega), tkN_4] at m'; exact m')
            · refine CP_mk (r := nI (bsN (wsN S I P s c h 1) 10)) (I := I) (P := P) ?_ ?_ hV
              · rw [if_neg (nI_pos (by omega)), if_neg (show ¬ 8 < nI 2 by decide), if_neg (nI_pos (by omega)), na_cl (by omega), if_neg (by omega), if_neg n1, if_neg (by decide), if_neg (by decide), if_pos (by decide), eta2]
                exact x_bitsBy (a := 1) (n := 10) hX hV hP hs h7 hc (by omega) (tkN_k hV (a := 1) (by omega) (by omega))
              · rw [if_neg (show ¬ true = false by decide), if_neg (nI_pos (by omega)), na_cl (by omega), if_neg (by omega), if_neg n2, if_neg (by decide), if_neg (by decide), if_neg (by decide), if_pos (by decide)]
                exact (by have m' := m_tells_J (h := h) (a := 1) (w := 2) hM hV hs h7 hc (by omega) (by omega) (by omega) (by omega); rw [trR_b (by omega), tkN_1] at m'; exact m')
            · refine CP_mk (r := nI (ctN (wsN S I P s c h 2) 100)) (I := I) (P := P) ?_ ?_ hV
              · rw [if_neg (nI_pos (by omega)), if_neg (show ¬ 8 < nI 3 by decide), if_neg (nI_pos (by omega)), na_cl (by omega), if_neg (by omega), if_neg n1, if_neg (by decide), if_neg (by decide), if_neg (by decide), if_pos (by decide), eta2]
                exact x_manyBy (a := 2) (n := 100) hX hV hP hs h7 hc (by omega) (tkN_k hV (a := 2) (by omega) (by omega))
              · rw [if_neg (show ¬ true = false by decide), if_neg (nI_pos (by omega)), na_cl (by omega), if_neg (by omega), if_neg n2, if_neg (by decide), if_neg (by decide), if_neg (by decide), if_neg (by decide), if_pos (by decide)]
                exact (by have m' := m_tells_J (h := h) (a := 2) (w := 3) hM hV hs h7 hc (by omega) (by omega) (by omega) (by omega); rw [trR_c (by omega), tkN_2] at m'; exact m')
            · refine CP_mk (r := foF (wsN S I P s c h 2) 100 0) (I := I) (P := P) ?_ ?_ hV
              · rw [if_neg (nI_pos (by omega)), if_neg (show ¬ 8 < nI 4 by decide), if_neg (nI_pos (by omega)), na_cl (by omega), if_neg (by omega), if_neg n1, if_neg (by decide), if_neg (by decide), if_neg (by decide), if_neg (by decide), if_pos (by decide), eta2]
                exact x_leastBy (a := 2) (n := 100) hX hV hP hs h7 hc (by omega) (tkN_k hV (a := 2) (by omega) (by omega))
              · rw [if_neg (show ¬ true = false by decide), if_neg (nI_pos (by omega)), na_cl (by omega), if_neg (by omega), if_neg n2, if_neg (by decide), if_neg (by decide), if_neg (by decide), if_neg (by decide), if_pos (by decide)]
                exact (by have m' := m_tells_J (h := h) (a := 2) (w := 4) hM hV hs h7 hc (by omega) (by omega) (by omega) (by omega); rw [trR_l (by omega), tkN_2] at m'; exact m')
            · refine CP_mk (r := nI (ctN (wsN S I P s c h 3) 100)) (I := I) (P := P) ?_ ?_ hV
              · rw [if_neg (nI_pos (by omega)), if_neg (show ¬ 8 < nI 5 by decide), if_neg (nI_pos (by omega)), na_cl (by omega), if_neg (by omega), if_neg n1, if_neg (by decide), if_neg (by decide), if_neg (by decide), if_neg (by decide), if_neg (by decide), if_pos (by decide), eta2]
                exact x_manyBy (a := 3) (n := 100) hX hV hP hs h7 hc (by omega) (tkN_k hV (a := 3) (by omega) (by omega))
              · rw [if_neg (show ¬ true = false by decide), if_neg (nI_pos (by omega)), na_cl (by omega), if_neg (by omega), if_neg n2, if_neg (by decide), if_neg (by decide), if_neg (by decide), if_neg (by decide), if_neg (by decide), if_pos (by decide)]
                exact (by have m' := m_tells_J (h := h) (a := 3) (w := 5) hM hV hs h7 hc (by omega) (by omega) (by omega) (by omega); rw [trR_c (by omega), tkN_3] at m'; exact m')
            · refine CP_mk (r := foF (wsN S I P s c h 3) 100 0) (I := I) (P := P) ?_ ?_ hV
              · rw [if_neg (nI_pos (by omega)), if_neg (show ¬ 8 < nI 6 by decide), if_neg (nI_pos (by omega)), na_cl (by omega), if_neg (by omega), if_neg n1, if_neg (by decide), if_neg (by decide), if_neg (by decide), if_neg (by decide), if_neg (by decide), if_neg (by decide), if_pos (by decide), eta2]
                exact x_leastBy (a := 3) (n := 100) hX hV hP hs h7 hc (by omega) (tkN_k hV (a := 3) (by omega) (by omega))
              · rw [if_neg (show ¬ true = false by decide), if_neg (nI_pos (by omega)), na_cl (by omega), if_neg (by omega), if_neg n2, if_neg (by decide), if_neg (by decide), if_neg (by decide), if_neg (by decide), if_neg (by decide), if_pos (by decide)]
                exact (by have m' := m_tells_J (h := h) (a := 3) (w := 6) hM hV hs h7 hc (by omega) (by omega) (by omega) (by omega); rw [trR_l (by omega), tkN_3] at m'; exact m')
            · refine CP_mk (r := nI (bsN (wsN S I P s c h 5) (S 5 2))) (I := I) (P := P) ?_ ?_ hV
              · rw [if_neg (nI_pos (by omega)), if_neg (show ¬ 8 < nI 7 by decide), if_neg (nI_pos (by omega)), na_cl (by omega), if_neg (by omega), if_neg n1, if_neg (by decide), if_neg (by decide), if_neg (by decide), if_neg (by decide), if_neg (by decide), if_neg (by decide), if_neg (by decide), if_pos (by decide), eta2, hX.1.2.2.1]
                exact x_bitsBy (a := 5) (n := (S 5 2)) hX hV hP hs h7 hc (by omega) (tkN_k hV (a := 5) (by omega) (by omega))
              · rw [if_neg (show ¬ true = false by decide), if_neg (nI_pos (by omega)), na_cl (by omega), if_neg (by omega), if_neg n2, if_neg (by decide), if_neg (by decide), if_neg (by decide), if_neg (by decide), if_neg (by decide), if_neg (by decide)]
                exact (by have m' := m_tells_J (h := h) (a := 5) (w := 7) hM hV hs h7 hc (by omega) (by omega) (by omega) (by omega); rw [trR_b (by omega), tkN_5] at m'; exact m')
            · refine CP_mk (r := nI (bsN (wsN S I P s c h 6) 24)) (I := I) (P := P) ?_ ?_ hV
              · rw [if_neg (nI_pos (by omega)), if_neg (show ¬ 8 < nI 8 by decide), if_neg (nI_pos (by omega)), na_cl (by omega), if_neg (by omega), if_neg n1, if_neg (by decide), if_neg (by decide), if_neg (by decide), if_neg (by decide), if_neg (by decide), if_neg (by decide), if_neg (by decide), if_neg (by decide), eta2]
                exact x_bitsBy (a := 6) (n := 24) hX hV hP hs h7 hc (by omega) (fun v hv => by unfold wsK; omega)
              · rw [if_neg (show ¬ true = false by decide), if_neg (nI_pos (by omega)), na_cl (by omega), if_neg (by omega), if_neg n2, if_neg (by decide), if_pos (by decide), if_neg (by decide), eta2]
                exact m_hourSet hM hV h hs h7 hc
end
