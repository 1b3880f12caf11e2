/-! the calls: chance -/
section
variable {S : Nat → Nat → Nat} {I : Nat → Nat → Int32} {P : Nat → Txt} {σ τ : Sg}
theorem CPL_mk {o1 o2 : Option (Int64 × Sg)} {S : Nat → Nat → Nat} {I : Nat → Nat → Int32} {P : Nat → Txt} {r : Int64} (h1 : wp o1 (fun q => q.1 = r ∧ RX S I P q.2)) (h2 : wp o2 (fun q => q.1 = r ∧ RM S I P q.2)) (hV : SV S) : CPL o1 o2 := by
  obtain ⟨q1, e1, f1, k1⟩ := h1
  obtain ⟨q2, e2, f2, k2⟩ := h2
  refine ⟨r, q1.2, q2.2, ?_, ?_, S, I, P, k1, k2, hV⟩
  · rw [e1, ← f1]
  · rw [e2, ← f2]
theorem gdN_s (seed : Int32) (k i : Nat) : gdN S P seed k (i + 1) = gdN S P seed k i + (if ccost S P (dwN (seed + nI i)) ≤ k then 1 else 0) := by
  unfold gdN
  show ctN _ i + _ = _
  by_cases c : ccost S P (dwN (seed + nI i)) ≤ k
  · simp [c]
  · simp [c]
theorem gdN_le (seed : Int32) (k i : Nat) : gdN S P seed k i ≤ i := ctN_le _ i
theorem x_chance (hX : RX S I P σ) (hV : SV S) (hP : ∀ i, i < S 5 2 → TP (P i)) (seed : Int32) {m k w : Nat} (hm : m ≤ 10) (hm0 : 0 < m) (hk : k < 10000) (hw : w < 2) : wp (X_chance_L56 FU seed (nI m) (nI k) (nI w) 0 0 σ) (fun r => r.1 = lN (lowN (gdN S P seed k m) m w) ∧ RX S I P r.2) := by
  refine loopW (fun N (y : Sg) i => X_chance_L56 N seed (nI m) (nI k) (nI w) (nI (gdN S P seed k i)) (nI i) y) (fun i y => RX S I P y) m _ ?_ ?_ 0 σ FU (Nat.zero_le _) hX (FU_big (by omega))
  · rintro N i y hi y1 kk
    have kk : ∀ s', RX S I P s' → wp (X_chance_L56 N seed (nI m) (nI k) (nI w) (nI (gdN S P seed k (i + 1))) (nI (i + 1)) s') _ := fun s' a => kk s' a
    show wp (X_chance_L56 (N + 1) seed (nI m) (nI k) (nI w) (nI (gdN S P seed k i)) (nI i) y) _
    rw [X_chance_L56, if_pos (nI_lt hi (by omega))]
    refine wp_bind (x_drawnCost y1 hV hP (seed + nI i)) ?_
    rintro ⟨r, y'⟩ ⟨r1, r2⟩
    have r1 : r = nI (ccost S P (dwN (seed + nI i))) := r1
    subst r1
    have hc := ccost_le (P := P) hV (dwN (seed + nI i))
    have fin := kk y' r2
    rw [gdN_s] at fin
    simp only [] at hc ⊢
    rw [show nI i + 1 = nI (i + 1) from (nI_succ i).symm]
    by_cases c : ccost S P (dwN (seed + nI i)) ≤ k
    · rw [if_pos c] at fin
      rw [if_neg (nI_nlt c (by omega)), show nI (gdN S P seed k i) + 1 = nI (gdN S P seed k i + 1) from (nI_succ _).symm]
      exact fin
    · rw [if_neg c] at fin
      rw [if_pos (nI_lt (by omega) (by omega))]
      exact fin
  · rintro N y y1
    show wp (X_chance_L56 (N + 1) seed (nI m) (nI k) (nI w) (nI (gdN S P seed k m)) (nI m) y) _
    have hg := gdN_le (S := S) (P := P) seed k m
    rw [X_chance_L56, if_neg (nI_nlt (Nat.le_refl _) (by omega)), x_lowest (by omega) (by omega) hm0 hw]
    exact wp_some ⟨rfl, y1⟩
theorem m_chance (hM : RM S I P τ) (hV : SV S) (seed : Int32) {p m k w : Nat} (hp : p < 3) (hm : m ≤ 10) (hm0 : 0 < m) (hk : k < 10000) (hw : w < 2) : wp (M_chance_L53 FU seed (nI m) (nI p) (nI k) (nI w) 0 0 τ) (fun r => r.1 = lN (lowN (gdN S P seed k m) m w) ∧ RM S I P r.2) := by
  refine loopW (fun N (y : Sg) i => M_chance_L53 N seed (nI m) (nI p) (nI k) (nI w) (lN (gdN S P seed k i)) (nI i) y) (fun i y => RM S I P y) m _ ?_ ?_ 0 τ FU (Nat.zero_le _) hM (FU_big (by omega))
  · rintro N i y hi y1 kk
    have kk : ∀ s', RM S I P s' → wp (M_chance_L53 N seed (nI m) (nI p) (nI k) (nI w) (lN (gdN S P seed k (i + 1))) (nI (i + 1)) s') _ := fun s' a => kk s' a
    show wp (M_chance_L53 (N + 1) seed (nI m) (nI p) (nI k) (nI w) (lN (gdN S P seed k i)) (nI i) y) _
    rw [M_chance_L53, if_pos (nI_lt hi (by omega))]
    refine wp_bind (m_cheapDrawn y1 hV hp (seed + nI i)) ?_
    rintro ⟨r, y'⟩ ⟨r1, r2⟩
    have r1 : r = nI (ccost S P (dwN (seed + nI i))) := r1
    subst r1
    have hc := ccost_le (P := P) hV (dwN (seed + nI i))
    have fin := kk y' r2
    rw [gdN_s] at fin
    simp only [] at hc ⊢
    rw [show nI i + 1 = nI (i + 1) from (nI_succ i).symm]
    by_cases c : ccost S P (dwN (seed + nI i)) ≤ k
    · rw [if_pos c] at fin
      rw [if_neg (nI_nlt c (by omega)), show lN (gdN S P seed k i) + 1 = lN (gdN S P seed k i + 1) from lN_add _ 1]
      exact fin
    · rw [if_neg c] at fin
      rw [if_pos (nI_lt (by omega) (by omega)), show lN (gdN S P seed k i) + 0 = lN (gdN S P seed k i + 0) from lN_add _ 0]
      exact fin
  · rintro N y y1
    show wp (M_chance_L53 (N + 1) seed (nI m) (nI p) (nI k) (nI w) (lN (gdN S P seed k m)) (nI m) y) _
    have hg := gdN_le (S := S) (P := P) seed k m
    rw [M_chance_L53, if_neg (nI_nlt (Nat.le_refl _) (by omega)), na_lo (by omega), m_lowest (by omega) (by omega) hm0 hw]
    exact wp_some ⟨rfl, y1⟩
theorem q_chance (hR : Rel σ τ) (p1 p2 p3 p4 p5 : Int32) : CPL (X_chance p1 p2 p3 p4 p5 σ) (M_chance p1 p2 p3 p4 p5 τ) := by
  obtain ⟨S, I, P, hX, hM, hV⟩ := id hR
  have mm : M_chance p1 p2 p3 p4 p5 τ = if (if p2 < 1 then (0 : Int32) else if 10 < p2 then 0 else 1) = 0 then some (-4611686018427387904, τ) else if b2 (irB p3 3) = 0 then some (-4611686018427387904, τ) else if b2 (irB p4 10000) = 0 then some (-4611686018427387904, τ) else if b2 (irB p5 2) = 0 then some (-4611686018427387904, τ) else M_chance_L53 FU p1 p2 p3 p4 p5 0 0 τ := by
    unfold M_chance
    rw [show (1 : Int64) = (1 : Int32).toInt64 from rfl, show (10 : Int64) = (10 : Int32).toInt64 from rfl, s_M_in]
    simp only [Option.bind_some]
    rw [s_M_isOne']
    simp only [Option.bind_some]
    rw [M_in_l p4 9999 (by omega)]
    simp only [Option.bind_some]
    rw [show ((1 : Int32).toInt64 : Int64) = (OfNat.ofNat 1 : Int64) from rfl, M_in_l p5 1 (by omega)]
    simp only [Option.bind_some]
  have xm : X_chance p1 p2 p3 p4 p5 σ = if p2 < 1 then some (-4611686018427387904, σ) else if 10 < p2 then some (-4611686018427387904, σ) else if b2 (irB p3 3) = 0 then some (-4611686018427387904, σ) else if p4 < 0 then some (-4611686018427387904, σ) else if 9999 < p4 then some (-4611686018427387904, σ) else if p5 < 0 then some (-4611686018427387904, σ) else if 1 < p5 then some (-4611686018427387904, σ) else X_chance_L56 FU p1 p2 p4 p5 0 0 σ := by
    unfold X_chance
    rw [s_X_isOne']
    simp only [Option.bind_some]
  by_cases c1 : p2 < 1
  · refine CPL_eq (o1' := some (-4611686018427387904, σ)) (o2' := some (-4611686018427387904, τ)) ?_ ?_ (CPL_same hR _)
    · rw [xm, if_pos c1]
    · rw [mm, if_pos c1, if_pos rfl]
  by_cases c2 : 10 < p2
  · refine CPL_eq (o1' := some (-4611686018427387904, σ)) (o2' := some (-4611686018427387904, τ)) ?_ ?_ (CPL_same hR _)
    · rw [xm, if_neg c1, if_pos c2]
    · rw [mm, if_neg c1, if_pos c2, if_pos rfl]
  rw [if_neg c1, if_neg c2] at xm mm
  rw [if_neg (show ¬ (1 : Int32) = 0 by decide)] at mm
  obtain ⟨m, hm, hm0, rfl⟩ : ∃ m, m ≤ 10 ∧ 0 < m ∧ p2 = nI m := by
    rcases na_or p2 with q | ⟨k, hk, rfl⟩
    · exact absurd (na_neg_lt q (n := 1) (by omega)) c1
    · refine ⟨k, ?_, ?_, rfl⟩
      · rcases Nat.lt_or_ge 10 k with q | q
        · exact absurd (nI_lt (a := 10) q hk) c2
        · exact q
      · rcases Nat.eq_zero_or_pos k with q | q
        · subst q
          exact absurd (show nI 0 < 1 by decide) c1
        · exact q
  cases h3 : irB p3 3 with
  | false =>
    refine CPL_eq (o1' := some (-4611686018427387904, σ)) (o2' := some (-4611686018427387904, τ)) ?_ ?_ (CPL_same hR _)
    · rw [xm, h3]; rfl
    · rw [mm, h3]; rfl
  | true =>
    obtain ⟨p, hp, rfl⟩ := irB_t (by omega) h3
    rw [h3, if_neg (show ¬ b2 true = 0 by decide)] at xm mm
    cases h4 : irB p4 10000 with
    | false =>
      refine CPL_eq (o1' := some (-4611686018427387904, σ)) (o2' := some (-4611686018427387904, τ)) ?_ ?_ (CPL_same hR _)
      · rw [xm]
        rcases irB_f (by omega) h4 with q | ⟨k, hk, hk7, rfl⟩
        · rw [if_pos q]
        · rw [if_neg (nI_pos hk), if_pos (show 9999 < nI k from nI_lt (a := 9999) (by omega) hk)]
      · rw [mm, h4]; rfl
    | true =>
      obtain ⟨k, hk, rfl⟩ := irB_t (by omega) h4
      rw [h4, if_neg (show ¬ b2 true = 0 by decide)] at mm
      rw [if_neg (nI_pos (by omega)), if_neg (show ¬ 9999 < nI k from nI_nlt (a := 9999) (by omega) (by decide))] at xm
      cases h5 : irB p5 2 with
      | false =>
        refine CPL_eq (o1' := some (-4611686018427387904, σ)) (o2' := some (-4611686018427387904, τ)) ?_ ?_ (CPL_same hR _)
        · rw [xm]
          rcases irB_f (by omega) h5 with q | ⟨k, hk, hk7, rfl⟩
          · rw [if_pos q]
          · rw [if_neg (nI_pos hk), if_pos (show 1 < nI k from nI_lt (a := 1) (by omega) hk)]
        · rw [mm, h5]; rfl
      | true =>
        obtain ⟨w, hw, rfl⟩ := irB_t (by omega) h5
        rw [h5, if_neg (show ¬ b2 true = 0 by decide)] at mm
        rw [if_neg (nI_pos (by omega)), if_neg (show ¬ 1 < nI w from nI_nlt (a := 1) (by omega) (by decide))] at xm
        exact CPL_eq xm mm (CPL_mk (x_chance hX hV hM.tp p1 hm hm0 hk hw) (m_chance hM hV p1 hp hm hm0 hk hw) hV)
end
