/-! the calls: the reference's changes -/
section
variable {S : Nat → Nat → Nat} {I : Nat → Nat → Int32} {P : Nat → Txt} {σ τ : Sg}
theorem m_ch95 {k68 : Int32 → Sg → Option (Int32 × Sg)} {K : Int32 → Int32 → Sg → Option (Int32 × Sg)} {r : Nat → Nat} {n h c : Nat} {g : Nat × Nat} {d : Nat → Nat} {Q : Int32 × Sg → Prop} {y : Sg} (hn : n ≤ 8) (h10 : y 30 0 10 = nI n) (hh : h < 24) (h37 : y 37 0 h = nI (r h)) (hr : r h < 256) (hc : c < n) (h38 : ∀ k, k < n → y 38 0 k = nI (d k)) (hd : DvP n g d) (hm : g.1 < 1000) (bt : ∀ x, x < 256 → ∀ c, c < 8 → decide (((nI x) >>> (nI c &&& 31)) &&& 1 = (1 : Int32)) = x.testBit c) (kk : wp (K (nI h) (nI (c + 1)) (upd3 y 39 0 c (nI (nxN (r h) g c)))) Q) : wp (M_changesOf_L95 k68 K FU (nI h) (nI c) (nI (d c)) 0 y) Q := by
  have hdl : ∀ k, k < n → d k ≤ 1000000 := fun k hk => DvP_le hd hm hk
  refine loopW (fun N (x : Nat) i => M_changesOf_L95 k68 K N (nI h) (nI c) (nI x) (nI i) y) (fun i x => x ≤ d c ∧ (∀ k, k < i → x ≤ d k + 1) ∧ (x = d c ∨ ∃ k, k < i ∧ x = d k + 1)) n _ ?_ ?_ 0 (d c) FU (Nat.zero_le _) ⟨Nat.le_refl _, fun k q => absurd q (by omega), Or.inl rfl⟩ (FU_big (by omega))
  · rintro N i x hi ⟨x1, x2, x3⟩ k
    show wp (M_changesOf_L95 k68 K (N + 1) (nI h) (nI c) (nI x) (nI i) y) Q
    have hdi := hdl i hi
    have hdc := hdl c hc
    rw [M_changesOf_L95, h10, if_pos (nI_lt hi (by omega)), if_neg (nI_pos (by omega)), na_cl (a := i) (by omega), if_neg (show ¬ 9 ≤ i by omega), h38 i hi, show nI (d i) + 1 = nI (d i + 1) from (nI_succ _).symm, show nI i + 1 = nI (i + 1) from (nI_succ _).symm]
    by_cases b : d i + 1 < x
    · rw [if_pos (nI_lt b (by omega)), if_neg (nI_pos (by omega)), if_neg (show ¬ 9 ≤ i by omega)]
      refine k (d i + 1) ⟨by omega, fun a ha => ?_, Or.inr ⟨i, by omega, rfl⟩⟩
      by_cases e : a = i
      · subst e; exact Nat.le_refl _
      · have := x2 a (by omega)
        omega
    · rw [if_neg (nI_nlt (by omega) (by omega))]
      refine k x ⟨x1, fun a ha => ?_, ?_⟩
      · by_cases e : a = i
        · subst e; omega
        · exact x2 a (by omega)
      · rcases x3 with q | ⟨a, ha, q⟩
        · exact Or.inl q
        · exact Or.inr ⟨a, by omega, q⟩
  · rintro N x ⟨x1, x2, x3⟩
    show wp (M_changesOf_L95 k68 K (N + 1) (nI h) (nI c) (nI x) (nI n) y) Q
    have e := DvP_be hd hc x1 x2 x3
    subst e
    rw [M_changesOf_L95, h10, if_neg (nI_nlt (Nat.le_refl _) (by omega)), if_neg (nI_pos (by omega)), na_cl (a := h) (by omega), if_neg (show ¬ 24 ≤ h by omega), h37, show nI c + 1 = nI (c + 1) from (nI_succ _).symm]
    by_cases z : r h = 0
    · rw [if_pos (by rw [z]; rfl), if_neg (nI_pos (by omega)), na_cl (a := c) (by omega), if_neg (show ¬ 9 ≤ c by omega)]
      have : nxN (r h) g c = beN g c := by unfold nxN; rw [if_pos z]
      rw [this] at kk
      exact kk
    · have hb := bt (r h) hr c (by omega)
      rw [if_neg (na_0 (by omega) z), if_neg (nI_pos (by omega)), if_neg (show ¬ 24 ≤ h by omega)]
      cases w : (r h).testBit c with
      | true =>
        rw [w] at hb
        rw [if_pos (of_decide_eq_true hb), if_neg (nI_pos (by omega)), na_cl (a := c) (by omega), if_neg (show ¬ 9 ≤ c by omega)]
        have : nxN (r h) g c = beN g c := by unfold nxN; rw [if_neg z, if_pos w]
        rw [this] at kk
        exact kk
      | false =>
        rw [w] at hb
        rw [if_neg (of_decide_eq_false hb), if_neg (nI_pos (by omega)), na_cl (a := c) (by omega), if_neg (show ¬ 9 ≤ c by omega)]
        have : nxN (r h) g c = 1000000 := by unfold nxN; rw [if_neg z, if_neg (by rw [w]; decide)]
        rw [this] at kk
        exact kk
theorem m_ch223 {n : Nat} {g : Nat × Nat} {d : Nat → Nat} {y : Sg} (hn : n ≤ 8) (h10 : y 30 0 10 = nI n) (h38 : ∀ k, k < n → y 38 0 k = nI (d k)) (hd : DvP n g d) (hm : g.1 < 1000) : wp (M_changesOf_L223 FU 1000000 0 y) (fun q => q.1 = nI g.1 ∧ q.2 = y) := by
  have hdl : ∀ k, k < n → d k ≤ 1000000 := fun k hk => DvP_le hd hm hk
  refine loopW (fun N (x : Nat) i => M_changesOf_L223 N (nI x) (nI i) y) (fun i x => x ≤ 1000000 ∧ (∀ k, k < i → x ≤ d k) ∧ (x = 1000000 ∨ ∃ k, k < i ∧ x = d k)) n _ ?_ ?_ 0 1000000 FU (Nat.zero_le _) ⟨Nat.le_refl _, fun k q => absurd q (by omega), Or.inl rfl⟩ (FU_big (by omega))
  · rintro N i x hi ⟨x1, x2, x3⟩ k
    show wp (M_changesOf_L223 (N + 1) (nI x) (nI i) y) _
    have hdi := hdl i hi
    rw [M_changesOf_L223, h10, if_pos (nI_lt hi (by omega)), if_neg (nI_pos (by omega)), na_cl (a := i) (by omega), if_neg (show ¬ 9 ≤ i by omega), h38 i hi, show nI i + 1 = nI (i + 1) from (nI_succ _).symm]
    by_cases b : d i < x
    · rw [if_pos (nI_lt b (by omega)), if_neg (nI_pos (by omega)), if_neg (show ¬ 9 ≤ i by omega)]
      refine k (d i) ⟨hdi, fun a ha => ?_, Or.inr ⟨i, by omega, rfl⟩⟩
      by_cases e : a = i
      · subst e; exact Nat.le_refl _
      · have := x2 a (by omega)
        omega
    · rw [if_neg (nI_nlt (by omega) (by omega))]
      refine k x ⟨x1, fun a ha => ?_, ?_⟩
      · by_cases e : a = i
        · subst e; omega
        · exact x2 a (by omega)
      · rcases x3 with q | ⟨a, ha, q⟩
        · exact Or.inl q
        · exact Or.inr ⟨a, by omega, q⟩
  · rintro N x ⟨x1, x2, x3⟩
    show wp (M_changesOf_L223 (N + 1) (nI x) (nI n) y) _
    rw [M_changesOf_L223, h10, if_neg (nI_nlt (Nat.le_refl _) (by omega))]
    refine wp_some ⟨?_, rfl⟩
    obtain ⟨⟨c0, k1, k2⟩, d2⟩ := hd
    have e0 := (d2 c0 k1).1 k2
    have e1 := x2 c0 k1
    have lo : ∀ k, k < n → g.1 ≤ d k := fun k hk => by
      cases q : g.2.testBit k with
      | true => have := (d2 k hk).1 q; omega
      | false => have := ((d2 k hk).2 q).1; omega
    have : x = g.1 := by
      rcases x3 with q | ⟨a, ha, q⟩
      · omega
      · have := lo a ha
        omega
    rw [this]
end
