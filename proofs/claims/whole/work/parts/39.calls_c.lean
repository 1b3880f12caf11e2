/-! the calls: feed, force, count, asks, taken -/
section
variable {σ τ : Sg}
theorem RX.feed {S : Nat → Nat → Nat} {I : Nat → Nat → Int32} {P : Nat → Txt} (h : RX S I P σ) {v : Nat} : RX (up2 (up2 S 6 (S 5 3) v) 5 3 (S 5 3 + 1)) I P (upd3 (upd3 σ 7 0 (S 5 3) (nI v)) 6 0 4 (nI (S 5 3 + 1))) := by
  obtain ⟨a1, a2, a3, a4⟩ := h.1
  refine ⟨⟨?_, ?_, ?_, ?_⟩, h.2.1.cg (fun _ => rfl) (fun _ => rfl), h.2.2.1.cg rfl (fun g c h1 h2 => by rw [up2n _ _ _ _ (by omega), up2n _ _ _ _ (by omega)]) (fun c j _ => rfl), fun k hk => ?_, h.2.2.2.2.1.cg (fun _ => rfl) (fun _ => rfl) (fun _ _ => rfl) (fun _ _ => rfl), h.2.2.2.2.2.1.cg (fun _ _ => by rw [up2n _ _ _ _ (by omega), up2n _ _ _ _ (by omega)]) (fun g c h1 => by rw [up2n _ _ _ _ (by omega), up2n _ _ _ _ (by omega)]) (fun _ _ _ => rfl) (fun _ => rfl) (fun _ => rfl) (fun _ _ => rfl), h.2.2.2.2.2.2.cg rfl (fun _ _ => rfl) (fun _ _ => rfl)⟩
  · exact a1
  · exact a2
  · exact a3
  · rw [u3s, up2s]
  · rw [up2s] at hk
    rw [u3n _ _ _ _ _ (by omega), up2n _ _ _ _ (by omega)]
    by_cases e : k = S 5 3
    · subst e; rw [u3s, up2s]
    · rw [u3n _ _ _ _ _ (by omega), up2n _ _ _ _ (by omega)]; exact h.2.2.2.1 k (by omega)
theorem RM.feed {S : Nat → Nat → Nat} {I : Nat → Nat → Int32} {P : Nat → Txt} (h : RM S I P τ) {v : Nat} : RM (up2 (up2 S 6 (S 5 3) v) 5 3 (S 5 3 + 1)) I P (upd3 (upd3 τ 33 0 (S 5 3) (nI v)) 30 0 6 (nI (S 5 3 + 1))) := by
  obtain ⟨a1, a2, a3, a4⟩ := h.1
  refine ⟨⟨?_, ?_, ?_, ?_⟩, h.2.1.cg (fun _ => rfl) (fun _ => rfl), h.2.2.1.cg rfl (fun g c h1 h2 => by rw [up2n _ _ _ _ (by omega), up2n _ _ _ _ (by omega)]) (fun _ => rfl) (fun _ => rfl), fun k hk => ?_, h.2.2.2.2.1.cg (fun _ => rfl) (fun _ => rfl) (fun g j h1 => by rw [u3n _ _ _ _ _ (by omega), u3n _ _ _ _ _ (by omega)]), h.2.2.2.2.2.1.cg (fun _ _ => by rw [up2n _ _ _ _ (by omega), up2n _ _ _ _ (by omega)]) (fun g c h1 => by rw [up2n _ _ _ _ (by omega), up2n _ _ _ _ (by omega)]) (fun j hj => by rw [u3n _ _ _ _ _ (by omega), u3n _ _ _ _ _ (by omega)]) (fun _ => rfl) (fun _ => rfl), h.2.2.2.2.2.2.cg rfl (fun _ => rfl) (fun _ => rfl)⟩
  · exact a1
  · exact a2
  · exact a3
  · rw [u3s, up2s]
  · rw [up2s] at hk
    rw [u3n _ _ _ _ _ (by omega), up2n _ _ _ _ (by omega)]
    by_cases e : k = S 5 3
    · subst e; rw [u3s, up2s]
    · rw [u3n _ _ _ _ _ (by omega), up2n _ _ _ _ (by omega)]; exact h.2.2.2.1 k (by omega)
theorem SV.feed {S : Nat → Nat → Nat} (h : SV S) {v : Nat} (hv : v < 256) (hl : S 5 3 < 160) : SV (up2 (up2 S 6 (S 5 3) v) 5 3 (S 5 3 + 1)) := by
  obtain ⟨a1, a2, a3, a4⟩ := h.1
  refine ⟨⟨a1, a2, a3, ?_⟩, h.2.1.cg (fun _ => rfl), h.2.2.1.cg rfl (fun g c h1 h2 => by rw [up2n _ _ _ _ (by omega), up2n _ _ _ _ (by omega)]), fun k hk => ?_, h.2.2.2.2.1.cg (fun _ => rfl) (fun _ => rfl), fun q => h.2.2.2.2.2 q⟩
  · rw [up2s]; omega
  · rw [up2s] at hk
    rw [up2n _ _ _ _ (by omega)]
    by_cases e : k = S 5 3
    · subst e; rw [up2s]; exact hv
    · rw [up2n _ _ _ _ (by omega)]; exact h.2.2.2.1 k (by omega)
theorem q_feed (hR : Rel σ τ) (p1 : Int32) : CP (X_feed p1 σ) (M_feed p1 τ) := by
  obtain ⟨S, I, P, hX, hM, hV⟩ := id hR
  obtain ⟨v1, v2, v3, v4⟩ := hV.1
  have mf : M_feed p1 τ = if b2 (irB p1 256) = 0 then some (-2, τ) else if (τ 30 0 6) = (160 : Int32) then
      some ((-4 : Int32), τ)
    else
      if (τ 30 0 6) < 0 then none else if 160 ≤ (τ 30 0 6).toNatClampNeg then none else
      some ((upd3 (upd3 τ 33 0 ((τ 30 0 6).toNatClampNeg) p1) 30 0 6 ((upd3 τ 33 0 ((τ 30 0 6).toNatClampNeg) p1 30 0 6) + (1 : Int32)) 30 0 6), upd3 (upd3 τ 33 0 ((τ 30 0 6).toNatClampNeg) p1) 30 0 6 ((upd3 τ 33 0 ((τ 30 0 6).toNatClampNeg) p1 30 0 6) + (1 : Int32))) := by
    unfold M_feed
    rw [M_in_l p1 255 (by omega)]
    rfl
  cases hv : irB p1 256 with
  | false =>
    refine CP_eq (o1' := some (-2, σ)) (o2' := some (-2, τ)) ?_ ?_ (CP_same hR _)
    · unfold X_feed
      rcases irB_f (by omega) hv with q | ⟨k, hk, hk7, rfl⟩
      · rw [if_pos q]
      · rw [if_neg (nI_pos hk), if_pos (show 255 < nI k from nI_lt (a := 255) (by omega) hk)]
    · rw [mf, hv]; rfl
  | true =>
    obtain ⟨v, hv1, rfl⟩ := irB_t (by omega) hv
    rw [hv, if_neg (show ¬ b2 true = 0 by decide), hM.1.2.2.2] at mf
    have xf : X_feed (nI v) σ = (Tape_add (nI v) σ).bind fun q1 => if q1.1 = 0 then some ((-4 : Int32), q1.2) else some ((q1.2 6 0 4), q1.2) := by
      unfold X_feed
      rw [if_neg (nI_pos (by omega)), if_neg (show ¬ 255 < nI v from nI_nlt (a := 255) (by omega) (by decide))]
    unfold Tape_add at xf
    rw [hX.1.2.2.2] at xf
    by_cases full : S 5 3 = 160
    · refine CP_eq (o1' := some (-4, σ)) (o2' := some (-4, τ)) ?_ ?_ (CP_same hR _)
      · rw [xf, full]; rfl
      · rw [mf, full]; rfl
    · have hl : S 5 3 < 160 := by omega
      refine CP_eq (o1' := some (nI (S 5 3 + 1), upd3 (upd3 σ 7 0 (S 5 3) (nI v)) 6 0 4 (nI (S 5 3 + 1)))) (o2' := some (nI (S 5 3 + 1), upd3 (upd3 τ 33 0 (S 5 3) (nI v)) 30 0 6 (nI (S 5 3 + 1)))) ?_ ?_ ⟨_, _, _, rfl, rfl, _, I, P, hX.feed, hM.feed, hV.feed hv1 hl⟩
      · rw [xf, if_pos (show nI (S 5 3) < 160 from nI_lt (b := 160) hl (by decide)), if_neg (nI_pos (by omega)), na_cl (by omega), if_neg (by omega)]
        simp only [Option.bind_some]
        rw [if_neg (show ¬ (1 : Int32) = 0 by decide), u3s, u3n _ _ _ _ _ (by omega), hX.1.2.2.2, ← nI_succ]
      · rw [mf, if_neg (show ¬ nI (S 5 3) = 160 from na_ne (by omega) (m := 160) (by omega) full), if_neg (nI_pos (by omega)), na_cl (by omega), if_neg (by omega), u3s, u3n _ _ _ _ _ (by omega), hM.1.2.2.2, ← nI_succ]
theorem q_force (hR : Rel σ τ) (p1 : Int32) : CP (X_force p1 σ) (M_force p1 τ) := by
  obtain ⟨S, I, P, hX, hM, hV⟩ := id hR
  obtain ⟨v1, v2, v3, v4⟩ := hV.1
  have pos : 1 ≤ S 5 2 := by omega
  have mf : M_force p1 τ = if b2 (irB p1 (S 5 2)) = 0 then some (-2, τ) else some (τ 30 0 4, upd3 τ 30 0 4 p1) := by
    unfold M_force
    rw [hM.1.2.2.1]
    have e := s_M_in0 p1 (N := S 5 2 - 1) (by omega) τ
    rw [show S 5 2 - 1 + 1 = S 5 2 by omega] at e
    rw [show nI (S 5 2) - 1 = nI (S 5 2 - 1) from na_sub (b := 1) pos, e]
    rfl
  have xf : X_force p1 σ = if p1 < 0 then some (-2, σ) else if p1 < nI (S 5 2) then some (σ 0 0 6, upd3 σ 0 0 6 p1) else some (-2, σ) := by
    unfold X_force
    rw [hX.1.2.2.1]
  cases hv : irB p1 (S 5 2) with
  | false =>
    refine CP_eq (o1' := some (-2, σ)) (o2' := some (-2, τ)) ?_ ?_ (CP_same hR _)
    · rw [xf]
      rcases irB_f (by omega) hv with q | ⟨k, hk, hk7, rfl⟩
      · rw [if_pos q]
      · rw [if_neg (nI_pos hk), if_neg (nI_nlt hk7 hk)]
    · rw [mf, hv]; rfl
  | true =>
    obtain ⟨v, hv1, rfl⟩ := irB_t (by omega) hv
    refine CP_eq (o1' := some (nI (S 5 1), upd3 σ 0 0 6 (nI v))) (o2' := some (nI (S 5 1), upd3 τ 30 0 4 (nI v))) ?_ ?_ ⟨_, _, _, rfl, rfl, _, I, P, hX.rule, hM.rule, hV.rule hv1⟩
    · rw [xf, if_neg (nI_pos (by omega)), if_pos (nI_lt hv1 (by omega)), hX.1.2.1]
    · rw [mf, hv, hM.1.2.1]; rfl
theorem x_wornTogether {S : Nat → Nat → Nat} {I : Nat → Nat → Int32} {P : Nat → Txt} (hX : RX S I P σ) (hV : SV S) : X_wornTogether σ = some (nI (smN (S 4) (S 5 0)), σ) := by
  obtain ⟨v1, v2, v3, v4⟩ := hV.1
  have key : ∀ m n i, i + m = S 5 0 → m < n → X_wornTogether_L4 n (nI (smN (S 4) i)) (nI i) σ = some (nI (smN (S 4) (S 5 0)), σ) := by
    intro m
    induction m with
    | zero =>
      intro n i hi hn
      obtain ⟨n, rfl⟩ : ∃ n', n = n' + 1 := ⟨n - 1, by omega⟩
      unfold X_wornTogether_L4
      have : i = S 5 0 := by omega
      subst this
      rw [hX.1.1, if_neg (nI_nlt (Nat.le_refl _) (by omega))]
    | succ m ih =>
      intro n i hi hn
      obtain ⟨n, rfl⟩ : ∃ n', n = n' + 1 := ⟨n - 1, by omega⟩
      unfold X_wornTogether_L4
      rw [hX.1.1, if_pos (nI_lt (by omega) (by omega)), if_neg (nI_pos (by omega)), na_cl (by omega), if_neg (by omega), (hX.2.2.1 i (by omega)).2.2.2, na_add, show nI i + 1 = nI (i + 1) from (nI_succ i).symm]
      exact ih n (i + 1) (by omega) (by omega)
  exact key (S 5 0) FU 0 (by omega) (FU_big (by omega))
theorem m_count_L {S : Nat → Nat → Nat} {I : Nat → Nat → Int32} {P : Nat → Txt} (hM : RM S I P τ) (hV : SV S) (w : Int32) : M_count_L19 FU w 0 0 τ = if w = 0 then some (nI (S 5 0), τ) else if w = 1 then some (nI (smN (S 4) (S 5 0)), τ) else if w = 2 then some (nI (S 5 2), τ) else if w = 3 then some (nI (S 5 3), τ) else some (nI (S 5 1), τ) := by
  obtain ⟨v1, v2, v3, v4⟩ := hV.1
  have key : ∀ m n i, i + m = S 5 0 → m < n → M_count_L19 n w (nI (smN (S 4) i)) (nI i) τ = if w = 0 then some (nI (S 5 0), τ) else if w = 1 then some (nI (smN (S 4) (S 5 0)), τ) else if w = 2 then some (nI (S 5 2), τ) else if w = 3 then some (nI (S 5 3), τ) else some (nI (S 5 1), τ) := by
    intro m
    induction m with
    | zero =>
      intro n i hi hn
      obtain ⟨n, rfl⟩ : ∃ n', n = n' + 1 := ⟨n - 1, by omega⟩
      unfold M_count_L19
      have : i = S 5 0 := by omega
      subst this
      rw [hM.1.1, if_neg (nI_nlt (Nat.le_refl _) (by omega)), hM.1.2.1, hM.1.2.2.1, hM.1.2.2.2]
    | succ m ih =>
      intro n i hi hn
      obtain ⟨n, rfl⟩ : ∃ n', n = n' + 1 := ⟨n - 1, by omega⟩
      unfold M_count_L19
      rw [hM.1.1, if_pos (nI_lt (by omega) (by omega)), show (3 : Int32) * nI i + 2 = nI (3 * i + 2) by rw [show (3 : Int32) = nI 3 from rfl, na_mul, show (2 : Int32) = nI 2 from rfl, na_add], if_neg (nI_pos (by omega)), na_cl (by omega), if_neg (by omega), (hM.2.2.1 i (by omega)).2.2.2, na_add, show nI i + 1 = nI (i + 1) from (nI_succ i).symm]
      exact ih n (i + 1) (by omega) (by omega)
  exact key (S 5 0) FU 0 (by omega) (FU_big (by omega))
theorem q_count (hR : Rel σ τ) (p1 : Int32) : CP (X_count p1 σ) (M_count p1 τ) := by
  obtain ⟨S, I, P, hX, hM, hV⟩ := id hR
  obtain ⟨a1, a2, a3, a4⟩ := hX.1
  have mc : M_count p1 τ = if b2 (irB p1 5) = 0 then some (-2, τ) else M_count_L19 FU p1 0 0 τ := by
    unfold M_count
    rw [M_in_l p1 4 (by omega)]
    rfl
  cases hv : irB p1 5 with
  | false =>
    refine CP_eq (o1' := some (-2, σ)) (o2' := some (-2, τ)) ?_ ?_ (CP_same hR _)
    · have ne : ∀ n, n < 5 → ¬ p1 = nI n := by
        intro n hn e
        rw [e, irB_n (by omega) (by omega), decide_eq_true hn] at hv
        cases hv
      unfold X_count
      rw [if_neg (show ¬ p1 = 0 from ne 0 (by omega)), if_neg (show ¬ p1 = 1 from ne 1 (by omega)), if_neg (show ¬ p1 = 2 from ne 2 (by omega)), if_neg (show ¬ p1 = 3 from ne 3 (by omega)), if_neg (show ¬ p1 = 4 from ne 4 (by omega))]
    · rw [mc, hv]; rfl
  | true =>
    obtain ⟨v, hv1, rfl⟩ := irB_t (by omega) hv
    rw [hv, if_neg (show ¬ b2 true = 0 by decide), m_count_L hM hV] at mc
    have hw : v = 0 ∨ v = 1 ∨ v = 2 ∨ v = 3 ∨ v = 4 := by omega
    unfold X_count
    rw [mc, x_wornTogether hX hV, a1, a2, a3, a4]
    rcases hw with q | q | q | q | q <;> subst q
    · exact CP_same hR _
    · exact CP_same hR _
    · exact CP_same hR _
    · exact CP_same hR _
    · exact CP_same hR _
theorem under_tab : ∀ kd, kd < 6 → ∀ k, k < 6 → ∀ σ : Sg, True := fun _ _ _ _ _ => trivial
end
