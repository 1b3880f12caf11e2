/-! the calls: text -/
section
variable {S : Nat → Nat → Nat} {I : Nat → Nat → Int32} {P : Nat → Txt} {σ τ : Sg}
/-- what reading a new text i writes in the class -/
def NTX (i : Nat) : Nat → Nat → Nat → Prop := fun g a j => NX g a j ∨ (g = 3 ∧ a = i) ∨ (g = 4 ∧ a = i)
/-- .. and in the reference -/
def NTM (i : Nat) : Nat → Nat → Nat → Prop := fun g a j => NM g a j ∨ (g = 31 ∧ 160 * i ≤ j) ∨ (g = 32 ∧ j = i)
theorem SX.nt {i g a j : Nat} (h : SX i g a j) : NTX i g a j := by
  unfold SX SL SR at h
  unfold NTX NX
  omega
theorem RX.frT {σ' : Sg} (h : RX S I P σ) (hV : SV S) (f : Fr (NTX (S 5 2)) σ σ') : RX S I P σ' := by
  obtain ⟨⟨a1, a2, a3, a4⟩, b, c, d, e, g, k⟩ := h
  have v8 := hV.1.1
  refine ⟨⟨?_, ?_, ?_, ?_⟩, fun j hj => ?_, fun j hj => ?_, fun j hj => ?_, fun s hs => ⟨?_, fun q => ⟨?_, fun j hj => ?_⟩⟩, ⟨fun q => ?_, fun q => ?_⟩, fun i hi => ?_⟩
  · rw [f _ _ _ (by unfold NTX NX; omega)]; exact a1
  · rw [f _ _ _ (by unfold NTX NX; omega)]; exact a2
  · rw [f _ _ _ (by unfold NTX NX; omega)]; exact a3
  · rw [f _ _ _ (by unfold NTX NX; omega)]; exact a4
  · rw [f _ _ _ (by unfold NTX NX; omega)]; exact b j hj
  · exact (c j hj).fr f (fun i => by unfold NTX NX; omega)
  · rw [f _ _ _ (by unfold NTX NX; omega)]; exact d j hj
  · rw [f _ _ _ (by unfold NTX NX; omega)]; exact (e s hs).1
  · rw [f _ _ _ (by unfold NTX NX; omega)]; exact ((e s hs).2 q).1
  · rw [f _ _ _ (by unfold NTX NX; omega)]; exact ((e s hs).2 q).2 j hj
  · rw [f _ _ _ (by unfold NTX NX; omega)]; exact g.1 q
  · obtain ⟨g1, g2, g3, g4⟩ := g.2 q
    refine ⟨?_, ?_, fun j hj => ?_, fun c hc => (g4 c hc).fr f (fun i => by unfold NTX NX; omega)⟩
    · rw [f _ _ _ (by unfold NTX NX; omega)]; exact g1
    · rw [f _ _ _ (by unfold NTX NX; omega)]; exact g2
    · rw [f _ _ _ (by unfold NTX NX; omega)]; exact g3 j hj
  · exact (k i hi).fr f (fun j => by unfold NTX NX; omega)
theorem RM.frT {τ' : Sg} (h : RM S I P τ) (f : Fr (NTM (S 5 2)) τ τ') : RM S I P τ' := by
  obtain ⟨⟨a1, a2, a3, a4⟩, b, c, d, e, g, k⟩ := h
  refine ⟨⟨?_, ?_, ?_, ?_⟩, fun j hj => ?_, fun j hj => ?_, fun j hj => ?_, fun s hs => ⟨?_, fun q => ⟨?_, ?_, fun j hj => ?_⟩⟩, ⟨fun q => ?_, fun q => ?_⟩, fun i hi => ?_⟩
  · rw [f _ _ _ (by unfold NTM NM; omega)]; exact a1
  · rw [f _ _ _ (by unfold NTM NM; omega)]; exact a2
  · rw [f _ _ _ (by unfold NTM NM; omega)]; exact a3
  · rw [f _ _ _ (by unfold NTM NM; omega)]; exact a4
  · rw [f _ _ _ (by unfold NTM NM; omega)]; exact b j hj
  · exact (c j hj).fr' f (fun i => by unfold NTM NM; omega)
  · rw [f _ _ _ (by unfold NTM NM; omega)]; exact d j hj
  · rw [f _ _ _ (by unfold NTM NM; omega)]; exact (e s hs).1
  · rw [f _ _ _ (by unfold NTM NM; omega)]; exact ((e s hs).2 q).1
  · rw [f _ _ _ (by unfold NTM NM; omega)]; exact ((e s hs).2 q).2.1
  · rw [f _ _ _ (by unfold NTM NM; omega)]; exact ((e s hs).2 q).2.2 j hj
  · rw [f _ _ _ (by unfold NTM NM; omega)]; exact g.1 q
  · obtain ⟨g1, g2, g3, g4⟩ := g.2 q
    refine ⟨?_, ?_, fun j hj => ?_, fun c hc => ⟨?_, ?_, ?_⟩⟩
    · rw [f _ _ _ (by unfold NTM NM; omega)]; exact g1
    · rw [f _ _ _ (by unfold NTM NM; omega)]; exact g2
    · rw [f _ _ _ (by unfold NTM NM; omega)]; exact g3 j hj
    · rw [f _ _ _ (by unfold NTM NM; omega)]; exact (g4 c hc).1
    · rw [f _ _ _ (by unfold NTM NM; omega)]; exact (g4 c hc).2.1
    · rw [f _ _ _ (by unfold NTM NM; omega)]; exact (g4 c hc).2.2
  · obtain ⟨b0, sz, x, hb, ⟨h1, h2, h3⟩, h4⟩ := k i hi
    have := hb.1
    exact ⟨b0, sz, x, hb, ⟨h1, by rw [f _ _ _ (by unfold NTM NM; omega)]; exact h2, fun p hp => by rw [f _ _ _ (by unfold NTM NM; omega)]; exact h3 p hp⟩, h4⟩
theorem RX.clear (h : RX S I P σ) : RX (up2 S 5 3 0) I P (upd3 σ 6 0 4 0) := by
  obtain ⟨a1, a2, a3, a4⟩ := h.1
  exact ⟨⟨a1, a2, a3, by rw [u3s, up2s]; rfl⟩, h.2.1.cg (fun _ => rfl) (fun _ => rfl), h.2.2.1.cg rfl (fun g c h1 h2 => up2n _ _ _ _ (by omega)) (fun c j _ => rfl), (fun k hk => by rw [up2s] at hk; omega), h.2.2.2.2.1.cg (fun _ => rfl) (fun _ => rfl) (fun _ _ => rfl) (fun _ _ => rfl), h.2.2.2.2.2.1.cg (fun _ _ => up2n _ _ _ _ (by omega)) (fun g c h1 => up2n _ _ _ _ (by omega)) (fun _ _ _ => rfl) (fun _ => rfl) (fun _ => rfl) (fun _ _ => rfl), h.2.2.2.2.2.2.cg rfl (fun _ _ => rfl) (fun _ _ => rfl)⟩
theorem RM.clear (h : RM S I P τ) : RM (up2 S 5 3 0) I P (upd3 τ 30 0 6 0) := by
  obtain ⟨a1, a2, a3, a4⟩ := h.1
  exact ⟨⟨a1, a2, a3, by rw [u3s, up2s]; rfl⟩, h.2.1.cg (fun _ => rfl) (fun _ => rfl), h.2.2.1.cg rfl (fun g c h1 h2 => up2n _ _ _ _ (by omega)) (fun _ => rfl) (fun _ => rfl), (fun k hk => by rw [up2s] at hk; omega), h.2.2.2.2.1.cg (fun _ => rfl) (fun _ => rfl) (fun g j h1 => u3n _ _ _ _ _ (by omega)), h.2.2.2.2.2.1.cg (fun _ _ => up2n _ _ _ _ (by omega)) (fun g c h1 => up2n _ _ _ _ (by omega)) (fun j hj => u3n _ _ _ _ _ (by omega)) (fun _ => rfl) (fun _ => rfl), h.2.2.2.2.2.2.cg rfl (fun _ => rfl) (fun _ => rfl)⟩
theorem SV.clear (h : SV S) : SV (up2 S 5 3 0) := by
  obtain ⟨a1, a2, a3, a4⟩ := h.1
  exact ⟨⟨a1, a2, a3, by rw [up2s]; omega⟩, h.2.1.cg (fun _ => rfl), h.2.2.1.cg rfl (fun g c h1 h2 => up2n _ _ _ _ (by omega)), (fun k hk => by rw [up2s] at hk; omega), h.2.2.2.2.1.cg (fun _ => rfl) (fun _ => rfl), fun q => h.2.2.2.2.2 q⟩
/-- one text more -/
def nwP (P : Nat → Txt) (i : Nat) (Q : Txt) : Nat → Txt := fun j => if j = i then Q else P j
theorem RX.more (h : RX S I P σ) {Q : Txt} (hT : TX Q (S 5 2) σ) : RX (up2 S 5 2 (S 5 2 + 1)) I (nwP P (S 5 2) Q) (upd3 σ 0 0 5 (nI (S 5 2 + 1))) := by
  obtain ⟨a1, a2, a3, a4⟩ := h.1
  refine ⟨⟨a1, a2, by rw [u3s, up2s], a4⟩, h.2.1.cg (fun _ => rfl) (fun _ => rfl), h.2.2.1.cg rfl (fun g c h1 h2 => up2n _ _ _ _ (by omega)) (fun c j _ => rfl), h.2.2.2.1.cg rfl (fun _ => rfl) (fun _ => rfl), h.2.2.2.2.1.cg (fun _ => rfl) (fun _ => rfl) (fun _ _ => rfl) (fun _ _ => rfl), h.2.2.2.2.2.1.cg (fun _ _ => up2n _ _ _ _ (by omega)) (fun g c h1 => up2n _ _ _ _ (by omega)) (fun _ _ _ => rfl) (fun _ => rfl) (fun _ => rfl) (fun _ _ => rfl), fun i hi => ?_⟩
  rw [up2s] at hi
  unfold nwP
  by_cases e : i = S 5 2
  · rw [if_pos e, e]; exact hT.cg (fun _ => rfl) (fun _ => rfl)
  · rw [if_neg e]; exact (h.2.2.2.2.2.2 i (by omega)).cg (fun _ => rfl) (fun _ => rfl)
theorem RM.more (h : RM S I P τ) {Q : Txt} (hT : MText Q (S 5 2) τ) : RM (up2 S 5 2 (S 5 2 + 1)) I (nwP P (S 5 2) Q) (upd3 τ 30 0 3 (nI (S 5 2 + 1))) := by
  obtain ⟨a1, a2, a3, a4⟩ := h.1
  refine ⟨⟨a1, a2, by rw [u3s, up2s], a4⟩, h.2.1.cg (fun _ => rfl) (fun _ => rfl), h.2.2.1.cg rfl (fun g c h1 h2 => up2n _ _ _ _ (by omega)) (fun _ => rfl) (fun _ => rfl), h.2.2.2.1.cg rfl (fun _ => rfl) (fun _ => rfl), h.2.2.2.2.1.cg (fun _ => rfl) (fun _ => rfl) (fun g j h1 => u3n _ _ _ _ _ (by omega)), h.2.2.2.2.2.1.cg (fun _ _ => up2n _ _ _ _ (by omega)) (fun g c h1 => up2n _ _ _ _ (by omega)) (fun j hj => u3n _ _ _ _ _ (by omega)) (fun _ => rfl) (fun _ => rfl), fun i hi => ?_⟩
  rw [up2s] at hi
  unfold nwP
  by_cases e : i = S 5 2
  · rw [if_pos e, e]; exact hT.cg (fun _ => rfl) (fun _ => rfl)
  · rw [if_neg e]; exact (h.2.2.2.2.2.2 i (by omega)).cg (fun _ => rfl) (fun _ => rfl)
theorem SV.more (h : SV S) (hl : S 5 2 < 6) : SV (up2 S 5 2 (S 5 2 + 1)) := by
  obtain ⟨a1, a2, a3, a4⟩ := h.1
  refine ⟨⟨a1, ?_, ?_, a4⟩, h.2.1.cg (fun _ => rfl), h.2.2.1.cg rfl (fun g c h1 h2 => up2n _ _ _ _ (by omega)), h.2.2.2.1.cg rfl (fun _ => rfl), h.2.2.2.2.1.cg (fun _ => rfl) (fun _ => rfl), fun q => ?_⟩
  · rw [up2s, up2n _ _ _ _ (by omega)]; omega
  · rw [up2s]; omega
  · obtain ⟨h1, h2, h3, h4⟩ := h.2.2.2.2.2 q
    refine ⟨h1, ?_, h3, h4⟩
    rw [up2s, up2n _ _ _ _ (by omega)]
    omega
/-- the bytes that stand on the tape -/
def tbB (S : Nat → Nat → Nat) : Nat → Int32 := fun p => if p < S 5 3 then nI (S 6 p) else -1
theorem tbB_ok (hV : SV S) : ByteOK (tbB S) (S 5 3) := by
  refine ⟨hV.1.2.2.2, fun p hp => if_neg (by omega), fun p hp => ⟨S 6 p, hV.2.2.2.1 p hp, if_pos hp⟩⟩
def txR (S : Nat → Nat → Nat) : Int32 := match spT (tbB S) with
  | (some _, _) => nI (S 5 2)
  | (none, a) => -100 - nI (ps (tbB S) a)
def txS (S : Nat → Nat → Nat) : Nat → Nat → Nat := match spT (tbB S) with
  | (some _, _) => up2 (up2 S 5 3 0) 5 2 (S 5 2 + 1)
  | (none, _) => up2 S 5 3 0
def txP (S : Nat → Nat → Nat) (P : Nat → Txt) : Nat → Txt := match spT (tbB S) with
  | (some Q, _) => nwP P (S 5 2) Q
  | (none, _) => P
theorem txS_V (hV : SV S) (hl : S 5 2 < 6) : SV (txS S) := by
  unfold txS
  split
  · exact hV.clear.more hl
  · exact hV.clear
theorem x_text (hX : RX S I P σ) (hV : SV S) (hl : S 5 2 < 6) : wp (X_text σ) (fun r => r.1 = txR S ∧ RX (txS S) I (txP S P) r.2) := by
  unfold X_text
  rw [hX.1.2.2.1, if_pos (show nI (S 5 2) < 6 from nI_lt (b := 6) hl (by decide)), if_neg (nI_pos (by omega)), na_cl (by omega), if_neg (by omega)]
  refine wp_bind (s_readText (i := S 5 2) (tbB_ok hV) ⟨hX.1.2.2.2, fun p hp => by rw [hX.2.2.2.1 p hp]; exact (if_pos hp).symm⟩) ?_
  rintro ⟨r, y⟩ ⟨f, hr⟩
  have f : Fr (SX (S 5 2)) σ y := f
  have hY : RX S I P y := hX.frT hV (f.mo fun g a j q => q.nt)
  have hZ : RX (up2 S 5 3 0) I P (upd3 y 6 0 4 0) := hY.clear
  have z5 : upd3 y 6 0 4 0 0 0 5 = nI (S 5 2) := hY.1.2.2.1
  unfold Tape_clear
  simp only [Option.bind_some]
  unfold txR txS txP
  revert hr
  generalize hs : spT (tbB S) = q
  intro hr
  match q, hr with
  | (some Q, a), hr =>
    have h1 : r = -1 := hr.1
    have h2 : TXc (S 5 2) Q.1 Q.2.1 Q.2.2 y := hr.2
    rw [if_pos h1, z5, show nI (S 5 2) + 1 = nI (S 5 2 + 1) from (nI_succ _).symm, u3s, nI_pred]
    have hT : TX Q (S 5 2) (upd3 y 6 0 4 0) := h2
    exact wp_some ⟨rfl, hZ.more (Q := Q) hT⟩
  | (none, a), hr =>
    have h1 : r = nI (ps (tbB S) a) := hr
    subst h1
    rw [if_neg (nI_n1 (by have := ps_le (tbB_ok hV) a; have := hV.1.2.2.2; omega))]
    exact wp_some ⟨rfl, hZ⟩
theorem m_text (hM : RM S I P τ) (hV : SV S) (hl : S 5 2 < 6) : wp (M_text τ) (fun r => r.1 = txR S ∧ RM (txS S) I (txP S P) r.2) := by
  have v4 := hV.1.2.2.2
  have v2 := hV.1.2.1
  unfold M_text
  rw [hM.1.2.2.1, if_neg (show ¬ nI (S 5 2) = 6 from na_ne (by omega) (m := 6) (by omega) (by omega))]
  have ix : ∀ p, (160 : Int32) * nI (S 5 2) + nI p = nI (160 * S 5 2 + p) := fun p => by rw [show (160 : Int32) = nI 160 from rfl, na_mul, na_add]
  refine loopW (fun n (y : Sg) i => M_text_L14 n (nI i) y) (fun i y => Fr (fun g _ j => g = 31 ∧ 160 * S 5 2 ≤ j) τ y ∧ ∀ p, p < i → y 31 0 (160 * S 5 2 + p) = nI (S 6 p)) (S 5 3) _ ?_ ?_ 0 τ FU (Nat.zero_le _) ⟨Fr.rf, fun p hp => absurd hp (Nat.not_lt_zero _)⟩ (FU_big (by omega))
  · rintro n i y hi ⟨f, e⟩ k
    show wp (M_text_L14 (n + 1) (nI i) y) _
    rw [M_text_L14, f 30 0 6 (by omega), hM.1.2.2.2, if_pos (nI_lt hi (by omega)), if_neg (nI_pos (by omega)), na_cl (by omega), if_neg (by omega), f 30 0 3 (by omega), hM.1.2.2.1, ix, if_neg (nI_pos (by omega)), na_cl (by omega), if_neg (by omega), f 33 0 i (by omega), hM.2.2.2.1 i hi, show nI i + 1 = nI (i + 1) from (nI_succ i).symm]
    refine k _ ⟨f.up (by omega), fun p hp => ?_⟩
    by_cases d : p = i
    · subst d; exact u3s _ _ _ _ _
    · rw [u3n _ _ _ _ _ (by omega)]; exact e p (by omega)
  · rintro n y ⟨f, e⟩
    show wp (M_text_L14 (n + 1) (nI (S 5 3)) y) _
    rw [M_text_L14, f 30 0 6 (by omega), hM.1.2.2.2, if_neg (nI_nlt (Nat.le_refl _) (by omega)), f 30 0 3 (by omega), hM.1.2.2.1, if_neg (nI_pos (by omega)), na_cl (by omega), if_neg (by omega)]
    show wp ((M_read (upd3 (upd3 y 32 0 (S 5 2) (nI (S 5 3))) 30 0 6 0 30 0 3) 0 (upd3 (upd3 y 32 0 (S 5 2) (nI (S 5 3))) 30 0 6 0)).bind _) _
    have hY : RM S I P (upd3 y 32 0 (S 5 2) (nI (S 5 3))) := hM.frT ((f.mo fun g a j q => Or.inr (Or.inl q)).up (Or.inr (Or.inr ⟨rfl, rfl⟩)))
    have hZ : RM (up2 S 5 3 0) I P (upd3 (upd3 y 32 0 (S 5 2) (nI (S 5 3))) 30 0 6 0) := hY.clear
    have z3 : upd3 (upd3 y 32 0 (S 5 2) (nI (S 5 3))) 30 0 6 0 30 0 3 = nI (S 5 2) := hY.1.2.2.1
    have hT : MTx (tbB S) (S 5 3) (S 5 2) (upd3 (upd3 y 32 0 (S 5 2) (nI (S 5 3))) 30 0 6 0) := by
      refine ⟨hl, ?_, fun p hp => ?_⟩
      · rw [u3n _ _ _ _ _ (by omega), u3s]
      · rw [u3n _ _ _ _ _ (by omega), u3n _ _ _ _ _ (by omega), e p hp]
        exact (if_pos hp).symm
    rw [z3]
    revert hZ hT
    generalize upd3 (upd3 y 32 0 (S 5 2) (nI (S 5 3))) 30 0 6 0 = z
    intro hZ hT
    have hE : EM (fun k => z 30 0 (11 + k)) z := fun k _ => rfl
    refine wp_bind (show wp (M_read (nI (S 5 2)) 0 z) _ from s_Mread (k := 0) (tbB_ok hV) hT hE (by omega)) ?_
    rintro ⟨r, x⟩ ⟨g, hr⟩
    have g : Fr SR2 z x := g
    have hW : RM (up2 S 5 3 0) I P x := hZ.fr (g.mo fun g a j q => by unfold SR2 at q; unfold NM; omega)
    have hT' : MTx (tbB S) (S 5 3) (S 5 2) x := ⟨hT.1, by rw [g _ _ _ (by unfold SR2; omega)]; exact hT.2.1, fun p hp => by rw [g _ _ _ (by unfold SR2; omega)]; exact hT.2.2 p hp⟩
    have x3 : x 30 0 3 = nI (S 5 2) := hW.1.2.2.1
    unfold txR txS txP
    revert hr
    generalize hs : spT (tbB S) = q
    intro hr
    match q, hr with
    | (some Q, a), hr =>
      have h1 : x 30 0 24 = 0 := hr.1
      show wp (if x 30 0 24 = 0 then _ else _) _
      rw [if_pos h1]
      show wp (some ((upd3 x 30 0 3 (x 30 0 3 + 1)) 30 0 3 - 1, upd3 x 30 0 3 (x 30 0 3 + 1))) _
      rw [x3, show nI (S 5 2) + 1 = nI (S 5 2 + 1) from (nI_succ _).symm, u3s, nI_pred]
      exact wp_some ⟨rfl, hW.more (Q := Q) ⟨tbB S, S 5 3, a, tbB_ok hV, hT', hs⟩⟩
    | (none, a), hr =>
      have h1 : x 30 0 24 = 1 := hr.1
      have h2 : x 30 0 25 = nI (ps (tbB S) a) := hr.2
      show wp (if x 30 0 24 = 0 then _ else some (-100 - x 30 0 25, x)) _
      rw [if_neg (by rw [h1]; decide), h2]
      exact wp_some ⟨rfl, hW⟩
theorem q_text (hR : Rel σ τ) : CP (X_text σ) (M_text τ) := by
  obtain ⟨S, I, P, hX, hM, hV⟩ := id hR
  have v3 := hV.1.2.2.1
  by_cases hl : S 5 2 < 6
  · exact CP_mk (x_text hX hV hl) (m_text hM hV hl) (txS_V hV hl)
  · have e : S 5 2 = 6 := by omega
    refine CP_eq (o1' := some (-4, σ)) (o2' := some (-4, τ)) ?_ ?_ (CP_same hR _)
    · unfold X_text
      rw [hX.1.2.2.1, e, if_neg (show ¬ nI 6 < 6 by decide)]
    · unfold M_text
      rw [hM.1.2.2.1, e, if_pos (show nI 6 = (6 : Int32) from rfl)]
end
