/-! a whole text: the class's reading of it -/
def spP (b : Nat → Int32) (k a : Nat) : PR :=
  if tk b a = nI (300 + k) then match sp b 40 0 0 (a + 1) with
    | (some L, a') => if tk b a' = 59 then (some L, a' + 1) else (none, a')
    | (none, a') => (none, a')
  else (none, a)
abbrev TR : Type := Option (List Int32 × List Int32 × List Int32) × Nat
def spT (b : Nat → Int32) : TR := match spP b 0 0 with
  | (none, a) => (none, a)
  | (some P0, a) => match spP b 1 a with
    | (none, a) => (none, a)
    | (some P1, a) => match spP b 2 a with
      | (none, a) => (none, a)
      | (some P2, a) => if tk b a = 0 then (some (P0, P1, P2), a) else (none, a)
/-- what reading text i may write -/
def SX (i : Nat) : Nat → Nat → Nat → Prop := fun g a j => SL g a j ∨ SR i g a j ∨ (g = 4 ∧ a = i)
def ST (i k : Nat) : Nat → Nat → Nat → Prop := fun g a j => SR i g a j ∨ (g = 4 ∧ a = i ∧ j = k)
theorem ST.sx {i k g a j : Nat} (h : ST i k g a j) : SX i g a j := by
  rcases h with h | h
  · exact Or.inr (Or.inl h)
  · exact Or.inr (Or.inr ⟨h.1, h.2.1⟩)
theorem SR.st {i k g a j : Nat} (h : SR i g a j) : ST i k g a j := Or.inl h
/-- the steps of a text's three parts, and where they end -/
def TXc (i : Nat) (P0 P1 P2 : List Int32) (σ : Sg) : Prop := σ 4 i 0 = nI P0.length ∧ σ 4 i 1 = nI (P0.length + P1.length) ∧ σ 4 i 2 = nI (P0.length + P1.length + P2.length) ∧ P0.length + P1.length + P2.length ≤ 160 ∧ ∀ k, k < P0.length + P1.length + P2.length → σ 3 i k = ab_nth 0 (P0 ++ P1 ++ P2) k
theorem s_endPart {i k : Nat} (hk : k < 3) (σ : Sg) : Text_endPart i (nI k) σ = some (upd3 σ 4 i k (σ 2 i 3)) := by
  unfold Text_endPart
  rw [if_neg (nI_pos (by omega)), if_pos (show nI k < 3 from nI_lt (b := 3) hk (by decide)), if_neg (nI_pos (by omega)), na_cl (by omega), if_neg (by omega)]
theorem s_part {b : Nat → Int32} {i sz N k n : Nat} (hb : ByteOK b sz) (hk : k < 3) {L0 : List Int32} {a : Nat} {σ : Sg} (hT : TokX b sz N σ) (hX : XT i L0 σ) (hl : L0.length ≤ a) (ha : a ≤ 160) (h11 : σ 11 0 1 = nI a) : match spP b k a with
    | (some L, a') => ∃ σ', Reader_readText_L18 (n + 1) i (nI k) σ = Reader_readText_L18 n i (nI (k + 1)) σ' ∧ XT i (L0 ++ L) σ' ∧ σ' 11 0 1 = nI a' ∧ (L0 ++ L).length ≤ a' ∧ a' ≤ 160 ∧ σ' 4 i k = nI (L0 ++ L).length ∧ Fr (ST i k) σ σ'
    | (none, a') => ∃ σ', Reader_readText_L18 (n + 1) i (nI k) σ = some (nI (ps b a'), σ') ∧ Fr (ST i k) σ σ' := by
  have e300 : (300 : Int32) + nI k = nI (300 + k) := na_add 300 k
  unfold spP
  rw [Reader_readText_L18]
  rw [if_pos (show nI k < 3 from nI_lt (b := 3) hk (by decide)), e300, s_stepOver hb hT h11 ha]
  simp only [Option.bind_some]
  by_cases e : tk b a = nI (300 + k)
  · have ha2 := tk_lt hb (i := a) (by rw [e]; exact fun h => by rw [show (0 : Int32) = nI 0 from rfl, na_eq (by omega) (by omega)] at h; omega)
    simp only [if_pos e]
    rw [if_neg (by decide)]
    have hr := s_level (i := i) (N := N) hb 40 0 0 (by omega) (by omega) (by omega) L0 (a + 1) _ (hT.up (nI (a + 1))) (hX.up (nI (a + 1))) (by omega) (by omega) (u3s _ _ _ _ _)
    rw [show Reader_level 40 = Reader_level RD by rw [RD_eq]] at hr
    obtain ⟨⟨r, σ2⟩, q0, k1, k2, k3, k4⟩ := hr
    have f1 : Fr (SR i) σ σ2 := (Fr.rf.up (by unfold SR; omega)).tr k1
    have hT2 : TokX b sz N σ2 := hT.sr f1
    rw [show Reader_level RD i 0 0 (upd3 σ 11 0 1 (nI (a + 1))) = some (r, σ2) from q0]
    revert k2 k3 k4
    generalize sp b 40 0 0 (a + 1) = s
    intro k2 k3 k4
    match s, k2, k3, k4 with
    | (none, a'), k2, k3, k4 =>
      have k2 : σ2 11 0 1 = nI a' := k2
      have k3 : a' ≤ 160 := k3
      simp only [Option.bind_some, show r = 0 from k4, if_true]
      rw [k2, s_place hb hT2 (by omega)]
      exact ⟨σ2, rfl, f1.mo fun g a j h => h.st⟩
    | (some L, a'), k2, k3, k4 =>
      obtain ⟨e1, e2, e3, e4⟩ := k4
      have k2 : σ2 11 0 1 = nI a' := k2
      have k3 : a' ≤ 160 := k3
      have e3 : a + 1 < a' := e3
      have e4 : L.length + (a + 1) ≤ a' := e4
      simp only [Option.bind_some, show r = 1 from e1]
      rw [if_neg (show ¬ (1 : Int32) = 0 by decide), s_stepOver hb hT2 k2 k3]
      simp only [Option.bind_some]
      by_cases e5 : tk b a' = 59
      · have := tk_lt hb (i := a') (by rw [e5]; decide)
        simp only [if_pos e5]
        rw [if_neg (show ¬ (1 : Int32) = 0 by decide), s_endPart hk]
        simp only [Option.bind_some]
        rw [show nI k + 1 = nI (k + 1) from (nI_succ k).symm]
        refine ⟨_, rfl, ⟨?_, fun q hq => ?_⟩, ?_, ?_, by omega, ?_, ?_⟩
        · rw [u3n _ _ _ _ _ (by omega), u3n _ _ _ _ _ (by omega)]; exact e2.1
        · rw [u3n _ _ _ _ _ (by omega), u3n _ _ _ _ _ (by omega)]; exact e2.2 q hq
        · rw [u3n _ _ _ _ _ (by omega), u3s]
        · rw [List.length_append]; omega
        · rw [u3s, u3n _ _ _ _ _ (by omega)]; exact e2.1
        · exact ((f1.up (by unfold SR; omega)).mo fun g a j h => h.st).up (by unfold ST; omega)
      · simp only [if_neg e5]
        rw [if_pos True.intro, k2, s_place hb hT2 (by omega)]
        exact ⟨σ2, rfl, f1.mo fun g a j h => h.st⟩
  · simp only [if_neg e]
    rw [if_pos True.intro, h11, s_place hb hT (by omega)]
    exact ⟨σ, rfl, Fr.rf⟩
theorem TokX.st {b : Nat → Int32} {sz N i k : Nat} {σ σ' : Sg} (h : TokX b sz N σ) (f : Fr (ST i k) σ σ') : TokX b sz N σ' := h.fr f fun g a j h1 h2 => by unfold ST SR; omega
theorem s_readText {b : Nat → Int32} {sz i : Nat} {σ : Sg} (hb : ByteOK b sz) (hB : HB b sz σ) : wp (Reader_readText i σ) (fun r => Fr (SX i) σ r.2 ∧ match spT b with
    | (some P, _) => r.1 = -1 ∧ TXc i P.1 P.2.1 P.2.2 r.2
    | (none, a) => r.1 = nI (ps b a)) := by
  have FU4 : ∃ n, FU = n + 4 := ⟨996, by rw [FU_eq]⟩
  obtain ⟨n, hn⟩ := FU4
  unfold Reader_readText Text_clear
  simp only [Option.bind_some]
  refine wp_bind (s_scan hb (σ := upd3 σ 2 i 3 0) ⟨by rw [u3n _ _ _ _ _ (by omega)]; exact hB.1, fun p hp => by rw [u3n _ _ _ _ _ (by omega)]; exact hB.2 p hp⟩) ?_
  rintro σ1 ⟨⟨N, hT⟩, hf⟩
  have hT0 := hT.up 0
  have f0 : Fr (SX i) σ (upd3 σ1 11 0 1 0) := ((Fr.rf.up (by unfold SL SR; omega)).tr (hf.mo fun g a j h => Or.inl h)).up (by unfold SL SR; omega)
  have x0 : XT i [] (upd3 σ1 11 0 1 0) := ⟨by rw [u3n _ _ _ _ _ (by omega), hf _ _ _ (by unfold SL; omega), u3s]; rfl, fun k hk => absurd hk (Nat.not_lt_zero _)⟩
  have a0 : upd3 σ1 11 0 1 0 11 0 1 = nI 0 := u3s _ _ _ _ _
  revert hT0 f0 x0 a0
  generalize upd3 σ1 11 0 1 0 = σ0
  intro hT0 f0 x0 a0
  rw [hn, show (0 : Int32) = nI 0 from rfl]
  unfold spT
  have h0 := s_part (n := n + 3) (k := 0) hb (by omega) hT0 x0 (Nat.zero_le _) (Nat.zero_le _) a0
  revert h0
  generalize spP b 0 0 = s0
  intro h0
  match s0, h0 with
  | (none, a), h0 =>
    obtain ⟨σ', e, f⟩ := h0
    rw [e]
    exact wp_some ⟨f0.tr (f.mo fun g a j h => h.sx), rfl⟩
  | (some P0, a), h0 =>
    obtain ⟨σ', e, h1, h2, h3, h4, h5, f⟩ := h0
    rw [e]
    rw [List.nil_append] at h1 h3 h5
    simp only []
    have f1 := f0.tr (f.mo fun g a j h => h.sx)
    have hT1 := hT0.st f
    have g1 := s_part (n := n + 2) (k := 1) hb (by omega) hT1 h1 h3 h4 h2
    revert g1
    generalize spP b 1 a = s1
    intro g1
    match s1, g1 with
    | (none, a), g1 =>
      obtain ⟨σ'', e, f⟩ := g1
      rw [e]
      exact wp_some ⟨f1.tr (f.mo fun g a j h => h.sx), rfl⟩
    | (some P1, a), g1 =>
      obtain ⟨σ2, e, i1, i2, i3, i4, i5, f⟩ := g1
      rw [e]
      simp only []
      have e40 : σ2 4 i 0 = nI P0.length := by rw [f _ _ _ (by unfold ST SR; omega)]; exact h5
      have f2 := f1.tr (f.mo fun g a j h => h.sx)
      have hT2 := hT1.st f
      have g2 := s_part (n := n + 1) (k := 2) hb (by omega) hT2 i1 i3 i4 i2
      revert g2
      generalize spP b 2 a = s2
      intro g2
      match s2, g2 with
      | (none, a), g2 =>
        obtain ⟨σ'', e, f⟩ := g2
        rw [e]
        exact wp_some ⟨f2.tr (f.mo fun g a j h => h.sx), rfl⟩
      | (some P2, a), g2 =>
        obtain ⟨σ3, e, j1, j2, j3, j4, j5, f⟩ := g2
        rw [e]
        simp only []
        have e41 : σ3 4 i 1 = nI (P0 ++ P1).length := by rw [f _ _ _ (by unfold ST SR; omega)]; exact i5
        have e40 : σ3 4 i 0 = nI P0.length := by rw [f _ _ _ (by unfold ST SR; omega)]; exact e40
        have f3 := f2.tr (f.mo fun g a j h => h.sx)
        have hT3 := hT2.st f
        rw [Reader_readText_L18, if_neg (by decide), j2, s_token hb hT3 (by omega)]
        simp only [Option.bind_some]
        simp only [List.length_append] at e41 j5 j3
        by_cases ez : tk b a = 0
        · rw [if_pos ez, if_pos ez]
          refine wp_some ⟨f3, rfl, e40, e41, j5, (show P0.length + P1.length + P2.length ≤ 160 by omega), fun k hk => j1.2 k ?_⟩
          simp only [List.length_append]
          exact hk
        · rw [if_neg ez, if_neg ez, j2, s_place hb hT3 (by omega)]
          exact wp_some ⟨f3, rfl⟩
