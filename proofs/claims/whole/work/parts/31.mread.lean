/-! the reference reads a whole text -/
section
variable {b : Nat → Int32} {sz t : Nat} {e : Nat → Int32}
theorem J_end {a o : Nat} {σ : Sg} (h : J b sz t a o σ) : (σ 30 0 20 = 0) = (tk b a = 0) := by
  have ncd : ∀ k, k < 12 → ¬ cd k = 0 := by decide
  have hK := h.2.2.2.2
  unfold KT at hK
  rcases tok_cases b a with ⟨c0, ct⟩ | ⟨c0, c1, ct, cx⟩ | ⟨c0, c1, c2, ct⟩ | ⟨c0, c1, c2, c3, ct⟩ | ⟨c0, c1, c2, c3, ct⟩
  · rw [if_pos c0] at hK
    rw [hK, ct]
  · rw [if_neg c0, if_pos c1] at hK
    have n1 : ¬ tk b a = 0 := by
      rw [ct]
      rcases wcode_or b (ps b a) (ru letB b 160 (ps b a)) with q | ⟨k, hk, q⟩
      · rw [q]; decide
      · rw [q]; exact ncd k hk
    rw [hK.1]
    exact propext ⟨fun q => absurd q (by decide), fun q => absurd q n1⟩
  · rw [if_neg c0, if_neg (by rw [c1]; decide), if_pos c2] at hK
    by_cases q : 4 < ru digB b 160 (ps b a) - ps b a
    · rw [if_pos q] at hK
      rw [if_pos q] at ct
      rw [hK.1, ct]; all_goals exact propext ⟨fun q => absurd q (by decide), fun q => absurd q (by decide)⟩
    · rw [if_neg q] at hK
      rw [if_neg q] at ct
      rw [hK.1, ct]; all_goals exact propext ⟨fun q => absurd q (by decide), fun q => absurd q (by decide)⟩
  · rw [if_neg c0, if_neg (by rw [c1]; decide), if_neg (by rw [c2]; decide), if_pos c3] at hK
    have n1 : ¬ tk b a = 0 := fun q => by rw [← ct, q] at c3; revert c3; decide
    rw [hK.1]
    exact propext ⟨fun q => absurd q (by decide), fun q => absurd q n1⟩
  · rw [if_neg c0, if_neg (by rw [c1]; decide), if_neg (by rw [c2]; decide), if_neg (by rw [c3]; decide)] at hK
    rw [hK, ct]; all_goals exact propext ⟨fun q => absurd q (by decide), fun q => absurd q (by decide)⟩
theorem m_part_bad {a : Nat} {σ : Sg} (h : BD b a σ) (v : Int32) : M_part_J34 v σ = some (v, σ) := by
  unfold M_part_J34
  rw [bad_isSign h]
  simp only [Option.bind_some, if_true]
  rw [bad_fail h]
  simp only [Option.bind_some]
  unfold M_part_J48
  rw [if_neg h.n0]
theorem m_part (hb : ByteOK b sz) {k a : Nat} {σ : Sg} (hk : k < 3) (hJ : J b sz t a 0 σ) (hE : EM e σ) : wp (M_part (if tk b a = cd k then 1 else 0) σ) (fun r => Fr SM σ r.2 ∧ match spP b k a with
    | (some L, a') => J b sz t a' 0 r.2 ∧ Ev e 31 L r.1
    | (none, a') => BD b a' r.2) := by
  have hcd : cd k = nI (300 + k) ∧ cd k ≠ 0 ∧ cd k ≠ 1 := by
    have : k = 0 ∨ k = 1 ∨ k = 2 := by omega
    rcases this with q | q | q <;> subst q <;> decide
  unfold M_part spP
  rw [← hcd.1]
  by_cases h : tk b a = cd k
  · simp only [if_pos h]
    rw [if_neg (show ¬ (1 : Int32) = 0 by decide)]
    unfold M_part_J8
    obtain ⟨σ1, e1, j1, f1⟩ := s_nextJ hb hJ (by rw [h]; exact hcd.2.1) (by rw [h]; exact hcd.2.2)
    rw [if_pos hJ.2.1, e1]
    simp only [Option.bind_some]
    unfold M_part_J19
    rw [if_pos j1.2.1]
    refine wp_bind (m_either0 hb 40 (by omega) (a + 1) σ1 j1 (hE.fr f1)) ?_
    rintro ⟨r, σ2⟩ ⟨f2, q⟩
    have f2 : Fr SM σ σ2 := f1.tr f2
    revert q
    generalize sp b 40 0 0 (a + 1) = s
    intro q
    match s, q with
    | (none, a'), q =>
      have q : BD b a' σ2 := q
      simp only [m_part_bad q]
      exact wp_some ⟨f2, q⟩
    | (some L, a'), q =>
      obtain ⟨k1, k2, k3⟩ := q
      have k1 : J b sz t a' 0 σ2 := k1
      unfold M_part_J34
      simp only [s_MisSign k1 (show signB 59 = true by decide), Option.bind_some]
      by_cases h5 : tk b a' = 59
      · simp only [if_pos h5]
        rw [if_neg (show ¬ (1 : Int32) = 0 by decide)]
        unfold M_part_J48
        obtain ⟨σ3, e3, j3, f3⟩ := s_nextJ hb k1 (by rw [h5]; decide) (by rw [h5]; decide)
        rw [if_pos k1.2.1, e3]
        exact wp_some ⟨f2.tr f3, j3, k2⟩
      · simp only [if_neg h5, if_true]
        obtain ⟨σ3, e3, j3, f3⟩ := s_Mfail k1
        rw [e3]
        simp only [Option.bind_some]
        unfold M_part_J48
        rw [if_neg j3.n0]
        exact wp_some ⟨f2.tr f3, j3⟩
  · simp only [if_neg h, if_true]
    obtain ⟨σ1, e1, j1, f1⟩ := s_Mfail hJ
    rw [e1]
    simp only [Option.bind_some]
    unfold M_part_J8
    rw [if_neg j1.n0]
    unfold M_part_J19
    rw [if_neg j1.n0, m_part_bad j1]
    exact wp_some ⟨f1, j1⟩
end
/-- the fields that reading writes -/
def SR2 : Nat → Nat → Nat → Prop := fun g _ j => g = 30 ∧ 17 ≤ j ∧ j ≤ 25
theorem SM.r2 {g a j : Nat} (h : SM g a j) : SR2 g a j := by unfold SM at h; unfold SR2; omega
/-- text t of the reference -/
def MTx (b : Nat → Int32) (sz t : Nat) (σ : Sg) : Prop := t < 6 ∧ σ 32 0 t = nI sz ∧ ∀ p, p < sz → σ 31 0 (160 * t + p) = b p
def pk3 (P : List Int32 × List Int32 × List Int32) (k : Nat) : List Int32 := match k with
  | 0 => P.1
  | 1 => P.2.1
  | _ => P.2.2
theorem s_Mread {b : Nat → Int32} {sz t k : Nat} {e : Nat → Int32} {σ : Sg} (hb : ByteOK b sz) (hT : MTx b sz t σ) (hE : EM e σ) (hk : k < 3) : wp (M_read (nI t) (nI k) σ) (fun r => Fr SR2 σ r.2 ∧ match spT b with
    | (some P, _) => r.2 30 0 24 = 0 ∧ Ev e 31 (pk3 P k) r.1
    | (none, a) => r.2 30 0 24 = 1 ∧ r.2 30 0 25 = nI (ps b a)) := by
  obtain ⟨ht, h32, hby⟩ := hT
  have J146 : ∀ v0 v1 v2 σ, M_read_J146 (nI k) v0 v1 v2 σ = some (if k = 0 then v0 else if k = 1 then v1 else v2, σ) := by
    intro v0 v1 v2 σ
    have : k = 0 ∨ k = 1 ∨ k = 2 := by omega
    rcases this with q | q | q <;> subst q <;> rfl
  have J126b : ∀ v0 v1 v2 a σ, BD b a σ → ∃ v, M_read_J126 (nI k) v0 v1 v2 σ = some (v, σ) := by
    intro v0 v1 v2 a σ h
    unfold M_read_J126
    rw [if_neg h.n0, J146]
    exact ⟨_, rfl⟩
  have J92b : ∀ v0 v1 a σ, BD b a σ → ∃ v, M_read_J92 (nI k) v0 v1 σ = some (v, σ) := by
    intro v0 v1 a σ h
    unfold M_read_J92
    rw [if_neg h.n0]
    exact J126b _ _ _ a σ h
  unfold M_read
  rw [if_neg (nI_pos (by omega)), na_cl (by omega), if_neg (by omega), show (160 : Int32) = nI 160 from rfl, na_mul]
  simp only []
  have f0 : Fr SR2 σ (upd3 (upd3 (upd3 (upd3 (upd3 σ 30 0 17 (nI (160 * t))) 30 0 18 (upd3 σ 30 0 17 (nI (160 * t)) 32 0 t)) 30 0 19 0) 30 0 23 0) 30 0 24 0) := ((((Fr.rf.up (by unfold SR2; omega)).up (by unfold SR2; omega)).up (by unfold SR2; omega)).up (by unfold SR2; omega)).up (by unfold SR2; omega)
  have m0 : MB b sz t (upd3 (upd3 (upd3 (upd3 (upd3 σ 30 0 17 (nI (160 * t))) 30 0 18 (upd3 σ 30 0 17 (nI (160 * t)) 32 0 t)) 30 0 19 0) 30 0 23 0) 30 0 24 0) := by
    refine ⟨?_, ?_, ht, fun p hp => ?_⟩
    · simp [upd3]
    · simp [upd3]; exact h32
    · rw [f0 _ _ _ (by unfold SR2; omega)]; exact hby p hp
  have c19 : upd3 (upd3 (upd3 (upd3 (upd3 σ 30 0 17 (nI (160 * t))) 30 0 18 (upd3 σ 30 0 17 (nI (160 * t)) 32 0 t)) 30 0 19 0) 30 0 23 0) 30 0 24 0 30 0 19 = nI 0 := by simp [upd3]; rfl
  have c23 : upd3 (upd3 (upd3 (upd3 (upd3 σ 30 0 17 (nI (160 * t))) 30 0 18 (upd3 σ 30 0 17 (nI (160 * t)) 32 0 t)) 30 0 19 0) 30 0 23 0) 30 0 24 0 30 0 23 = nI 0 := by simp [upd3]; rfl
  have c24 : upd3 (upd3 (upd3 (upd3 (upd3 σ 30 0 17 (nI (160 * t))) 30 0 18 (upd3 σ 30 0 17 (nI (160 * t)) 32 0 t)) 30 0 19 0) 30 0 23 0) 30 0 24 0 30 0 24 = 0 := by simp [upd3]
  revert f0 m0 c19 c23 c24
  generalize upd3 (upd3 (upd3 (upd3 (upd3 σ 30 0 17 (nI (160 * t))) 30 0 18 (upd3 σ 30 0 17 (nI (160 * t)) 32 0 t)) 30 0 19 0) 30 0 23 0) 30 0 24 0 = σ0
  intro f0 m0 c19 c23 c24
  have hE0 : EM e σ0 := fun k hk => by rw [f0 _ _ _ (by unfold SR2; omega)]; exact hE k hk
  obtain ⟨σ1, e1, k1, k2, k3⟩ := s_Mnext (a := 0) hb m0 c19 (Nat.zero_le _) rfl
  have f1 : Fr SM σ0 σ1 := k3.mo fun g a j h => SN.sm h
  have j1 : J b sz t 0 0 σ1 := ⟨m0.fr f1, by rw [k3 _ _ _ (by unfold SN; omega)]; exact c24, by rw [k3 _ _ _ (by unfold SN; omega)]; exact c23, k1, k2⟩
  have f1 : Fr SR2 σ σ1 := f0.tr (f1.mo fun g a j h => SM.r2 h)
  have hE1 : EM e σ1 := hE0.fr (k3.mo fun g a j h => SN.sm h)
  rw [e1]
  simp only [Option.bind_some]
  rw [show M_isWord 101 97 115 101 115 0 0 0 σ1 = some (if tk b 0 = cd 0 then 1 else 0, σ1) from s_MisWord hb j1 (k := 0) (by omega)]
  simp only [Option.bind_some]
  unfold spT
  refine wp_bind (m_part hb (k := 0) (by omega) j1 hE1) ?_
  rintro ⟨r0, σ2⟩ ⟨g2, q⟩
  have g2 : Fr SM σ1 σ2 := g2
  have hE2 : EM e σ2 := hE1.fr g2
  have f2 : Fr SR2 σ σ2 := f1.tr (g2.mo fun g a j h => SM.r2 h)
  revert q
  generalize spP b 0 0 = s0
  intro q
  match s0, q with
  | (none, a), q =>
    have q : BD b a σ2 := q
    obtain ⟨v, hv⟩ := J92b r0 0 a σ2 q
    rw [if_neg q.n0, hv]
    exact wp_some ⟨f2, q⟩
  | (some P0, a), q =>
    obtain ⟨j2, ev0⟩ := q
    have j2 : J b sz t a 0 σ2 := j2
    simp only []
    rw [if_pos j2.2.1, show M_isWord 102 105 110 101 115 0 0 0 σ2 = some (if tk b a = cd 1 then 1 else 0, σ2) from s_MisWord hb j2 (k := 1) (by omega)]
    simp only [Option.bind_some]
    refine wp_bind (m_part hb (k := 1) (by omega) j2 hE2) ?_
    rintro ⟨r1, σ3⟩ ⟨g3, q⟩
    have g3 : Fr SM σ2 σ3 := g3
    have hE3 : EM e σ3 := hE2.fr g3
    have f3 : Fr SR2 σ σ3 := f2.tr (g3.mo fun g a j h => SM.r2 h)
    revert q
    generalize spP b 1 a = s1
    intro q
    match s1, q with
    | (none, a), q =>
      have q : BD b a σ3 := q
      obtain ⟨v, hv⟩ := J92b r0 r1 a σ3 q
      rw [hv]
      exact wp_some ⟨f3, q⟩
    | (some P1, a), q =>
      obtain ⟨j3, ev1⟩ := q
      have j3 : J b sz t a 0 σ3 := j3
      simp only []
      unfold M_read_J92
      rw [if_pos j3.2.1, show M_isWord 99 111 115 116 115 0 0 0 σ3 = some (if tk b a = cd 2 then 1 else 0, σ3) from s_MisWord hb j3 (k := 2) (by omega)]
      simp only [Option.bind_some]
      refine wp_bind (m_part hb (k := 2) (by omega) j3 hE3) ?_
      rintro ⟨r2, σ4⟩ ⟨g4, q⟩
      have g4 : Fr SM σ3 σ4 := g4
      have f4 : Fr SR2 σ σ4 := f3.tr (g4.mo fun g a j h => SM.r2 h)
      revert q
      generalize spP b 2 a = s2
      intro q
      match s2, q with
      | (none, a), q =>
        have q : BD b a σ4 := q
        obtain ⟨v, hv⟩ := J126b r0 r1 r2 a σ4 q
        rw [hv]
        exact wp_some ⟨f4, q⟩
      | (some P2, a), q =>
        obtain ⟨j4, ev2⟩ := q
        have j4 : J b sz t a 0 σ4 := j4
        simp only []
        unfold M_read_J126
        rw [if_pos j4.2.1]
        by_cases ez : tk b a = 0
        · rw [if_pos ez, if_pos ((J_end j4).mpr ez), J146]
          refine wp_some ⟨f4, j4.2.1, ?_⟩
          have : k = 0 ∨ k = 1 ∨ k = 2 := by omega
          rcases this with q | q | q <;> subst q
          · exact ev0
          · exact ev1
          · exact ev2
        · rw [if_neg ez, if_neg (fun q => ez ((J_end j4).mp q))]
          obtain ⟨σ5, e5, j5, f5⟩ := s_Mfail j4
          rw [e5]
          simp only [Option.bind_some]
          rw [J146]
          exact wp_some ⟨f4.tr (f5.mo fun g a j h => SM.r2 h), j5⟩
