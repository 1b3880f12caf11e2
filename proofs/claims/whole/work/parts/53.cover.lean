/-! the calls: day's cover -/
section
variable {S : Nat → Nat → Nat} {I : Nat → Nat → Int32} {P : Nat → Txt} {σ τ : Sg}
theorem rigS_l2 (p h : Nat) : rigS S P p h < 2 ^ S 5 0 := bsN_lt (fitA S P p h) (S 5 0)
theorem na_m1 (i : Nat) : nI i + (-1) = nI i - 1 := by rw [Int32.sub_eq_add_neg]
theorem x_coverK {r : Nat → Nat} {M : Nat} (h8 : M ≤ 256) (hr8 : ∀ h, r h < 256) (hc : ∀ h, h < 24 → σ 19 0 h = nI (r h)) : ∀ i N b, i < N → i ≤ b → b < M → cvP r b → (∀ v, i ≤ v → v < M → cvP r v → pqN b < pqN v ∨ (pqN b = pqN v ∧ b ≤ v)) → wp (X_cover_L39 N (nI b) (nI i - 1) σ) (fun q => q.2 = σ ∧ ∃ b, q.1 = nI b ∧ bqP r (M) b) := by
  intro i
  induction i with
  | zero =>
    intro N b hN h1 h2 h3 h4
    obtain ⟨N, rfl⟩ : ∃ N', N = N' + 1 := ⟨N - 1, by omega⟩
    rw [X_cover_L39, if_pos (show nI 0 - 1 < 0 from na_sneg (a := 0) (b := 1) (by omega) (by omega) (by omega))]
    exact wp_some ⟨rfl, b, rfl, h2, h3, fun v hv hcv => h4 v (Nat.zero_le _) hv hcv⟩
  | succ i ih =>
    intro N b hN h1 h2 h3 h4
    obtain ⟨N, rfl⟩ : ∃ N', N = N' + 1 := ⟨N - 1, by omega⟩
    have q1 := pqN_le i
    have q2 := pqN_le b
    rw [X_cover_L39, nI_pred, if_neg (nI_pos (by omega)), s_bitCount (v := i) (by omega), Option.bind_some, s_bitCount (v := b) (by omega), Option.bind_some]
    dsimp only
    rw [na_m1]
    by_cases c : pqN b < pqN i
    · rw [if_pos (nI_lt c (by omega))]
      refine ih N b (by omega) (by omega) h2 h3 (fun v v1 v2 v3 => ?_)
      by_cases e : v = i
      · subst e; exact Or.inl c
      · exact h4 v (by omega) v2 v3
    · rw [if_neg (nI_nlt (by omega) (by omega))]
      refine wp_bind (x_covers hr8 hc i) ?_
      rintro ⟨k, y⟩ ⟨k1, k2⟩
      have k1 : y = σ := k1
      have k2 : (k = 1 ∧ cvP r i) ∨ (k = 0 ∧ ¬ cvP r i) := k2
      subst k1
      rcases k2 with ⟨rfl, k3⟩ | ⟨rfl, k3⟩
      · rw [if_neg (show ¬ (1 : Int32) = 0 by decide)]
        refine ih N i (by omega) (Nat.le_refl _) (by omega) k3 (fun v v1 v2 v3 => ?_)
        by_cases e : v = i
        · subst e; exact Or.inr ⟨rfl, Nat.le_refl _⟩
        · have := h4 v (by omega) v2 v3
          omega
      · rw [if_pos rfl]
        refine ih N b (by omega) (by omega) h2 h3 (fun v v1 v2 v3 => ?_)
        by_cases e : v = i
        · subst e; exact absurd v3 k3
        · exact h4 v (by omega) v2 v3
theorem x_coverL {r : Nat → Nat} {n : Nat} (hn : n ≤ 8) (hr : ∀ h, r h < 2 ^ n) (hc : ∀ h, h < 24 → σ 19 0 h = nI (r h)) : wp (X_cover_L39 FU (nI (2 ^ n - 1)) (nI (2 ^ n - 1) - 1) σ) (fun q => q.2 = σ ∧ ∃ b, q.1 = nI b ∧ bqP r (2 ^ n) b) := by
  have h8 : 2 ^ n ≤ 2 ^ 8 := Nat.pow_le_pow_right (by omega) hn
  have hp : 0 < 2 ^ n := Nat.two_pow_pos n
  have hr8 : ∀ h, r h < 256 := fun h => by have := hr h; omega
  refine x_coverK (σ := σ) (r := r) (M := 2 ^ n) h8 hr8 hc (2 ^ n - 1) FU (2 ^ n - 1) (FU_big (by omega)) (Nat.le_refl _) (by omega) (cv_full hr) (fun v v1 v2 v3 => ?_)
  have : v = 2 ^ n - 1 := by omega
  subst this
  exact Or.inr ⟨rfl, Nat.le_refl _⟩
theorem x_cover (hX : RX S I P σ) (hV : SV S) (hP : ∀ i, i < S 5 2 → TP (P i)) {p : Nat} (hp : p < 3) : wp (X_cover (nI p) σ) (fun q => (∃ b, q.1 = nI b ∧ bqP (rigS S P p) (2 ^ S 5 0) b) ∧ RX S I P q.2) := by
  obtain ⟨v1, v2, v3, v4⟩ := hV.1
  unfold X_cover
  refine loopW (fun N (y : Sg) i => X_cover_L2 N (nI p) (nI i) y) (fun i y => RX S I P y ∧ ∀ h, h < i → y 19 0 h = nI (rigS S P p h)) 24 _ ?_ ?_ 0 σ FU (Nat.zero_le _) ⟨hX, fun h q => absurd q (by omega)⟩ (FU_big (by omega))
  · rintro N i y hi ⟨y1, y2⟩ kk
    show wp (X_cover_L2 (N + 1) (nI p) (nI i) y) _
    rw [X_cover_L2, if_pos (show nI i < 24 from nI_lt (b := 24) hi (by decide))]
    refine wp_bind (x_right y1 hV hP hp hi) ?_
    rintro ⟨r, y'⟩ ⟨r1, r2⟩
    have r1 : r = nI (rigS S P p i) := r1
    have r3 : Fr EX y y' := r2
    subst r1
    have hX' := y1.fr hV (r3.mo fun g a j q => q.nx)
    rw [if_neg (nI_pos (by omega)), na_cl (by omega), if_neg (by omega), show nI i + 1 = nI (i + 1) from (nI_succ i).symm]
    refine kk _ ⟨hX'.fr hV (Fr.rf.up (by unfold NX; omega)), fun h hh => ?_⟩
    by_cases e : h = i
    · subst e; exact u3s _ _ _ _ _
    · show upd3 y' 19 0 i _ 19 0 h = _
      rw [u3n _ _ _ _ _ (by omega), r3 19 0 h (by unfold EX; omega)]
      exact y2 h (by omega)
  · rintro N y ⟨y1, y2⟩
    show wp (X_cover_L2 (N + 1) (nI p) (nI 24) y) _
    have hp2 : 0 < 2 ^ S 5 0 := Nat.two_pow_pos _
    rw [X_cover_L2, if_neg (by decide), y1.1.1, one_shl _ (by omega), show nI (2 ^ S 5 0) - 1 = nI (2 ^ S 5 0 - 1) from na_sub (a := 2 ^ S 5 0) (b := 1) (by omega)]
    refine wp_mono (x_coverL v1 (rigS_l2 (S := S) (P := P) p) y2) ?_
    rintro ⟨a, z⟩ ⟨z1, z2⟩
    have z1 : z = y := z1
    subst z1
    exact ⟨z2, y1⟩
theorem m_rights (hM : RM S I P τ) (hV : SV S) {p : Nat} (hp : p < 3) : wp (M_rights (nI p) τ) (fun y => RM S I P y ∧ ∀ h, h < 24 → y 37 0 h = nI (rigS S P p h)) := by
  unfold M_rights
  refine loopW (fun N (y : Sg) i => M_rights_L2 N (nI p) (nI i) y) (fun i y => RM S I P y ∧ ∀ h, h < i → y 37 0 h = nI (rigS S P p h)) 24 _ ?_ ?_ 0 τ FU (Nat.zero_le _) ⟨hM, fun h q => absurd q (by omega)⟩ (FU_big (by omega))
  · rintro N i y hi ⟨y1, y2⟩ kk
    show wp (M_rights_L2 (N + 1) (nI p) (nI i) y) _
    rw [M_rights_L2, if_pos (show nI i < 24 from nI_lt (b := 24) hi (by decide))]
    refine wp_bind (m_right y1 hV hp hi) ?_
    rintro ⟨r, y'⟩ ⟨r1, r2⟩
    have r1 : r = nI (rigS S P p i) := r1
    have r3 : Fr SF y y' := r2
    subst r1
    have hX' := y1.fr (r3.mo fun g a j q => q.nm)
    rw [if_neg (nI_pos (by omega)), na_cl (by omega), if_neg (by omega), show nI i + 1 = nI (i + 1) from (nI_succ i).symm]
    refine kk _ ⟨hX'.fr (Fr.rf.up (by unfold NM; omega)), fun h hh => ?_⟩
    by_cases e : h = i
    · subst e; exact u3s _ _ _ _ _
    · show upd3 y' 37 0 i _ 37 0 h = _
      rw [u3n _ _ _ _ _ (by omega), r3 37 0 h (by unfold SF; omega)]
      exact y2 h (by omega)
  · rintro N y ⟨y1, y2⟩
    show wp (M_rights_L2 (N + 1) (nI p) (nI 24) y) _
    rw [M_rights_L2, if_neg (by decide)]
    exact wp_some ⟨y1, y2⟩
theorem m_cover (hM : RM S I P τ) (hV : SV S) {p : Nat} (hp : p < 3) : wp (M_coverOf (nI p) τ) (fun q => (∃ b, q.1 = nI b ∧ bqP (rigS S P p) (2 ^ S 5 0) b) ∧ RM S I P q.2) := by
  obtain ⟨v1, v2, v3, v4⟩ := hV.1
  have h8 : 2 ^ S 5 0 ≤ 2 ^ 8 := Nat.pow_le_pow_right (by omega) v1
  have hp2 : 0 < 2 ^ S 5 0 := Nat.two_pow_pos _
  have hr8 : ∀ h, rigS S P p h < 256 := fun h => rigS_lt hV p h
  unfold M_coverOf
  refine wp_bind (m_rights hM hV hp) ?_
  rintro τ5 ⟨t1, t2⟩
  refine loopW (fun N (z : Int32) i => M_coverOf_L9 N z (nI i) τ5) (fun i z => (z = -1 ∧ ∀ v, v < i → ¬ cvP (rigS S P p) v) ∨ ∃ b, z = nI b ∧ b < i ∧ cvP (rigS S P p) b ∧ ∀ v, v < i → cvP (rigS S P p) v → pqN b < pqN v ∨ (pqN b = pqN v ∧ b ≤ v)) (2 ^ S 5 0) _ ?_ ?_ 0 (-1 : Int32) FU (Nat.zero_le _) (Or.inl ⟨rfl, fun v q => absurd q (by omega)⟩) (FU_big (by omega))
  · rintro N i z hi hz kk
    show wp (M_coverOf_L9 (N + 1) z (nI i) τ5) _
    rw [M_coverOf_L9, t1.1.1, one_shl _ (by omega), if_pos (nI_lt hi (by omega)), show nI i + 1 = nI (i + 1) from (nI_succ i).symm]
    have q1 := pqN_le i
    rcases hz with ⟨rfl, hz⟩ | ⟨b, rfl, b1, b2, b3⟩
    · rw [if_pos rfl]
      refine wp_bind (m_covers hr8 t2 i) ?_
      rintro ⟨k, y⟩ ⟨k1, k2⟩
      have k1 : y = τ5 := k1
      have k2 : (k = 1 ∧ cvP (rigS S P p) i) ∨ (k = 0 ∧ ¬ cvP (rigS S P p) i) := k2
      subst k1
      rcases k2 with ⟨rfl, k3⟩ | ⟨rfl, k3⟩
      · rw [if_neg (show ¬ (1 : Int32) = 0 by decide)]
        refine kk (nI i) (Or.inr ⟨i, rfl, by omega, k3, fun v v1 v2 => ?_⟩)
        by_cases e : v = i
        · subst e; exact Or.inr ⟨rfl, Nat.le_refl _⟩
        · exact absurd v2 (hz v (by omega))
      · rw [if_pos rfl]
        refine kk (-1) (Or.inl ⟨rfl, fun v v1 => ?_⟩)
        by_cases e : v = i
        · subst e; exact k3
        · exact hz v (by omega)
    · have q2 := pqN_le b
      rw [if_neg (nI_n1 (by omega)), s_bitsOf (by omega)]
      simp only [Option.bind_some]
      rw [s_bitsOf (by omega)]
      simp only [Option.bind_some]
      have stay : (cvP (rigS S P p) i → pqN b < pqN i ∨ (pqN b = pqN i ∧ b ≤ i)) → wp (M_coverOf_L9 N (nI b) (nI (i + 1)) τ5) _ := fun hst => kk (nI b) (Or.inr ⟨b, rfl, by omega, b2, fun v v1 v2 => by
        by_cases e : v = i
        · subst e; exact hst v2
        · exact b3 v (by omega) v2⟩)
      by_cases c : pqN i < pqN b
      · rw [if_pos (nI_lt c (by omega))]
        refine wp_bind (m_covers hr8 t2 i) ?_
        rintro ⟨k, y⟩ ⟨k1, k2⟩
        have k1 : y = τ5 := k1
        have k2 : (k = 1 ∧ cvP (rigS S P p) i) ∨ (k = 0 ∧ ¬ cvP (rigS S P p) i) := k2
        subst k1
        rcases k2 with ⟨rfl, k3⟩ | ⟨rfl, k3⟩
        · rw [if_neg (show ¬ (1 : Int32) = 0 by decide)]
          refine kk (nI i) (Or.inr ⟨i, rfl, by omega, k3, fun v v1 v2 => ?_⟩)
          by_cases e : v = i
          · subst e; exact Or.inr ⟨rfl, Nat.le_refl _⟩
          · have := b3 v (by omega) v2
            omega
        · rw [if_pos rfl]
          exact stay fun q => absurd q k3
      · rw [if_neg (nI_nlt (by omega) (by omega))]
        exact stay fun q => by omega
  · rintro N z hz
    show wp (M_coverOf_L9 (N + 1) z (nI (2 ^ S 5 0)) τ5) _
    rw [M_coverOf_L9, t1.1.1, one_shl _ (by omega), if_neg (nI_nlt (Nat.le_refl _) (by omega))]
    rcases hz with ⟨rfl, hz⟩ | ⟨b, rfl, b1, b2, b3⟩
    · exact absurd (cv_full (rigS_l2 (S := S) (P := P) p)) (hz _ (by omega))
    · exact wp_some ⟨⟨b, rfl, b1, b2, b3⟩, t1⟩
end
