/-! the calls: image, back -/
section
variable {S : Nat → Nat → Nat} {I : Nat → Nat → Int32} {P : Nat → Txt} {σ τ : Sg}
def imS (S : Nat → Nat → Nat) : Nat → Nat → Nat := fun g k => if g = 9 then S 0 k else if g = 10 then S 2 k else if g = 11 then S 3 k else if g = 12 then S 4 k else if g = 5 ∧ k = 4 then 1 else if g = 5 ∧ k = 5 then S 5 0 else if g = 5 ∧ k = 6 then S 5 1 else S g k
def bkS (S : Nat → Nat → Nat) : Nat → Nat → Nat := fun g k => if g = 0 then S 9 k else if g = 2 then S 10 k else if g = 3 then S 11 k else if g = 4 then S 12 k else if g = 5 ∧ k = 0 then S 5 5 else if g = 5 ∧ k = 1 then S 5 6 else S g k
theorem imS_o {g k : Nat} (h : g < 9) (h2 : ¬ (g = 5 ∧ 4 ≤ k ∧ k ≤ 6)) : imS S g k = S g k := by
  unfold imS
  rw [if_neg (by omega), if_neg (by omega), if_neg (by omega), if_neg (by omega), if_neg (by omega), if_neg (by omega), if_neg (by omega)]
theorem bkS_o {g k : Nat} (h : g ≠ 0 ∧ g ≠ 2 ∧ g ≠ 3 ∧ g ≠ 4) (h2 : ¬ (g = 5 ∧ k ≤ 1)) : bkS S g k = S g k := by
  unfold bkS
  rw [if_neg (by omega), if_neg (by omega), if_neg (by omega), if_neg (by omega), if_neg (by omega), if_neg (by omega)]
theorem s_become {a c : Nat} (h : a ≠ c) (σ : Sg) : ∃ σ', Coat_become a c σ = some σ' ∧ (∀ j, j < 4 → σ' 1 a j = σ 1 c j) ∧ Fr (fun g b _ => g = 1 ∧ b = a) σ σ' := by
  refine ⟨_, rfl, fun j hj => ?_, ((((Fr.rf.up ⟨rfl, rfl⟩).up ⟨rfl, rfl⟩).up ⟨rfl, rfl⟩).up ⟨rfl, rfl⟩).up ⟨rfl, rfl⟩⟩
  have hj4 : j = 0 ∨ j = 1 ∨ j = 2 ∨ j = 3 := by omega
  have h' : ¬ c = a := fun e => h e.symm
  rcases hj4 with q | q | q | q <;> subst q <;> simp [upd3, h']
theorem s_becomes (from_ to_ : Nat → Nat) (ne : ∀ i k, i < 8 → k < 8 → from_ i ≠ to_ k) (inj : ∀ i k, i < 8 → k < 8 → to_ i = to_ k → i = k) : ∀ m i (σ0 σ : Sg), i + m = 8 → (∀ c j, c < i → j < 4 → σ 1 (to_ c) j = σ0 1 (from_ c) j) → Fr (fun g b _ => g = 1 ∧ ∃ c, c < 8 ∧ b = to_ c) σ0 σ → ∀ (L : Nat → Int32 → Sg → Option (Int32 × Sg)) (Q : Int32 × Sg → Prop),
    (∀ n s i, i < 8 → L (n + 1) (nI i) s = (Coat_become (to_ i) (from_ i) s).bind fun s' => L n (nI (i + 1)) s') →
    (∀ n s, (∀ c j, c < 8 → j < 4 → s 1 (to_ c) j = σ0 1 (from_ c) j) → Fr (fun g b _ => g = 1 ∧ ∃ c, c < 8 ∧ b = to_ c) σ0 s → wp (L (n + 1) (nI 8) s) Q) → ∀ n, m < n → wp (L n (nI i) σ) Q := by
  intro m
  induction m with
  | zero =>
    intro i σ0 σ hi hc hf L Q hs he n hn
    obtain ⟨n, rfl⟩ : ∃ n', n = n' + 1 := ⟨n - 1, by omega⟩
    have : i = 8 := by omega
    subst this
    exact he n σ hc hf
  | succ m ih =>
    intro i σ0 σ hi hc hf L Q hs he n hn
    obtain ⟨n, rfl⟩ : ∃ n', n = n' + 1 := ⟨n - 1, by omega⟩
    rw [hs n σ i (by omega)]
    obtain ⟨σ', e, k1, k2⟩ := s_become (a := to_ i) (c := from_ i) (fun q => ne i i (by omega) (by omega) q.symm) σ
    rw [e]
    simp only [Option.bind_some]
    refine ih (i + 1) σ0 σ' (by omega) (fun c j h1 h2 => ?_) (hf.tr (k2.mo fun g b j h => ⟨h.1, i, by omega, h.2⟩)) L Q hs he n (by omega)
    by_cases q : c = i
    · subst q
      rw [k1 j h2]
      exact hf _ _ _ (fun h => by obtain ⟨_, d, hd, e⟩ := h; exact ne c d (by omega) hd e)
    · rw [k2 _ _ _ (fun h => q (inj c i (by omega) (by omega) h.2))]
      exact hc c j (by omega) h2
theorem x_image (hX : RX S I P σ) (hV : SV S) : wp (X_image σ) (fun r => r.1 = nI (S 5 0) ∧ RX (imS S) I P r.2) := by
  obtain ⟨v1, v2, v3, v4⟩ := hV.1
  obtain ⟨a1, a2, a3, a4⟩ := hX.1
  unfold X_image
  have c4 : ∀ g a j, ¬ (g = 21 ∧ a = 0 ∧ j < 72) → cpy3 σ 23 0 0 21 0 0 72 g a j = σ g a j := fun g a j h => by
    unfold cpy3
    rw [if_neg (by omega)]
  have c21 : ∀ j, j < 72 → cpy3 σ 23 0 0 21 0 0 72 21 0 j = σ 23 0 j := fun j hj => by
    unfold cpy3
    rw [if_pos (by omega), Nat.zero_add, Nat.sub_zero]
  revert c4 c21
  generalize cpy3 σ 23 0 0 21 0 0 72 = σ4
  intro c4 c21
  refine s_becomes (fun c => c) (fun c => c + 9) (fun i k h1 h2 h => by have h : i = k + 9 := h; omega) (fun i k _ _ h => by have h : i + 9 = k + 9 := h; omega) 8 0 σ4 σ4 rfl (fun c j h => absurd h (Nat.not_lt_zero _)) Fr.rf (fun n i s => X_image_L20 n i s) _ (fun n s i hi => ?_) (fun n s hc hf => ?_) FU (FU_big (by omega))
  · show X_image_L20 (n + 1) (nI i) s = _
    rw [X_image_L20, if_pos (show nI i < 8 from nI_lt (b := 8) hi (by decide)), if_neg (nI_pos (by omega)), na_cl (by omega), if_neg (by omega), if_neg (nI_pos (by omega)), if_neg (by omega), show nI i + 1 = nI (i + 1) from (nI_succ i).symm]
  · show wp (X_image_L20 (n + 1) (nI 8) s) _
    unfold X_image_L20
    rw [if_neg (by decide)]
    have fs : ∀ g a j, ¬ (g = 1 ∧ 9 ≤ a ∧ a < 17) → s g a j = σ4 g a j := fun g a j h => hf g a j (fun q => by
      obtain ⟨q1, c, q2, q3⟩ := q
      exact h ⟨q1, by rw [q3]; omega, by rw [q3]; omega⟩)
    have o0 : s 0 0 2 = nI (S 5 0) := by rw [fs 0 0 2 (by omega), c4 0 0 2 (by omega)]; exact a1
    have o6 : s 0 0 6 = nI (S 5 1) := by rw [fs 0 0 6 (by omega), c4 0 0 6 (by omega)]; exact a2
    have rd : ∀ g a j, ¬ (g = 20) → ¬ (g = 21 ∧ a = 0 ∧ j < 72) → ¬ (g = 1 ∧ 9 ≤ a ∧ a < 17) → upd3 (upd3 s 20 0 2 (s 0 0 2)) 20 0 3 (upd3 s 20 0 2 (s 0 0 2) 0 0 6) g a j = σ g a j := fun g a j h1 h2 h3 => by
      rw [u3n _ _ _ _ _ (by omega), u3n _ _ _ _ _ (by omega), fs g a j h3, c4 g a j h2]
    refine wp_some ⟨?_, ⟨?_, ?_, ?_, ?_⟩, fun k hk => ?_, fun c hc2 => ?_, hX.2.2.2.1.cg rfl (fun _ => rfl) (fun j => rd 7 0 j (by omega) (by omega) (by omega)), hX.2.2.2.2.1.cg (fun _ => rfl) (fun _ => rfl) (fun i j => rd 12 i j (by omega) (by omega) (by omega)) (fun i j => rd 13 i j (by omega) (by omega) (by omega)), ⟨fun q => absurd (show (1 : Nat) = 0 from q) (by decide), fun _ => ⟨?_, ?_, fun k hk => ?_, fun c hc2 => ?_⟩⟩, hX.2.2.2.2.2.2.cg rfl (fun i j => rd 3 i j (by omega) (by omega) (by omega)) (fun i j => rd 4 i j (by omega) (by omega) (by omega))⟩
    · show upd3 (upd3 s 20 0 2 (s 0 0 2)) 20 0 3 (upd3 s 20 0 2 (s 0 0 2) 0 0 6) 0 0 2 = _
      rw [rd 0 0 2 (by omega) (by omega) (by omega)]; exact a1
    · exact (rd 0 0 2 (by omega) (by omega) (by omega)).trans a1
    · exact (rd 0 0 6 (by omega) (by omega) (by omega)).trans a2
    · exact (rd 0 0 5 (by omega) (by omega) (by omega)).trans a3
    · exact (rd 6 0 4 (by omega) (by omega) (by omega)).trans a4
    · exact (rd 23 0 k (by omega) (by omega) (by omega)).trans (hX.2.1 k hk)
    · have hc2 : c < S 5 0 := hc2
      obtain ⟨g0, g1, g2, g3⟩ := hX.2.2.1 c hc2
      exact ⟨(rd 1 c 0 (by omega) (by omega) (by omega)).trans g0, (rd 1 c 1 (by omega) (by omega) (by omega)).trans g1, (rd 1 c 2 (by omega) (by omega) (by omega)).trans g2, (rd 1 c 3 (by omega) (by omega) (by omega)).trans g3⟩
    · show upd3 (upd3 s 20 0 2 (s 0 0 2)) 20 0 3 (upd3 s 20 0 2 (s 0 0 2) 0 0 6) 20 0 2 = nI (S 5 0)
      rw [u3n _ _ _ _ _ (by omega), u3s]; exact o0
    · show upd3 (upd3 s 20 0 2 (s 0 0 2)) 20 0 3 (upd3 s 20 0 2 (s 0 0 2) 0 0 6) 20 0 3 = nI (S 5 1)
      rw [u3s, u3n _ _ _ _ _ (by omega)]; exact o6
    · show upd3 (upd3 s 20 0 2 (s 0 0 2)) 20 0 3 (upd3 s 20 0 2 (s 0 0 2) 0 0 6) 21 0 k = nI (S 0 k)
      rw [u3n _ _ _ _ _ (by omega), u3n _ _ _ _ _ (by omega), fs 21 0 k (by omega), c21 k hk]; exact hX.2.1 k hk
    · have hc2 : c < S 5 0 := hc2
      obtain ⟨g0, g1, g2, g3⟩ := hX.2.2.1 c hc2
      have rc : ∀ j, j < 4 → upd3 (upd3 s 20 0 2 (s 0 0 2)) 20 0 3 (upd3 s 20 0 2 (s 0 0 2) 0 0 6) 1 (9 + c) j = σ 1 c j := fun j hj => by
        rw [u3n _ _ _ _ _ (by omega), u3n _ _ _ _ _ (by omega), Nat.add_comm 9 c]
        exact (hc c j (by omega) hj).trans (c4 1 c j (by omega))
      exact ⟨(rc 0 (by omega)).trans g0, (rc 1 (by omega)).trans g1, (rc 2 (by omega)).trans g2, (rc 3 (by omega)).trans g3⟩
/-- n places of a row of the reference come to another one -/
theorem m_cpyL {N g1 g2 : Nat} (hg : g1 ≠ g2) (L : Nat → Int32 → Sg → Option (Int32 × Sg)) (Q : Int32 × Sg → Prop) (hN : N < 900)
    (hs : ∀ n s i, i < N → L (n + 1) (nI i) s = L n (nI (i + 1)) (upd3 s g2 0 i (s g1 0 i))) (τ0 : Sg)
    (he : ∀ n s, (∀ j, j < N → s g2 0 j = τ0 g1 0 j) → Fr (fun g _ j => g = g2 ∧ j < N) τ0 s → wp (L (n + 1) (nI N) s) Q) : wp (L FU (nI 0) τ0) Q := by
  refine loopW (fun n (s : Sg) i => L n (nI i) s) (fun i s => (∀ j, j < i → s g2 0 j = τ0 g1 0 j) ∧ Fr (fun g _ j => g = g2 ∧ j < N) τ0 s) N Q ?_ ?_ 0 τ0 FU (Nat.zero_le _) ⟨fun j h => absurd h (Nat.not_lt_zero _), Fr.rf⟩ (FU_big (by omega))
  · rintro n i s hi ⟨h1, h2⟩ k
    show wp (L (n + 1) (nI i) s) Q
    rw [hs n s i hi]
    refine k _ ⟨fun j hj => ?_, h2.up ⟨rfl, hi⟩⟩
    by_cases e : j = i
    · subst e
      rw [u3s]
      exact h2 _ _ _ (fun q => hg q.1)
    · rw [u3n _ _ _ _ _ (by omega)]
      exact h1 j (by omega)
  · rintro n s ⟨h1, h2⟩
    exact he n s h1 h2
theorem m_image (hM : RM S I P τ) (hV : SV S) : wp (M_image τ) (fun r => r.1 = nI (S 5 0) ∧ RM (imS S) I P r.2) := by
  obtain ⟨v1, v2, v3, v4⟩ := hV.1
  obtain ⟨m1, m2, m3, m4⟩ := hM.1
  unfold M_image
  refine m_cpyL (N := 72) (g1 := 34) (g2 := 45) (by omega) (fun n i s => M_image_L2 n i s) _ (by omega) (fun n s i hi => ?_) τ (fun n s h45 f1 => ?_)
  · show M_image_L2 (n + 1) (nI i) s = _
    rw [M_image_L2, if_pos (show nI i < 72 from nI_lt (b := 72) hi (by decide)), if_neg (nI_pos (by omega)), na_cl (by omega), if_neg (by omega), if_neg (nI_pos (by omega)), if_neg (by omega), show nI i + 1 = nI (i + 1) from (nI_succ i).symm]
  show wp (M_image_L2 (n + 1) (nI 72) s) _
  unfold M_image_L2
  rw [if_neg (by decide)]
  refine m_cpyL (N := 24) (g1 := 36) (g2 := 46) (by omega) (fun n i s => M_image_L28 n i s) _ (by omega) (fun n s i hi => ?_) s (fun n s2 h46 f2 => ?_)
  · show M_image_L28 (n + 1) (nI i) s = _
    rw [M_image_L28, if_pos (show nI i < 24 from nI_lt (b := 24) hi (by decide)), if_neg (nI_pos (by omega)), na_cl (by omega), if_neg (by omega), if_neg (nI_pos (by omega)), if_neg (by omega), show nI i + 1 = nI (i + 1) from (nI_succ i).symm]
  show wp (M_image_L28 (n + 1) (nI 24) s2) _
  unfold M_image_L28
  rw [if_neg (by decide)]
  have fs : ∀ g j, g ≠ 45 → g ≠ 46 → s2 g 0 j = τ g 0 j := fun g j h1 h2 => (f2 g 0 j (fun q => h2 q.1)).trans (f1 g 0 j (fun q => h1 q.1))
  have rd : ∀ g j, ¬ (g = 30 ∧ (j = 36 ∨ j = 37)) → g ≠ 45 → g ≠ 46 → upd3 (upd3 s2 30 0 36 (s2 30 0 10)) 30 0 37 (upd3 s2 30 0 36 (s2 30 0 10) 30 0 4) g 0 j = τ g 0 j := fun g j h h1 h2 => by
    rw [u3n _ _ _ _ _ (by omega), u3n _ _ _ _ _ (by omega)]; exact fs g j h1 h2
  refine wp_some ⟨?_, ⟨?_, ?_, ?_, ?_⟩, fun k hk => ?_, fun c hc2 => ?_, hM.2.2.2.1.cg rfl (fun _ => rfl) (fun j => rd 33 j (by omega) (by omega) (by omega)), hM.2.2.2.2.1.cg (fun _ => rfl) (fun _ => rfl) (fun g j hg => rd g j (by omega) (by omega) (by omega)), ⟨fun q => absurd (show (1 : Nat) = 0 from q) (by decide), fun _ => ⟨?_, ?_, fun k hk => ?_, fun c hc2 => ?_⟩⟩, hM.2.2.2.2.2.2.cg rfl (fun j => rd 31 j (by omega) (by omega) (by omega)) (fun j => rd 32 j (by omega) (by omega) (by omega))⟩
  · exact (rd 30 10 (by omega) (by omega) (by omega)).trans m1
  · exact (rd 30 10 (by omega) (by omega) (by omega)).trans m1
  · exact (rd 30 4 (by omega) (by omega) (by omega)).trans m2
  · exact (rd 30 3 (by omega) (by omega) (by omega)).trans m3
  · exact (rd 30 6 (by omega) (by omega) (by omega)).trans m4
  · exact (rd 34 k (by omega) (by omega) (by omega)).trans (hM.2.1 k hk)
  · obtain ⟨g0, g1, g2, g3⟩ := hM.2.2.1 c hc2
    exact ⟨(rd 35 c (by omega) (by omega) (by omega)).trans g0, (rd 36 _ (by omega) (by omega) (by omega)).trans g1, (rd 36 _ (by omega) (by omega) (by omega)).trans g2, (rd 36 _ (by omega) (by omega) (by omega)).trans g3⟩
  · show upd3 (upd3 s2 30 0 36 (s2 30 0 10)) 30 0 37 (upd3 s2 30 0 36 (s2 30 0 10) 30 0 4) 30 0 36 = nI (S 5 0)
    rw [u3n _ _ _ _ _ (by omega), u3s]; exact (fs 30 10 (by omega) (by omega)).trans m1
  · show upd3 (upd3 s2 30 0 36 (s2 30 0 10)) 30 0 37 (upd3 s2 30 0 36 (s2 30 0 10) 30 0 4) 30 0 37 = nI (S 5 1)
    rw [u3s, u3n _ _ _ _ _ (by omega)]; exact (fs 30 4 (by omega) (by omega)).trans m2
  · show upd3 (upd3 s2 30 0 36 (s2 30 0 10)) 30 0 37 (upd3 s2 30 0 36 (s2 30 0 10) 30 0 4) 45 0 k = nI (S 0 k)
    rw [u3n _ _ _ _ _ (by omega), u3n _ _ _ _ _ (by omega), f2 45 0 k (by omega), h45 k hk]; exact hM.2.1 k hk
  · have hc2 : c < S 5 0 := hc2
    obtain ⟨g0, g1, g2, g3⟩ := hM.2.2.1 c hc2
    have rc : ∀ j, j < 24 → upd3 (upd3 s2 30 0 36 (s2 30 0 10)) 30 0 37 (upd3 s2 30 0 36 (s2 30 0 10) 30 0 4) 46 0 j = τ 36 0 j := fun j hj => by
      rw [u3n _ _ _ _ _ (by omega), u3n _ _ _ _ _ (by omega), h46 j hj]; exact f1 36 0 j (by omega)
    exact ⟨(rc (3 * c) (by omega)).trans g1, (rc (3 * c + 1) (by omega)).trans g2, (rc (3 * c + 2) (by omega)).trans g3⟩
theorem q_image (hR : Rel σ τ) : CP (X_image σ) (M_image τ) := by
  obtain ⟨S, I, P, hX, hM, hV⟩ := id hR
  refine CP_mk (x_image hX hV) (m_image hM hV) ⟨hV.1.cg (fun k hk => imS_o (by omega) (by omega)), hV.2.1.cg (fun _ => rfl), hV.2.2.1.cg rfl (fun g c h1 h2 => imS_o (by omega) (by omega)), hV.2.2.2.1.cg rfl (fun _ => rfl), hV.2.2.2.2.1.cg (fun _ => rfl) (fun _ => rfl), fun _ => ⟨Nat.le_refl _, hV.1.2.1, hV.2.1, fun c hc => hV.2.2.1 c hc⟩⟩
theorem x_back (hX : RX S I P σ) (hV : SV S) (h4 : S 5 4 ≠ 0) : wp (X_back σ) (fun r => r.1 = nI (S 5 5) ∧ RX (bkS S) I P r.2) := by
  obtain ⟨v1, v2, v3, v4⟩ := hV.1
  obtain ⟨a1, a2, a3, a4⟩ := hX.1
  obtain ⟨i1, i2, i3, i4⟩ := hX.2.2.2.2.2.1.2 h4
  obtain ⟨w1, w2, w3, w4⟩ := hV.2.2.2.2.2 h4
  unfold X_back
  rw [i1, if_neg (nI_n1 (by omega))]
  have c4 : ∀ g a j, ¬ (g = 23 ∧ a = 0 ∧ j < 72) → cpy3 σ 21 0 0 23 0 0 72 g a j = σ g a j := fun g a j h => by
    unfold cpy3
    rw [if_neg (by omega)]
  have c21 : ∀ j, j < 72 → cpy3 σ 21 0 0 23 0 0 72 23 0 j = σ 21 0 j := fun j hj => by
    unfold cpy3
    rw [if_pos (by omega), Nat.zero_add, Nat.sub_zero]
  revert c4 c21
  generalize cpy3 σ 21 0 0 23 0 0 72 = σ4
  intro c4 c21
  refine s_becomes (fun c => c + 9) (fun c => c) (fun i k h1 h2 h => by have h : i + 9 = k := h; omega) (fun i k _ _ h => h) 8 0 σ4 σ4 rfl (fun c j h => absurd h (Nat.not_lt_zero _)) Fr.rf (fun n i s => X_back_L34 n i s) _ (fun n s i hi => ?_) (fun n s hc hf => ?_) FU (FU_big (by omega))
  · show X_back_L34 (n + 1) (nI i) s = _
    rw [X_back_L34, if_pos (show nI i < 8 from nI_lt (b := 8) hi (by decide)), if_neg (nI_pos (by omega)), na_cl (by omega), if_neg (by omega), if_neg (nI_pos (by omega)), if_neg (by omega), show nI i + 1 = nI (i + 1) from (nI_succ i).symm]
  · show wp (X_back_L34 (n + 1) (nI 8) s) _
    unfold X_back_L34
    rw [if_neg (by decide)]
    have fs : ∀ g a j, ¬ (g = 1 ∧ a < 8) → s g a j = σ4 g a j := fun g a j h => hf g a j (fun q => by
      obtain ⟨q1, c, q2, q3⟩ := q
      exact h ⟨q1, by rw [q3]; exact q2⟩)
    have o0 : s 20 0 2 = nI (S 5 5) := by rw [fs 20 0 2 (by omega), c4 20 0 2 (by omega)]; exact i1
    have o6 : s 20 0 3 = nI (S 5 6) := by rw [fs 20 0 3 (by omega), c4 20 0 3 (by omega)]; exact i2
    have rd : ∀ g a j, ¬ (g = 0 ∧ (j = 2 ∨ j = 6)) → ¬ (g = 23 ∧ a = 0 ∧ j < 72) → ¬ (g = 1 ∧ a < 8) → upd3 (upd3 s 0 0 2 (s 20 0 2)) 0 0 6 (upd3 s 0 0 2 (s 20 0 2) 20 0 3) g a j = σ g a j := fun g a j h1 h2 h3 => by
      rw [u3n _ _ _ _ _ (by omega), u3n _ _ _ _ _ (by omega), fs g a j h3, c4 g a j h2]
    refine wp_some ⟨?_, ⟨?_, ?_, ?_, ?_⟩, fun k hk => ?_, fun c hc2 => ?_, hX.2.2.2.1.cg rfl (fun _ => rfl) (fun j => rd 7 0 j (by omega) (by omega) (by omega)), hX.2.2.2.2.1.cg (fun _ => rfl) (fun _ => rfl) (fun i j => rd 12 i j (by omega) (by omega) (by omega)) (fun i j => rd 13 i j (by omega) (by omega) (by omega)), hX.2.2.2.2.2.1.cg (fun k hk => bkS_o (by omega) (by omega)) (fun g c hg => bkS_o (by omega) (by omega)) (fun _ _ _ => rfl) (fun j => rd 20 0 j (by omega) (by omega) (by omega)) (fun j => rd 21 0 j (by omega) (by omega) (by omega)) (fun c j => rd 1 (9 + c) j (by omega) (by omega) (by omega)), hX.2.2.2.2.2.2.cg rfl (fun i j => rd 3 i j (by omega) (by omega) (by omega)) (fun i j => rd 4 i j (by omega) (by omega) (by omega))⟩
    · show upd3 (upd3 s 0 0 2 (s 20 0 2)) 0 0 6 (upd3 s 0 0 2 (s 20 0 2) 20 0 3) 0 0 2 = _
      rw [u3n _ _ _ _ _ (by omega), u3s]; exact o0
    · show upd3 (upd3 s 0 0 2 (s 20 0 2)) 0 0 6 (upd3 s 0 0 2 (s 20 0 2) 20 0 3) 0 0 2 = nI (S 5 5)
      rw [u3n _ _ _ _ _ (by omega), u3s]; exact o0
    · show upd3 (upd3 s 0 0 2 (s 20 0 2)) 0 0 6 (upd3 s 0 0 2 (s 20 0 2) 20 0 3) 0 0 6 = nI (S 5 6)
      rw [u3s, u3n _ _ _ _ _ (by omega)]; exact o6
    · exact (rd 0 0 5 (by omega) (by omega) (by omega)).trans a3
    · exact (rd 6 0 4 (by omega) (by omega) (by omega)).trans a4
    · show upd3 (upd3 s 0 0 2 (s 20 0 2)) 0 0 6 (upd3 s 0 0 2 (s 20 0 2) 20 0 3) 23 0 k = nI (S 9 k)
      rw [u3n _ _ _ _ _ (by omega), u3n _ _ _ _ _ (by omega), fs 23 0 k (by omega), c21 k hk]; exact i3 k hk
    · have hc2 : c < S 5 5 := hc2
      obtain ⟨g0, g1, g2, g3⟩ := i4 c hc2
      have rc : ∀ j, j < 4 → upd3 (upd3 s 0 0 2 (s 20 0 2)) 0 0 6 (upd3 s 0 0 2 (s 20 0 2) 20 0 3) 1 c j = σ 1 (9 + c) j := fun j hj => by
        rw [u3n _ _ _ _ _ (by omega), u3n _ _ _ _ _ (by omega), Nat.add_comm 9 c]
        exact (hc c j (by omega) hj).trans (c4 1 (c + 9) j (by omega))
      exact ⟨(rc 0 (by omega)).trans g0, (rc 1 (by omega)).trans g1, (rc 2 (by omega)).trans g2, (rc 3 (by omega)).trans g3⟩
theorem m_back (hM : RM S I P τ) (hV : SV S) (h4 : S 5 4 ≠ 0) : wp (M_back τ) (fun r => r.1 = nI (S 5 5) ∧ RM (bkS S) I P r.2) := by
  obtain ⟨v1, v2, v3, v4⟩ := hV.1
  obtain ⟨m1, m2, m3, m4⟩ := hM.1
  obtain ⟨i1, i2, i3, i4⟩ := hM.2.2.2.2.2.1.2 h4
  obtain ⟨w1, w2, w3, w4⟩ := hV.2.2.2.2.2 h4
  unfold M_back
  rw [i1, if_neg (nI_n1 (by omega))]
  refine m_cpyL (N := 72) (g1 := 45) (g2 := 34) (by omega) (fun n i s => M_back_L13 n i s) _ (by omega) (fun n s i hi => ?_) τ (fun n s h45 f1 => ?_)
  · show M_back_L13 (n + 1) (nI i) s = _
    rw [M_back_L13, if_pos (show nI i < 72 from nI_lt (b := 72) hi (by decide)), if_neg (nI_pos (by omega)), na_cl (by omega), if_neg (by omega), if_neg (nI_pos (by omega)), if_neg (by omega), show nI i + 1 = nI (i + 1) from (nI_succ i).symm]
  show wp (M_back_L13 (n + 1) (nI 72) s) _
  unfold M_back_L13
  rw [if_neg (by decide)]
  refine m_cpyL (N := 24) (g1 := 46) (g2 := 36) (by omega) (fun n i s => M_back_L39 n i s) _ (by omega) (fun n s i hi => ?_) s (fun n s2 h46 f2 => ?_)
  · show M_back_L39 (n + 1) (nI i) s = _
    rw [M_back_L39, if_pos (show nI i < 24 from nI_lt (b := 24) hi (by decide)), if_neg (nI_pos (by omega)), na_cl (by omega), if_neg (by omega), if_neg (nI_pos (by omega)), if_neg (by omega), show nI i + 1 = nI (i + 1) from (nI_succ i).symm]
  show wp (M_back_L39 (n + 1) (nI 24) s2) _
  unfold M_back_L39
  rw [if_neg (by decide)]
  have fs : ∀ g j, g ≠ 34 → g ≠ 36 → s2 g 0 j = τ g 0 j := fun g j h1 h2 => (f2 g 0 j (fun q => h2 q.1)).trans (f1 g 0 j (fun q => h1 q.1))
  have rd : ∀ g j, ¬ (g = 30 ∧ (j = 10 ∨ j = 4)) → g ≠ 34 → g ≠ 36 → upd3 (upd3 s2 30 0 10 (s2 30 0 36)) 30 0 4 (upd3 s2 30 0 10 (s2 30 0 36) 30 0 37) g 0 j = τ g 0 j := fun g j h h1 h2 => by
    rw [u3n _ _ _ _ _ (by omega), u3n _ _ _ _ _ (by omega)]; exact fs g j h1 h2
  have e10 : upd3 (upd3 s2 30 0 10 (s2 30 0 36)) 30 0 4 (upd3 s2 30 0 10 (s2 30 0 36) 30 0 37) 30 0 10 = nI (S 5 5) := by
    rw [u3n _ _ _ _ _ (by omega), u3s]; exact (fs 30 36 (by omega) (by omega)).trans i1
  refine wp_some ⟨e10, ⟨e10, ?_, ?_, ?_⟩, fun k hk => ?_, fun c hc2 => ?_, hM.2.2.2.1.cg rfl (fun _ => rfl) (fun j => rd 33 j (by omega) (by omega) (by omega)), hM.2.2.2.2.1.cg (fun _ => rfl) (fun _ => rfl) (fun g j hg => rd g j (by omega) (by omega) (by omega)), hM.2.2.2.2.2.1.cg (fun k hk => bkS_o (by omega) (by omega)) (fun g c hg => bkS_o (by omega) (by omega)) (fun j hj => rd 30 j (by omega) (by omega) (by omega)) (fun j => rd 45 j (by omega) (by omega) (by omega)) (fun j => rd 46 j (by omega) (by omega) (by omega)), hM.2.2.2.2.2.2.cg rfl (fun j => rd 31 j (by omega) (by omega) (by omega)) (fun j => rd 32 j (by omega) (by omega) (by omega))⟩
  · show upd3 (upd3 s2 30 0 10 (s2 30 0 36)) 30 0 4 (upd3 s2 30 0 10 (s2 30 0 36) 30 0 37) 30 0 4 = nI (S 5 6)
    rw [u3s, u3n _ _ _ _ _ (by omega)]; exact (fs 30 37 (by omega) (by omega)).trans i2
  · exact (rd 30 3 (by omega) (by omega) (by omega)).trans m3
  · exact (rd 30 6 (by omega) (by omega) (by omega)).trans m4
  · show upd3 (upd3 s2 30 0 10 (s2 30 0 36)) 30 0 4 (upd3 s2 30 0 10 (s2 30 0 36) 30 0 37) 34 0 k = nI (S 9 k)
    rw [u3n _ _ _ _ _ (by omega), u3n _ _ _ _ _ (by omega), f2 34 0 k (by omega), h45 k hk]; exact i3 k hk
  · have hc2 : c < S 5 5 := hc2
    obtain ⟨g0, _, _, _⟩ := hM.2.2.1 c (by omega)
    obtain ⟨g1, g2, g3⟩ := i4 c hc2
    have rc : ∀ j, j < 24 → upd3 (upd3 s2 30 0 10 (s2 30 0 36)) 30 0 4 (upd3 s2 30 0 10 (s2 30 0 36) 30 0 37) 36 0 j = τ 46 0 j := fun j hj => by
      rw [u3n _ _ _ _ _ (by omega), u3n _ _ _ _ _ (by omega), h46 j hj]; exact f1 46 0 j (by omega)
    exact ⟨(rd 35 c (by omega) (by omega) (by omega)).trans g0, (rc (3 * c) (by omega)).trans g1, (rc (3 * c + 1) (by omega)).trans g2, (rc (3 * c + 2) (by omega)).trans g3⟩
theorem q_back (hR : Rel σ τ) : CP (X_back σ) (M_back τ) := by
  obtain ⟨S, I, P, hX, hM, hV⟩ := id hR
  by_cases h4 : S 5 4 = 0
  · refine CP_eq (o1' := some (-3, σ)) (o2' := some (-3, τ)) ?_ ?_ (CP_same hR _)
    · unfold X_back
      rw [hX.2.2.2.2.2.1.1 h4, if_pos rfl]
    · unfold M_back
      rw [hM.2.2.2.2.2.1.1 h4, if_pos rfl]
  · obtain ⟨v1, v2, v3, v4⟩ := hV.1
    obtain ⟨w1, w2, w3, w4⟩ := hV.2.2.2.2.2 h4
    refine CP_mk (x_back hX hV h4) (m_back hM hV h4) ⟨⟨?_, w2, v3, v4⟩, w3, w4, hV.2.2.2.1.cg rfl (fun _ => rfl), hV.2.2.2.2.1.cg (fun _ => rfl) (fun _ => rfl), fun _ => ⟨Nat.le_refl _, w2, w3, w4⟩⟩
    show S 5 5 ≤ 8
    omega
end
