/-! what an update leaves as it is -/
def up2 (S : Nat → Nat → Nat) (g i v : Nat) : Nat → Nat → Nat := fun g' i' => if g' = g ∧ i' = i then v else S g' i'
theorem up2s (S : Nat → Nat → Nat) (g i v : Nat) : up2 S g i v g i = v := by simp [up2]
theorem up2n (S : Nat → Nat → Nat) (g i v : Nat) {g' i' : Nat} (h : ¬ (g' = g ∧ i' = i)) : up2 S g i v g' i' = S g' i' := by simp only [up2, if_neg h]
section
variable {S S' : Nat → Nat → Nat} {I : Nat → Nat → Int32} {P : Nat → Txt} {σ σ' τ τ' : Sg}
theorem X1.cg (h : X1 S σ) (a : ∀ k, k < 4 → S' 5 k = S 5 k) (b : ∀ j, σ' 0 0 j = σ 0 0 j) (c : σ' 6 0 4 = σ 6 0 4) : X1 S' σ' := by
  unfold X1
  rw [a 0 (by omega), a 1 (by omega), a 2 (by omega), a 3 (by omega), b, b, b, c]
  exact h
theorem X2.cg (h : X2 S σ) (a : ∀ k, S' 0 k = S 0 k) (b : ∀ j, σ' 23 0 j = σ 23 0 j) : X2 S' σ' := fun k hk => by rw [a, b]; exact h k hk
theorem X3.cg (h : X3 S σ) (a0 : S' 5 0 = S 5 0) (a : ∀ g c, 1 ≤ g → g ≤ 4 → S' g c = S g c) (b : ∀ c j, c < S 5 0 → σ' 1 c j = σ 1 c j) : X3 S' σ' := fun c hc => by
  rw [a0] at hc
  unfold CT
  rw [a 1 c (by omega) (by omega), a 2 c (by omega) (by omega), a 3 c (by omega) (by omega), a 4 c (by omega) (by omega), b c 0 hc, b c 1 hc, b c 2 hc, b c 3 hc]
  exact h c hc
theorem X4.cg (h : X4 S σ) (a0 : S' 5 3 = S 5 3) (a : ∀ k, S' 6 k = S 6 k) (b : ∀ j, σ' 7 0 j = σ 7 0 j) : X4 S' σ' := fun k hk => by
  rw [a0] at hk
  rw [a, b]
  exact h k hk
theorem X5.cg (h : X5 S I σ) (a : ∀ s, S' 7 s = S 7 s) (a2 : ∀ s, S' 8 s = S 8 s) (b : ∀ s j, σ' 12 s j = σ 12 s j) (c : ∀ s j, σ' 13 s j = σ 13 s j) : X5 S' I σ' := fun s hs => by
  rw [a, a2, b, b]
  exact ⟨(h s hs).1, fun q => ⟨((h s hs).2 q).1, fun j hj => by rw [c]; exact ((h s hs).2 q).2 j hj⟩⟩
theorem X6.cg (h : X6 S σ) (a : ∀ k, 4 ≤ k → S' 5 k = S 5 k) (b : ∀ g c, 9 ≤ g → S' g c = S g c) (b1 : S 5 4 ≠ 0 → ∀ c, c < S 5 5 → S' 1 c = S 1 c) (c : ∀ j, σ' 20 0 j = σ 20 0 j) (d : ∀ j, σ' 21 0 j = σ 21 0 j) (e : ∀ c j, σ' 1 (9 + c) j = σ 1 (9 + c) j) : X6 S' σ' := by
  unfold X6
  rw [a 4 (by omega), a 5 (by omega), a 6 (by omega), c, c]
  refine ⟨h.1, fun q => ?_⟩
  obtain ⟨h1, h2, h3, h4⟩ := h.2 q
  refine ⟨h1, h2, fun k hk => by rw [d, b 9 k (by omega)]; exact h3 k hk, fun k hk => ?_⟩
  unfold CT
  rw [b1 q k hk, b 10 k (by omega), b 11 k (by omega), b 12 k (by omega), e, e, e, e]
  exact h4 k hk
theorem TX.cg {Q : Txt} {i : Nat} (h : TX Q i σ) (b : ∀ j, σ' 3 i j = σ 3 i j) (c : ∀ j, σ' 4 i j = σ 4 i j) : TX Q i σ' := by
  obtain ⟨h0, h1, h2, h3, h4⟩ := h
  exact ⟨by rw [c]; exact h0, by rw [c]; exact h1, by rw [c]; exact h2, h3, fun k hk => by rw [b]; exact h4 k hk⟩
theorem X7.cg (h : X7 S P σ) (a : S' 5 2 = S 5 2) (b : ∀ i j, σ' 3 i j = σ 3 i j) (c : ∀ i j, σ' 4 i j = σ 4 i j) : X7 S' P σ' := fun i hi => by
  rw [a] at hi
  exact (h i hi).cg (b i) (c i)
theorem M1.cg (h : M1 S τ) (a : ∀ k, k < 4 → S' 5 k = S 5 k) (b : ∀ j, j ≤ 10 → τ' 30 0 j = τ 30 0 j) : M1 S' τ' := by
  unfold M1
  rw [a 0 (by omega), a 1 (by omega), a 2 (by omega), a 3 (by omega), b 10 (by omega), b 4 (by omega), b 3 (by omega), b 6 (by omega)]
  exact h
theorem M2.cg (h : M2 S τ) (a : ∀ k, S' 0 k = S 0 k) (b : ∀ j, τ' 34 0 j = τ 34 0 j) : M2 S' τ' := fun k hk => by rw [a, b]; exact h k hk
theorem M3.cg (h : M3 S τ) (a0 : S' 5 0 = S 5 0) (a : ∀ g c, 1 ≤ g → g ≤ 4 → S' g c = S g c) (b : ∀ j, τ' 35 0 j = τ 35 0 j) (d : ∀ j, τ' 36 0 j = τ 36 0 j) : M3 S' τ' := fun c hc => by
  rw [a0] at hc
  unfold CM
  rw [a 1 c (by omega) (by omega), a 2 c (by omega) (by omega), a 3 c (by omega) (by omega), a 4 c (by omega) (by omega), b, d, d, d]
  exact h c hc
theorem M4.cg (h : M4 S τ) (a0 : S' 5 3 = S 5 3) (a : ∀ k, S' 6 k = S 6 k) (b : ∀ j, τ' 33 0 j = τ 33 0 j) : M4 S' τ' := fun k hk => by
  rw [a0] at hk
  rw [a, b]
  exact h k hk
theorem M5.cg (h : M5 S I τ) (a : ∀ s, S' 7 s = S 7 s) (a2 : ∀ s, S' 8 s = S 8 s) (b : ∀ g j, 47 ≤ g → τ' g 0 j = τ g 0 j) : M5 S' I τ' := fun s hs => by
  rw [a, a2, b 47 s (by omega), b 48 s (by omega), b 49 s (by omega)]
  exact ⟨(h s hs).1, fun q => ⟨((h s hs).2 q).1, ((h s hs).2 q).2.1, fun j hj => by rw [b 50 _ (by omega)]; exact ((h s hs).2 q).2.2 j hj⟩⟩
theorem M6.cg (h : M6 S τ) (a : ∀ k, 4 ≤ k → S' 5 k = S 5 k) (b : ∀ g c, 9 ≤ g → S' g c = S g c) (c : ∀ j, 36 ≤ j → τ' 30 0 j = τ 30 0 j) (d : ∀ j, τ' 45 0 j = τ 45 0 j) (e : ∀ j, τ' 46 0 j = τ 46 0 j) : M6 S' τ' := by
  unfold M6
  rw [a 4 (by omega), a 5 (by omega), a 6 (by omega), c 36 (by omega), c 37 (by omega)]
  refine ⟨h.1, fun q => ?_⟩
  obtain ⟨h1, h2, h3, h4⟩ := h.2 q
  refine ⟨h1, h2, fun k hk => by rw [d, b 9 k (by omega)]; exact h3 k hk, fun k hk => ?_⟩
  rw [b 10 k (by omega), b 11 k (by omega), b 12 k (by omega), e, e, e]
  exact h4 k hk
theorem MText.cg {Q : Txt} {i : Nat} (h : MText Q i τ) (b : ∀ j, τ' 31 0 j = τ 31 0 j) (c : ∀ j, τ' 32 0 j = τ 32 0 j) : MText Q i τ' := by
  obtain ⟨b0, sz, a, hb, ⟨h1, h2, h3⟩, h4⟩ := h
  exact ⟨b0, sz, a, hb, ⟨h1, by rw [c]; exact h2, fun p hp => by rw [b]; exact h3 p hp⟩, h4⟩
theorem M7.cg (h : M7 S P τ) (a : S' 5 2 = S 5 2) (b : ∀ j, τ' 31 0 j = τ 31 0 j) (c : ∀ j, τ' 32 0 j = τ 32 0 j) : M7 S' P τ' := fun i hi => by
  rw [a] at hi
  exact (h i hi).cg b c
theorem V1.cg (h : V1 S) (a : ∀ k, k < 4 → S' 5 k = S 5 k) : V1 S' := by
  unfold V1
  rw [a 0 (by omega), a 1 (by omega), a 2 (by omega), a 3 (by omega)]
  exact h
theorem V2.cg (h : V2 S) (a : ∀ k, S' 0 k = S 0 k) : V2 S' := fun k hk => by rw [a]; exact h k hk
theorem V3.cg (h : V3 S) (a0 : S' 5 0 = S 5 0) (a : ∀ g c, 1 ≤ g → g ≤ 4 → S' g c = S g c) : V3 S' := fun c hc => by
  rw [a0] at hc
  rw [a 1 c (by omega) (by omega), a 2 c (by omega) (by omega), a 3 c (by omega) (by omega), a 4 c (by omega) (by omega)]
  exact h c hc
theorem V4.cg (h : V4 S) (a0 : S' 5 3 = S 5 3) (a : ∀ k, S' 6 k = S 6 k) : V4 S' := fun k hk => by
  rw [a0] at hk
  rw [a]
  exact h k hk
theorem V5.cg (h : V5 S) (a : ∀ s, S' 7 s = S 7 s) (a2 : ∀ s, S' 8 s = S 8 s) : V5 S' := fun s hs => by rw [a, a2]; exact h s hs
theorem V6.cg (h : V6 S) (a : ∀ k, S' 5 k = S 5 k) (b : ∀ g c, 9 ≤ g → S' g c = S g c) (b1 : S 5 4 ≠ 0 → ∀ c, c < S 5 5 → S' 1 c = S 1 c) : V6 S' := fun q => by
  rw [a] at q
  obtain ⟨h1, h2, h3, h4⟩ := h q
  rw [a, a, a, a]
  refine ⟨h1, h2, fun k hk => by rw [b 9 k (by omega)]; exact h3 k hk, fun k hk => ?_⟩
  rw [b1 q k hk, b 10 k (by omega), b 11 k (by omega), b 12 k (by omega)]
  exact h4 k hk
/-- a mood is given, on both sides -/
theorem RX.mood (h : RX S I P σ) {k v : Nat} : RX (up2 S 0 k v) I P (upd3 σ 23 0 k (nI v)) := by
  refine ⟨h.1.cg (fun _ _ => rfl) (fun _ => rfl) rfl, fun j hj => ?_, h.2.2.1.cg rfl (fun g c h1 h2 => up2n _ _ _ _ (by omega)) (fun c j _ => rfl), h.2.2.2.1.cg rfl (fun _ => rfl) (fun _ => rfl), h.2.2.2.2.1.cg (fun _ => rfl) (fun _ => rfl) (fun _ _ => rfl) (fun _ _ => rfl), h.2.2.2.2.2.1.cg (fun _ _ => rfl) (fun g c h1 => up2n _ _ _ _ (by omega)) (fun _ _ _ => rfl) (fun _ => rfl) (fun _ => rfl) (fun _ _ => rfl), h.2.2.2.2.2.2.cg rfl (fun _ _ => rfl) (fun _ _ => rfl)⟩
  by_cases e : j = k
  · subst e; rw [u3s, up2s]
  · rw [u3n _ _ _ _ _ (by omega), up2n _ _ _ _ (by omega)]; exact h.2.1 j hj
theorem RM.mood (h : RM S I P τ) {k v : Nat} : RM (up2 S 0 k v) I P (upd3 τ 34 0 k (nI v)) := by
  refine ⟨h.1.cg (fun _ _ => rfl) (fun _ _ => rfl), fun j hj => ?_, h.2.2.1.cg rfl (fun g c h1 h2 => up2n _ _ _ _ (by omega)) (fun _ => rfl) (fun _ => rfl), h.2.2.2.1.cg rfl (fun _ => rfl) (fun _ => rfl), h.2.2.2.2.1.cg (fun _ => rfl) (fun _ => rfl) (fun g j h1 => u3n _ _ _ _ _ (by omega)), h.2.2.2.2.2.1.cg (fun _ _ => rfl) (fun g c h1 => up2n _ _ _ _ (by omega)) (fun _ _ => rfl) (fun _ => rfl) (fun _ => rfl), h.2.2.2.2.2.2.cg rfl (fun _ => rfl) (fun _ => rfl)⟩
  by_cases e : j = k
  · subst e; rw [u3s, up2s]
  · rw [u3n _ _ _ _ _ (by omega), up2n _ _ _ _ (by omega)]; exact h.2.1 j hj
theorem SV.mood (h : SV S) {k v : Nat} (hv : v < 100) : SV (up2 S 0 k v) := by
  refine ⟨h.1.cg (fun _ _ => rfl), fun j hj => ?_, h.2.2.1.cg rfl (fun g c h1 h2 => up2n _ _ _ _ (by omega)), h.2.2.2.1.cg rfl (fun _ => rfl), h.2.2.2.2.1.cg (fun _ => rfl) (fun _ => rfl), h.2.2.2.2.2.cg (fun _ => rfl) (fun g c h1 => up2n _ _ _ _ (by omega)) (fun _ _ _ => rfl)⟩
  by_cases e : j = k
  · subst e; rw [up2s]; exact hv
  · rw [up2n _ _ _ _ (by omega)]; exact h.2.1 j hj
/-- a coat's number, cut or worn (g 2, 3, 4) is given -/
theorem RX.trait (h : RX S I P σ) (hV : SV S) {g c v : Nat} (hg : 2 ≤ g) (hg2 : g ≤ 4) (hc : c < S 5 0) : RX (up2 S g c v) I P (upd3 σ 1 c (g - 1) (nI v)) := by
  have v8 := hV.1.1
  refine ⟨h.1.cg (fun _ _ => up2n _ _ _ _ (by omega)) (fun _ => rfl) rfl, h.2.1.cg (fun _ => up2n _ _ _ _ (by omega)) (fun _ => rfl), fun j hj => ?_, h.2.2.2.1.cg (up2n _ _ _ _ (by omega)) (fun _ => up2n _ _ _ _ (by omega)) (fun _ => rfl), h.2.2.2.2.1.cg (fun _ => up2n _ _ _ _ (by omega)) (fun _ => up2n _ _ _ _ (by omega)) (fun _ _ => rfl) (fun _ _ => rfl), h.2.2.2.2.2.1.cg (fun _ _ => up2n _ _ _ _ (by omega)) (fun g c h1 => up2n _ _ _ _ (by omega)) (fun _ _ _ => up2n _ _ _ _ (by omega)) (fun _ => rfl) (fun _ => rfl) (fun _ _ => u3n _ _ _ _ _ (by omega)), h.2.2.2.2.2.2.cg (up2n _ _ _ _ (by omega)) (fun _ _ => rfl) (fun _ _ => rfl)⟩
  rw [up2n _ _ _ _ (by omega)] at hj
  obtain ⟨c0, c1, c2, c3⟩ := h.2.2.1 j hj
  have hg3 : g = 2 ∨ g = 3 ∨ g = 4 := by omega
  refine ⟨?_, ?_, ?_, ?_⟩
  · rw [up2n _ _ _ _ (by omega), u3n _ _ _ _ _ (by omega)]; exact c0
  · by_cases e : g = 2 ∧ j = c
    · obtain ⟨e1, e2⟩ := e; subst e1; subst e2; rw [up2s]; exact u3s _ _ _ _ _
    · rw [up2n _ _ _ _ (by omega), u3n _ _ _ _ _ (by omega)]; exact c1
  · by_cases e : g = 3 ∧ j = c
    · obtain ⟨e1, e2⟩ := e; subst e1; subst e2; rw [up2s]; exact u3s _ _ _ _ _
    · rw [up2n _ _ _ _ (by omega), u3n _ _ _ _ _ (by omega)]; exact c2
  · by_cases e : g = 4 ∧ j = c
    · obtain ⟨e1, e2⟩ := e; subst e1; subst e2; rw [up2s]; exact u3s _ _ _ _ _
    · rw [up2n _ _ _ _ (by omega), u3n _ _ _ _ _ (by omega)]; exact c3
theorem RM.trait (h : RM S I P τ) {g c v : Nat} (hg : 2 ≤ g) (hg2 : g ≤ 4) (hc : c < S 5 0) : RM (up2 S g c v) I P (upd3 τ 36 0 (3 * c + (g - 2)) (nI v)) := by
  refine ⟨h.1.cg (fun _ _ => up2n _ _ _ _ (by omega)) (fun _ _ => rfl), h.2.1.cg (fun _ => up2n _ _ _ _ (by omega)) (fun _ => rfl), fun j hj => ?_, h.2.2.2.1.cg (up2n _ _ _ _ (by omega)) (fun _ => up2n _ _ _ _ (by omega)) (fun _ => rfl), h.2.2.2.2.1.cg (fun _ => up2n _ _ _ _ (by omega)) (fun _ => up2n _ _ _ _ (by omega)) (fun g j h1 => u3n _ _ _ _ _ (by omega)), h.2.2.2.2.2.1.cg (fun _ _ => up2n _ _ _ _ (by omega)) (fun g c h1 => up2n _ _ _ _ (by omega)) (fun _ _ => rfl) (fun _ => rfl) (fun _ => rfl), h.2.2.2.2.2.2.cg (up2n _ _ _ _ (by omega)) (fun _ => rfl) (fun _ => rfl)⟩
  rw [up2n _ _ _ _ (by omega)] at hj
  obtain ⟨c0, c1, c2, c3⟩ := h.2.2.1 j hj
  refine ⟨?_, ?_, ?_, ?_⟩
  · rw [up2n _ _ _ _ (by omega), u3n _ _ _ _ _ (by omega)]; exact c0
  · by_cases e : g = 2 ∧ j = c
    · obtain ⟨e1, e2⟩ := e; subst e1; subst e2; rw [up2s]; exact u3s _ _ _ _ _
    · rw [up2n _ _ _ _ (by omega), u3n _ _ _ _ _ (by omega)]; exact c1
  · by_cases e : g = 3 ∧ j = c
    · obtain ⟨e1, e2⟩ := e; subst e1; subst e2; rw [up2s]; exact u3s _ _ _ _ _
    · rw [up2n _ _ _ _ (by omega), u3n _ _ _ _ _ (by omega)]; exact c2
  · by_cases e : g = 4 ∧ j = c
    · obtain ⟨e1, e2⟩ := e; subst e1; subst e2; rw [up2s]; exact u3s _ _ _ _ _
    · rw [up2n _ _ _ _ (by omega), u3n _ _ _ _ _ (by omega)]; exact c3
/-- the most that a trait may be: number, cut, worn -/
def mostN (g : Nat) : Nat := if g = 2 then 9 else if g = 3 then 99 else 999
theorem SV.trait (h : SV S) {g c v : Nat} (hg : 2 ≤ g) (hg2 : g ≤ 4) (hv : v ≤ mostN g) : SV (up2 S g c v) := by
  refine ⟨h.1.cg (fun _ _ => up2n _ _ _ _ (by omega)), h.2.1.cg (fun _ => up2n _ _ _ _ (by omega)), fun j hj => ?_, h.2.2.2.1.cg (up2n _ _ _ _ (by omega)) (fun _ => up2n _ _ _ _ (by omega)), h.2.2.2.2.1.cg (fun _ => up2n _ _ _ _ (by omega)) (fun _ => up2n _ _ _ _ (by omega)), h.2.2.2.2.2.cg (fun _ => up2n _ _ _ _ (by omega)) (fun g c h1 => up2n _ _ _ _ (by omega)) (fun _ _ _ => up2n _ _ _ _ (by omega))⟩
  rw [up2n _ _ _ _ (by omega)] at hj
  obtain ⟨c0, c1, c2, c3⟩ := h.2.2.1 j hj
  refine ⟨?_, ?_, ?_, ?_⟩
  · rw [up2n _ _ _ _ (by omega)]; exact c0
  · by_cases e : g = 2 ∧ j = c
    · obtain ⟨e1, e2⟩ := e; subst e1; subst e2; rw [up2s]; unfold mostN at hv; rw [if_pos rfl] at hv; omega
    · rw [up2n _ _ _ _ (by omega)]; exact c1
  · by_cases e : g = 3 ∧ j = c
    · obtain ⟨e1, e2⟩ := e; subst e1; subst e2; rw [up2s]; unfold mostN at hv; rw [if_neg (by omega), if_pos rfl] at hv; omega
    · rw [up2n _ _ _ _ (by omega)]; exact c2
  · by_cases e : g = 4 ∧ j = c
    · obtain ⟨e1, e2⟩ := e; subst e1; subst e2; rw [up2s]; unfold mostN at hv; rw [if_neg (by omega), if_neg (by omega)] at hv; omega
    · rw [up2n _ _ _ _ (by omega)]; exact c3
/-- THE RULE -/
theorem RX.rule (h : RX S I P σ) {v : Nat} : RX (up2 S 5 1 v) I P (upd3 σ 0 0 6 (nI v)) := by
  obtain ⟨a1, a2, a3, a4⟩ := h.1
  refine ⟨⟨?_, ?_, ?_, ?_⟩, h.2.1.cg (fun _ => rfl) (fun _ => rfl), h.2.2.1.cg rfl (fun g c h1 h2 => up2n _ _ _ _ (by omega)) (fun c j _ => rfl), h.2.2.2.1.cg rfl (fun _ => rfl) (fun _ => rfl), h.2.2.2.2.1.cg (fun _ => rfl) (fun _ => rfl) (fun _ _ => rfl) (fun _ _ => rfl), h.2.2.2.2.2.1.cg (fun _ _ => up2n _ _ _ _ (by omega)) (fun g c h1 => up2n _ _ _ _ (by omega)) (fun _ _ _ => rfl) (fun _ => rfl) (fun _ => rfl) (fun _ _ => rfl), h.2.2.2.2.2.2.cg rfl (fun _ _ => rfl) (fun _ _ => rfl)⟩
  · exact a1
  · rw [u3s, up2s]
  · exact a3
  · exact a4
theorem RM.rule (h : RM S I P τ) {v : Nat} : RM (up2 S 5 1 v) I P (upd3 τ 30 0 4 (nI v)) := by
  obtain ⟨a1, a2, a3, a4⟩ := h.1
  refine ⟨⟨?_, ?_, ?_, ?_⟩, h.2.1.cg (fun _ => rfl) (fun _ => rfl), h.2.2.1.cg rfl (fun g c h1 h2 => up2n _ _ _ _ (by omega)) (fun _ => rfl) (fun _ => rfl), h.2.2.2.1.cg rfl (fun _ => rfl) (fun _ => rfl), h.2.2.2.2.1.cg (fun _ => rfl) (fun _ => rfl) (fun g j h1 => u3n _ _ _ _ _ (by omega)), h.2.2.2.2.2.1.cg (fun _ _ => up2n _ _ _ _ (by omega)) (fun g c h1 => up2n _ _ _ _ (by omega)) (fun j hj => u3n _ _ _ _ _ (by omega)) (fun _ => rfl) (fun _ => rfl), h.2.2.2.2.2.2.cg rfl (fun _ => rfl) (fun _ => rfl)⟩
  · exact a1
  · rw [u3s, up2s]
  · exact a3
  · exact a4
theorem SV.rule (h : SV S) {v : Nat} (hv : v < S 5 2) : SV (up2 S 5 1 v) := by
  obtain ⟨a1, a2, a3, a4⟩ := h.1
  refine ⟨⟨a1, ?_, a3, a4⟩, h.2.1.cg (fun _ => rfl), h.2.2.1.cg rfl (fun g c h1 h2 => up2n _ _ _ _ (by omega)), h.2.2.2.1.cg rfl (fun _ => rfl), h.2.2.2.2.1.cg (fun _ => rfl) (fun _ => rfl), fun q => ?_⟩
  · rw [up2s]; exact hv
  · exact h.2.2.2.2.2 q
end
