/-! the calls: day's changes -/
section
variable {S : Nat → Nat → Nat} {I : Nat → Nat → Int32} {P : Nat → Txt} {σ τ : Sg}
/-- changes so far, and the coats that may still be worn -/
def gsN (r : Nat → Nat) (w : Nat) : Nat → Nat × Nat
  | 0 => (0, w)
  | h + 1 => if r h = 0 then gsN r w h else if ((gsN r w h).2 &&& r h) = 0 then ((gsN r w h).1 + 1, r h) else ((gsN r w h).1, (gsN r w h).2 &&& r h)
theorem gsN_lt {r : Nat → Nat} {w M : Nat} (hw : w < M) (hr : ∀ h, r h < M) : ∀ h, (gsN r w h).1 ≤ h ∧ (gsN r w h).2 < M := by
  intro h
  induction h with
  | zero => exact ⟨Nat.le_refl _, hw⟩
  | succ h ih =>
    rw [gsN]
    by_cases c : r h = 0
    · rw [if_pos c]
      exact ⟨by omega, ih.2⟩
    · rw [if_neg c]
      by_cases d : ((gsN r w h).2 &&& r h) = 0
      · rw [if_pos d]
        exact ⟨by show (gsN r w h).1 + 1 ≤ h + 1; omega, hr h⟩
      · rw [if_neg d]
        exact ⟨by show (gsN r w h).1 ≤ h + 1; omega, Nat.lt_of_le_of_lt Nat.and_le_left ih.2⟩
theorem x_changes (hX : RX S I P σ) (hV : SV S) (hP : ∀ i, i < S 5 2 → TP (P i)) {p : Nat} (hp : p < 3) : wp (X_changes (nI p) σ) (fun q => q.1 = nI (gsN (rigS S P p) (2 ^ S 5 0 - 1) 24).1 ∧ RX S I P q.2) := by
  obtain ⟨v1, v2, v3, v4⟩ := hV.1
  have h8 : 2 ^ S 5 0 ≤ 2 ^ 8 := Nat.pow_le_pow_right (by omega) v1
  have hp2 : 0 < 2 ^ S 5 0 := Nat.two_pow_pos _
  have hg := gsN_lt (r := rigS S P p) (w := 2 ^ S 5 0 - 1) (M := 256) (by omega) (fun h => rigS_lt hV p h)
  unfold X_changes
  rw [hX.1.1, one_shl _ (by omega), show nI (2 ^ S 5 0) - 1 = nI (2 ^ S 5 0 - 1) from na_sub (a := 2 ^ S 5 0) (b := 1) (by omega)]
  refine loopW (fun N (y : Sg) i => X_changes_L14 N (nI p) (nI (gsN (rigS S P p) (2 ^ S 5 0 - 1) i).1) (nI (gsN (rigS S P p) (2 ^ S 5 0 - 1) i).2) (nI i) y) (fun i y => RX S I P y) 24 _ ?_ ?_ 0 σ FU (Nat.zero_le _) hX (FU_big (by omega))
  · rintro N i y hi y1 kk
    have kk : ∀ s', RX S I P s' → wp (X_changes_L14 N (nI p) (nI (gsN (rigS S P p) (2 ^ S 5 0 - 1) (i + 1)).1) (nI (gsN (rigS S P p) (2 ^ S 5 0 - 1) (i + 1)).2) (nI (i + 1)) s') _ := fun s' a => kk s' a
    show wp (X_changes_L14 (N + 1) (nI p) (nI (gsN (rigS S P p) (2 ^ S 5 0 - 1) i).1) (nI (gsN (rigS S P p) (2 ^ S 5 0 - 1) i).2) (nI i) y) _
    rw [X_changes_L14, if_pos (show nI i < 24 from nI_lt (b := 24) hi (by decide))]
    refine wp_bind (x_right y1 hV hP hp hi) ?_
    rintro ⟨r, y'⟩ ⟨r1, r2⟩
    have r1 : r = nI (rigS S P p i) := r1
    subst r1
    have fin := kk y' (y1.fr hV (r2.mo fun g a j q => q.nx))
    have hr := rigS_lt (P := P) hV p i
    obtain ⟨g1, g2⟩ := hg i
    have g3 := and_l8 (b := rigS S P p i) g2
    rw [gsN] at fin
    rw [show nI i + 1 = nI (i + 1) from (nI_succ i).symm]
    dsimp only
    by_cases c : rigS S P p i = 0
    · rw [if_pos c] at fin
      rw [if_pos (by rw [c]; rfl)]
      exact fin
    · rw [if_neg c] at fin
      rw [if_neg (na_0 (by omega) c), na_and]
      by_cases d : ((gsN (rigS S P p) (2 ^ S 5 0 - 1) i).2 &&& rigS S P p i) = 0
      · rw [if_pos d] at fin
        rw [if_pos (by rw [d]; rfl), show nI (gsN (rigS S P p) (2 ^ S 5 0 - 1) i).1 + 1 = nI ((gsN (rigS S P p) (2 ^ S 5 0 - 1) i).1 + 1) from (nI_succ _).symm]
        exact fin
      · rw [if_neg d] at fin
        rw [if_neg (na_0 (by omega) d)]
        exact fin
  · rintro N y y1
    show wp (X_changes_L14 (N + 1) (nI p) (nI (gsN (rigS S P p) (2 ^ S 5 0 - 1) 24).1) (nI (gsN (rigS S P p) (2 ^ S 5 0 - 1) 24).2) (nI 24) y) _
    rw [X_changes_L14, if_neg (by decide)]
    exact wp_some ⟨rfl, y1⟩
end
