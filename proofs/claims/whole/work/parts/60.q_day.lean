/-! the calls: day, whole -/
section
variable {S : Nat → Nat → Nat} {I : Nat → Nat → Int32} {P : Nat → Txt} {σ τ : Sg}
theorem qd_J (hX : RX S I P σ) (hM : RM S I P τ) (hV : SV S) {p k : Nat} (hp : p < 3) (hk : k < 5) : CP (X_day_J47 (nI p) (nI k) σ) (M_day_J36 (nI p) (nI k) τ) := by
  have hq : k = 0 ∨ k = 1 ∨ k = 2 ∨ k = 3 ∨ k = 4 := by omega
  unfold X_day_J47 M_day_J36
  rcases hq with rfl | rfl | rfl | rfl | rfl
  · refine CP_eq ((if_pos rfl).trans (eta2 _)) ((if_pos (by decide)).trans ((if_pos rfl).trans (eta2 _))) (qd_0 hX hM hV hp)
  · refine CP_eq (o1' := (X_cover (nI p) σ).bind fun q2 => Jint_bitCount q2.1 q2.2) (o2' := (M_coverOf (nI p) τ).bind fun q4 => M_bitsOf q4.1 q4.2) ?_ ?_ (qd_1 hX hM hV hp)
    · rw [if_neg (by decide), if_pos (by decide)]
      simp only [eta2]
    · rw [if_pos (by decide), if_neg (by decide), if_pos (by decide)]
      simp only [eta2]
  · refine CP_eq (o1' := X_bare (nI p) σ) (o2' := M_bareOf (nI p) τ) ?_ ?_ (CP_mk (x_bare hX hV hM.tp hp) (m_bare hM hV hp) hV)
    · rw [if_neg (by decide), if_neg (by decide), if_pos (by decide), eta2]
    · rw [if_pos (by decide), if_neg (by decide), if_neg (by decide), if_pos (by decide), eta2]
  · refine CP_eq (o1' := X_changes (nI p) σ) (o2' := M_changesOf (nI p) τ) ?_ ?_ (CP_mk (x_changes hX hV hM.tp hp) (m_changes hM hV hp) hV)
    · rw [if_neg (by decide), if_neg (by decide), if_neg (by decide), if_pos (by decide), eta2]
    · rw [if_pos (by decide), if_neg (by decide), if_neg (by decide), if_neg (by decide), eta2]
  · refine CP_eq (o1' := X_cheapCost (nI p) σ) (o2' := M_cheapOf (nI p) τ) ?_ ?_ (CP_mk (wp_mono (x_cheapCost hX hV hM.tp hp) fun _ h => ⟨h.1, h.2.1⟩) (wp_mono (m_cheapEx hM hV hp) fun _ h => ⟨h.1, h.2.1⟩) hV)
    · rw [if_neg (by decide), if_neg (by decide), if_neg (by decide), if_neg (by decide), if_pos (by decide), eta2]
    · rw [if_neg (by decide)]
      simp only [if_pos (show nI 4 = (4 : Int32) from rfl), eta2]
end
