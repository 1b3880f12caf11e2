/-! the calls: day -/
section
variable {S : Nat → Nat → Nat} {I : Nat → Nat → Int32} {P : Nat → Txt} {σ τ : Sg}
theorem qd_0 (hX : RX S I P σ) (hM : RM S I P τ) (hV : SV S) {p : Nat} (hp : p < 3) : CP (X_cover (nI p) σ) (M_coverOf (nI p) τ) := by
  obtain ⟨q1, e1, ⟨b, f1, g1⟩, k1⟩ := x_cover hX hV hM.tp hp
  obtain ⟨q2, e2, ⟨c, f2, g2⟩, k2⟩ := m_cover hM hV hp
  have := bqP_u g1 g2
  subst this
  refine ⟨nI b, q1.2, q2.2, ?_, ?_, S, I, P, k1, k2, hV⟩
  · rw [e1, ← f1]
  · rw [e2, ← f2]
theorem qd_1 (hX : RX S I P σ) (hM : RM S I P τ) (hV : SV S) {p : Nat} (hp : p < 3) : CP ((X_cover (nI p) σ).bind fun q2 => Jint_bitCount q2.1 q2.2) ((M_coverOf (nI p) τ).bind fun q4 => M_bitsOf q4.1 q4.2) := by
  obtain ⟨v1, v2, v3, v4⟩ := hV.1
  have h8 : 2 ^ S 5 0 ≤ 2 ^ 8 := Nat.pow_le_pow_right (by omega) v1
  obtain ⟨⟨a1, s1⟩, e1, ⟨b, f1, g1⟩, k1⟩ := x_cover hX hV hM.tp hp
  obtain ⟨⟨a2, s2⟩, e2, ⟨c, f2, g2⟩, k2⟩ := m_cover hM hV hp
  have := bqP_u g1 g2
  subst this
  have f1' : a1 = nI b := f1
  have f2' : a2 = nI b := f2
  have hb : b < 256 := by have := g1.1; omega
  refine ⟨nI (pqN b), s1, s2, ?_, ?_, S, I, P, k1, k2, hV⟩
  · rw [e1, Option.bind_some]
    show Jint_bitCount a1 s1 = _
    rw [f1', s_bitCount hb]
  · rw [e2, Option.bind_some]
    show M_bitsOf a2 s2 = _
    rw [f2', s_bitsOf hb]
end
