/-! the calls: the reference's changes, the sums -/
section
theorem bit_ex {x n : Nat} (h : x < 2 ^ n) (h0 : ¬ x = 0) : ∃ c, c < n ∧ x.testBit c = true := by
  obtain ⟨i, hi⟩ := Nat.exists_testBit_of_ne_zero h0
  refine ⟨i, ?_, hi⟩
  rcases Nat.lt_or_ge i n with q | q
  · exact q
  · have : x < 2 ^ i := Nat.lt_of_lt_of_le h (Nat.pow_le_pow_right (by omega) q)
    rw [Nat.testBit_lt_two_pow this] at hi
    exact absurd hi (by decide)
/-- d holds the changes that each coat needs -/
def DvP (n : Nat) (g : Nat × Nat) (d : Nat → Nat) : Prop := (∃ c, c < n ∧ g.2.testBit c = true) ∧ ∀ c, c < n → (g.2.testBit c = true → d c = g.1) ∧ (g.2.testBit c = false → g.1 + 1 ≤ d c ∧ d c ≤ 1000000)
def beN (g : Nat × Nat) (c : Nat) : Nat := if g.2.testBit c = true then g.1 else g.1 + 1
def nxN (x : Nat) (g : Nat × Nat) (c : Nat) : Nat := if x = 0 then beN g c else if x.testBit c = true then beN g c else 1000000
theorem DvP_st {r : Nat → Nat} {w n h : Nat} {d : Nat → Nat} (hd : DvP n (gsN r w h) d) (hr : r h < 2 ^ n) (hm : (gsN r w h).1 < 1000) : DvP n (gsN r w (h + 1)) (nxN (r h) (gsN r w h)) := by
  rw [gsN]
  generalize gsN r w h = g at hd hm ⊢
  obtain ⟨m, L⟩ := g
  have hm' : m < 1000 := hm
  obtain ⟨⟨c0, k1, k2⟩, d2⟩ := hd
  have k3 : L.testBit c0 = true := k2
  by_cases c : r h = 0
  · rw [if_pos c]
    refine ⟨⟨c0, k1, k2⟩, fun a ha => ⟨fun q => ?_, fun q => ?_⟩⟩
    · have q' : L.testBit a = true := q
      show nxN (r h) (m, L) a = m
      unfold nxN beN
      rw [if_pos c, if_pos q]
    · have q' : L.testBit a = false := q
      show m + 1 ≤ nxN (r h) (m, L) a ∧ nxN (r h) (m, L) a ≤ 1000000
      unfold nxN beN
      rw [if_pos c, if_neg (show ¬ L.testBit a = true by rw [q']; decide)]
      show m + 1 ≤ m + 1 ∧ m + 1 ≤ 1000000
      omega
  · rw [if_neg c]
    by_cases e : (L &&& r h) = 0
    · rw [if_pos (show ((m, L).2 &&& r h) = 0 from e)]
      refine ⟨bit_ex hr c, fun a ha => ⟨fun q => ?_, fun q => ?_⟩⟩
      · have q' : (r h).testBit a = true := q
        show nxN (r h) (m, L) a = m + 1
        have hL : L.testBit a = false := by
          have := Nat.testBit_and L (r h) a
          rw [e, Nat.zero_testBit, q', Bool.and_true] at this
          exact this.symm
        unfold nxN beN
        rw [if_neg c, if_pos q', if_neg (show ¬ L.testBit a = true by rw [hL]; decide)]
      · have q' : (r h).testBit a = false := q
        show m + 1 + 1 ≤ nxN (r h) (m, L) a ∧ nxN (r h) (m, L) a ≤ 1000000
        unfold nxN
        rw [if_neg c, if_neg (show ¬ (r h).testBit a = true by rw [q']; decide)]
        omega
    · rw [if_neg (show ¬ ((m, L).2 &&& r h) = 0 from e)]
      refine ⟨bit_ex (Nat.lt_of_le_of_lt Nat.and_le_right hr) e, fun a ha => ⟨fun q => ?_, fun q => ?_⟩⟩
      · have q' : (L &&& r h).testBit a = true := q
        rw [Nat.testBit_and, Bool.and_eq_true] at q'
        show nxN (r h) (m, L) a = m
        unfold nxN beN
        rw [if_neg c, if_pos q'.2, if_pos q'.1]
      · have q' : (L &&& r h).testBit a = false := q
        show m + 1 ≤ nxN (r h) (m, L) a ∧ nxN (r h) (m, L) a ≤ 1000000
        unfold nxN
        rw [if_neg c]
        by_cases b : (r h).testBit a = true
        · rw [Nat.testBit_and, b, Bool.and_true] at q'
          unfold beN
          rw [if_pos b, if_neg (show ¬ L.testBit a = true by rw [q']; decide)]
          show m + 1 ≤ m + 1 ∧ m + 1 ≤ 1000000
          omega
        · rw [if_neg b]
          omega
/-- what the least over all coats comes to -/
theorem DvP_be {n : Nat} {g : Nat × Nat} {d : Nat → Nat} (hd : DvP n g d) {c x : Nat} (hc : c < n) (h1 : x ≤ d c) (h2 : ∀ k, k < n → x ≤ d k + 1) (h3 : x = d c ∨ ∃ k, k < n ∧ x = d k + 1) : x = beN g c := by
  obtain ⟨⟨c0, k1, k2⟩, d2⟩ := hd
  have e0 := (d2 c0 k1).1 k2
  have h20 := h2 c0 k1
  have lo : ∀ k, k < n → g.1 ≤ d k := fun k hk => by
    cases q : g.2.testBit k with
    | true => have := (d2 k hk).1 q; omega
    | false => have := ((d2 k hk).2 q).1; omega
  unfold beN
  cases q : g.2.testBit c with
  | true =>
    rw [if_pos rfl]
    have e1 := (d2 c hc).1 q
    rcases h3 with h3 | ⟨k, hk, h3⟩
    · omega
    · have := lo k hk
      omega
  | false =>
    rw [if_neg (by decide)]
    have e1 := ((d2 c hc).2 q).1
    rcases h3 with h3 | ⟨k, hk, h3⟩
    · omega
    · have := lo k hk
      omega
theorem DvP_le {n : Nat} {g : Nat × Nat} {d : Nat → Nat} (hd : DvP n g d) (hm : g.1 < 1000) {c : Nat} (hc : c < n) : d c ≤ 1000000 := by
  cases q : g.2.testBit c with
  | true => have := (hd.2 c hc).1 q; omega
  | false => exact ((hd.2 c hc).2 q).2
end
