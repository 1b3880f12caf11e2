/-! the reference's state at a token, and what it asks of it -/
/-- token a is at hand, o are open, nothing is bad -/
def J (b : Nat → Int32) (sz t a o : Nat) (σ : Sg) : Prop := MB b sz t σ ∧ σ 30 0 24 = 0 ∧ σ 30 0 23 = nI o ∧ σ 30 0 21 = nI (ps b a) ∧ KT b a σ
/-- it is bad, the fault being at token a -/
def BD (b : Nat → Int32) (a : Nat) (σ : Sg) : Prop := σ 30 0 24 = 1 ∧ σ 30 0 25 = nI (ps b a)
def EM (e : Nat → Int32) (σ : Sg) : Prop := ∀ k, k < 6 → σ 30 0 (11 + k) = e k
theorem EM.fr {e : Nat → Int32} {σ σ' : Sg} (h : EM e σ) (f : Fr SM σ σ') : EM e σ' := fun k hk => by rw [f _ _ _ (by unfold SM; omega)]; exact h k hk
theorem MB.nx {b : Nat → Int32} {sz t : Nat} {σ : Sg} (h : MB b sz t σ) (x : Int32) : MB b sz t (upd3 σ 30 0 23 x) := h.fr (Fr.rf.up (by unfold SM; omega))
theorem BD.n0 {b : Nat → Int32} {a : Nat} {σ : Sg} (h : BD b a σ) : ¬ σ 30 0 24 = 0 := by rw [h.1]; decide
theorem bad_isSign {b : Nat → Int32} {a : Nat} {σ : Sg} (h : BD b a σ) (s : Int32) : M_isSign s σ = some (0, σ) := by
  unfold M_isSign
  rw [if_neg h.n0]
theorem bad_isWord {b : Nat → Int32} {a : Nat} {σ : Sg} (h : BD b a σ) (p1 p2 p3 p4 p5 p6 p7 p8 : Int32) : M_isWord p1 p2 p3 p4 p5 p6 p7 p8 σ = some (0, σ) := by
  unfold M_isWord
  rw [if_neg h.n0]
theorem bad_fail {b : Nat → Int32} {a : Nat} {σ : Sg} (h : BD b a σ) : M_fail σ = some σ := by
  unfold M_fail
  rw [if_neg h.n0]
theorem s_Mfail {b : Nat → Int32} {sz t a o : Nat} {σ : Sg} (h : J b sz t a o σ) : ∃ σ', M_fail σ = some σ' ∧ BD b a σ' ∧ Fr SM σ σ' := by
  unfold M_fail
  rw [if_pos h.2.1]
  refine ⟨_, rfl, ⟨?_, ?_⟩, (Fr.rf.up (by unfold SM; omega)).up (by unfold SM; omega)⟩
  · rw [u3n _ _ _ _ _ (by omega), u3s]
  · rw [u3s, u3n _ _ _ _ _ (by omega)]; exact h.2.2.2.1
theorem tok_cases (b : Nat → Int32) (a : Nat) : (b (ps b a) < 0 ∧ tk b a = 0) ∨ (¬ b (ps b a) < 0 ∧ letB (b (ps b a)) = true ∧ tk b a = wcode b (ps b a) (ru letB b 160 (ps b a)) ∧ nxt b (ps b a) = ru letB b 160 (ps b a)) ∨ (¬ b (ps b a) < 0 ∧ letB (b (ps b a)) = false ∧ digB (b (ps b a)) = true ∧ tk b a = (if 4 < ru digB b 160 (ps b a) - ps b a then 1 else 2)) ∨ (¬ b (ps b a) < 0 ∧ letB (b (ps b a)) = false ∧ digB (b (ps b a)) = false ∧ signB (b (ps b a)) = true ∧ tk b a = b (ps b a)) ∨ (¬ b (ps b a) < 0 ∧ letB (b (ps b a)) = false ∧ digB (b (ps b a)) = false ∧ signB (b (ps b a)) = false ∧ tk b a = 1) := by
  unfold tk tok nxt
  by_cases h0 : b (ps b a) < 0
  · exact Or.inl ⟨h0, if_pos h0⟩
  · refine Or.inr ?_
    simp only [if_neg h0]
    cases h1 : letB (b (ps b a)) with
    | true => exact Or.inl ⟨h0, rfl, by simp, by simp⟩
    | false =>
      refine Or.inr ?_
      cases h2 : digB (b (ps b a)) with
      | true => exact Or.inl ⟨h0, rfl, rfl, by simp⟩
      | false =>
        refine Or.inr ?_
        cases h3 : signB (b (ps b a)) with
        | true => exact Or.inl ⟨h0, rfl, rfl, rfl, by simp⟩
        | false => exact Or.inr ⟨h0, rfl, rfl, rfl, by simp⟩
theorem eq64 (x y : Int32) : (x.toInt64 = y.toInt64) = (x = y) := propext ⟨fun h => by
  have := congrArg Int64.toInt32 h
  rwa [lg_l2i_i2l, lg_l2i_i2l] at this, fun h => by rw [h]⟩
/-- whether a sign is at hand -/
theorem s_MisSign {b : Nat → Int32} {sz t a o : Nat} {σ : Sg} (h : J b sz t a o σ) {s : Int32} (hs : signB s = true) : M_isSign s σ = some (if tk b a = s then 1 else 0, σ) := by
  obtain ⟨hM, h24, h23, h21, hK⟩ := h
  have n0 : (0 : Int32) ≠ s := fun e => by rw [← e] at hs; revert hs; decide
  have n1 : (1 : Int32) ≠ s := fun e => by rw [← e] at hs; revert hs; decide
  have n2 : (2 : Int32) ≠ s := fun e => by rw [← e] at hs; revert hs; decide
  have ncd : ∀ k, k < 12 → signB (cd k) = false := by decide
  unfold M_isSign
  rw [if_pos h24]
  unfold KT at hK
  rcases tok_cases b a with ⟨c0, ct⟩ | ⟨c0, c1, ct, _⟩ | ⟨c0, c1, c2, ct⟩ | ⟨c0, c1, c2, c3, ct⟩ | ⟨c0, c1, c2, c3, ct⟩
  · rw [if_pos c0] at hK
    rw [hK, ct, if_neg (by decide), if_neg n0]
  · rw [if_neg c0, if_pos c1] at hK
    rw [hK.1, if_neg (by decide), if_neg]
    rw [ct]
    rcases wcode_or b (ps b a) (ru letB b 160 (ps b a)) with e | ⟨k, hk, e⟩
    · rw [e]; exact n1
    · rw [e]; intro e2; rw [← e2, ncd k hk] at hs; cases hs
  · rw [if_neg c0, if_neg (by rw [c1]; decide), if_pos c2] at hK
    rw [hK.1, ct]
    split
    · rw [if_neg (by decide)]
    · rw [if_neg (by decide)]
  · rw [if_neg c0, if_neg (by rw [c1]; decide), if_neg (by rw [c2]; decide), if_pos c3] at hK
    rw [hK.1, if_pos rfl, hK.2.2, ct]
    simp only [lg_cmp_eq, eq64]
    by_cases q : b (ps b a) = s
    · rw [if_pos q, if_pos q]
    · rw [if_neg q, if_neg q]
  · rw [if_neg c0, if_neg (by rw [c1]; decide), if_neg (by rw [c2]; decide), if_neg (by rw [c3]; decide)] at hK
    rw [hK, ct, if_neg (by decide), if_neg n1]
/-- where a word's letter is looked for -/
def LT (b : Nat → Int32) (p q i : Nat) (x : Int32) : Prop := if p + i < q then b (p + i) = x else x = 0
theorem s_MisLetter {b : Nat → Int32} {sz t p q i : Nat} {x : Int32} {σ : Sg} (hb : ByteOK b sz) (hM : MB b sz t σ) (h21 : σ 30 0 21 = nI p) (h19 : σ 30 0 19 = nI q) (hp : p ≤ 1000) (hq : q ≤ 1000) (hi : i < 8) : (LT b p q i x → M_isLetter (nI i) x σ = some (1, σ)) ∧ (¬ LT b p q i x → M_isLetter (nI i) x σ = some (0, σ)) := by
  unfold M_isLetter LT
  rw [h21, h19, na_add]
  by_cases c : p + i < q
  · rw [if_pos (nI_lt c (by omega)), if_pos c, s_mbyteAt hb hM (by omega)]
    simp only [Option.bind_some]
    exact ⟨fun h => if_pos h, fun h => if_neg h⟩
  · rw [if_neg (nI_nlt (by omega) (by omega)), if_neg c]
    exact ⟨fun h => if_pos h, fun h => if_neg h⟩
theorem s_MisWord_w {b : Nat → Int32} {sz t p q : Nat} {σ : Sg} (hb : ByteOK b sz) (hM : MB b sz t σ) (h24 : σ 30 0 24 = 0) (h20 : σ 30 0 20 = 1) (h21 : σ 30 0 21 = nI p) (h19 : σ 30 0 19 = nI q) (hp : p ≤ 1000) (hq : q ≤ 1000) (f : Nat → Int32) : (q ≤ p + 8 ∧ (∀ i, i < 8 → LT b p q i (f i)) → M_isWord (f 0) (f 1) (f 2) (f 3) (f 4) (f 5) (f 6) (f 7) σ = some (1, σ)) ∧ (¬ (q ≤ p + 8 ∧ (∀ i, i < 8 → LT b p q i (f i))) → M_isWord (f 0) (f 1) (f 2) (f 3) (f 4) (f 5) (f 6) (f 7) σ = some (0, σ)) := by
  unfold M_isWord
  rw [if_pos h24, if_pos h20, h21, h19, show (8 : Int32) = nI 8 from rfl, na_add]
  by_cases c : p + 8 < q
  · rw [if_pos (nI_lt c (by omega))]
    exact ⟨fun h => absurd c (by omega), fun _ => rfl⟩
  rw [if_neg (nI_nlt (by omega) (by omega))]
  by_cases l0 : LT b p q 0 (f 0)
  case neg =>
    refine ⟨fun h => absurd (h.2 0 (by omega)) l0, fun _ => ?_⟩
    rw [show M_isLetter 0 (f 0) σ = some (0, σ) from (s_MisLetter hb hM h21 h19 hp hq (i := 0) (by omega)).2 l0]
    rfl
  rw [show M_isLetter 0 (f 0) σ = some (1, σ) from (s_MisLetter hb hM h21 h19 hp hq (i := 0) (by omega)).1 l0]
  simp only [Option.bind_some]
  rw [if_neg (show ¬ (1 : Int32) = 0 by decide)]
  by_cases l1 : LT b p q 1 (f 1)
  case neg =>
    refine ⟨fun h => absurd (h.2 1 (by omega)) l1, fun _ => ?_⟩
    rw [show M_isLetter 1 (f 1) σ = some (0, σ) from (s_MisLetter hb hM h21 h19 hp hq (i := 1) (by omega)).2 l1]
    rfl
  rw [show M_isLetter 1 (f 1) σ = some (1, σ) from (s_MisLetter hb hM h21 h19 hp hq (i := 1) (by omega)).1 l1]
  simp only [Option.bind_some]
  rw [if_neg (show ¬ (1 : Int32) = 0 by decide)]
  by_cases l2 : LT b p q 2 (f 2)
  case neg =>
    refine ⟨fun h => absurd (h.2 2 (by omega)) l2, fun _ => ?_⟩
    rw [show M_isLetter 2 (f 2) σ = some (0, σ) from (s_MisLetter hb hM h21 h19 hp hq (i := 2) (by omega)).2 l2]
    rfl
  rw [show M_isLetter 2 (f 2) σ = some (1, σ) from (s_MisLetter hb hM h21 h19 hp hq (i := 2) (by omega)).1 l2]
  simp only [Option.bind_some]
  rw [if_neg (show ¬ (1 : Int32) = 0 by decide)]
  by_cases l3 : LT b p q 3 (f 3)
  case neg =>
    refine ⟨fun h => absurd (h.2 3 (by omega)) l3, fun _ => ?_⟩
    rw [show M_isLetter 3 (f 3) σ = some (0, σ) from (s_MisLetter hb hM h21 h19 hp hq (i := 3) (by omega)).2 l3]
    rfl
  rw [show M_isLetter 3 (f 3) σ = some (1, σ) from (s_MisLetter hb hM h21 h19 hp hq (i := 3) (by omega)).1 l3]
  simp only [Option.bind_some]
  rw [if_neg (show ¬ (1 : Int32) = 0 by decide)]
  by_cases l4 : LT b p q 4 (f 4)
  case neg =>
    refine ⟨fun h => absurd (h.2 4 (by omega)) l4, fun _ => ?_⟩
    rw [show M_isLetter 4 (f 4) σ = some (0, σ) from (s_MisLetter hb hM h21 h19 hp hq (i := 4) (by omega)).2 l4]
    rfl
  rw [show M_isLetter 4 (f 4) σ = some (1, σ) from (s_MisLetter hb hM h21 h19 hp hq (i := 4) (by omega)).1 l4]
  simp only [Option.bind_some]
  rw [if_neg (show ¬ (1 : Int32) = 0 by decide)]
  by_cases l5 : LT b p q 5 (f 5)
  case neg =>
    refine ⟨fun h => absurd (h.2 5 (by omega)) l5, fun _ => ?_⟩
    rw [show M_isLetter 5 (f 5) σ = some (0, σ) from (s_MisLetter hb hM h21 h19 hp hq (i := 5) (by omega)).2 l5]
    rfl
  rw [show M_isLetter 5 (f 5) σ = some (1, σ) from (s_MisLetter hb hM h21 h19 hp hq (i := 5) (by omega)).1 l5]
  simp only [Option.bind_some]
  rw [if_neg (show ¬ (1 : Int32) = 0 by decide)]
  by_cases l6 : LT b p q 6 (f 6)
  case neg =>
    refine ⟨fun h => absurd (h.2 6 (by omega)) l6, fun _ => ?_⟩
    rw [show M_isLetter 6 (f 6) σ = some (0, σ) from (s_MisLetter hb hM h21 h19 hp hq (i := 6) (by omega)).2 l6]
    rfl
  rw [show M_isLetter 6 (f 6) σ = some (1, σ) from (s_MisLetter hb hM h21 h19 hp hq (i := 6) (by omega)).1 l6]
  simp only [Option.bind_some]
  rw [if_neg (show ¬ (1 : Int32) = 0 by decide)]
  by_cases l7 : LT b p q 7 (f 7)
  case neg =>
    refine ⟨fun h => absurd (h.2 7 (by omega)) l7, fun _ => ?_⟩
    rw [show M_isLetter 7 (f 7) σ = some (0, σ) from (s_MisLetter hb hM h21 h19 hp hq (i := 7) (by omega)).2 l7]
    rfl
  rw [show M_isLetter 7 (f 7) σ = some (1, σ) from (s_MisLetter hb hM h21 h19 hp hq (i := 7) (by omega)).1 l7]
  simp only [Option.bind_some]
  rw [if_neg (show ¬ (1 : Int32) = 0 by decide)]
  refine ⟨fun _ => rfl, fun h => absurd ⟨by omega, fun i hi => ?_⟩ h⟩
  have : i = 0 ∨ i = 1 ∨ i = 2 ∨ i = 3 ∨ i = 4 ∨ i = 5 ∨ i = 6 ∨ i = 7 := by omega
  rcases this with e | e | e | e | e | e | e | e <;> subst e <;> assumption
theorem LT_word {b : Nat → Int32} {p k : Nat} (hk : k < 12) (h0 : letB (b p) = true) : (ru letB b 160 p ≤ p + 8 ∧ ∀ i, i < 8 → LT b p (ru letB b 160 p) i (nI (ab_nth 0 (ab_word k) i))) ↔ wordI b p (ru letB b 160 p) k := by
  have len : ∀ k, k < 12 → 0 < (ab_word k).length ∧ (ab_word k).length < 8 := by decide
  have let1 : ∀ k, k < 12 → ∀ i, i < (ab_word k).length → 0 < ab_nth 0 (ab_word k) i ∧ ab_nth 0 (ab_word k) i < 256 := by decide
  have let0 : ∀ k, k < 12 → ∀ i, i < 8 → (ab_word k).length ≤ i → ab_nth 0 (ab_word k) i = 0 := by decide
  obtain ⟨l1, l2⟩ := len k hk
  constructor
  · rintro ⟨h1, h2⟩
    have a1 : ru letB b 160 p ≤ p + (ab_word k).length := Nat.le_of_not_lt fun q => by
      have := h2 (ab_word k).length l2
      unfold LT at this
      rw [if_pos q, let0 k hk _ l2 (Nat.le_refl _)] at this
      have h3 := ru_in (P := letB) (b := b) 160 p (p + (ab_word k).length) (by omega) q
      rw [this] at h3
      revert h3; decide
    have a2 : p + (ab_word k).length ≤ ru letB b 160 p := Nat.le_of_not_lt fun q => by
      have := h2 ((ab_word k).length - 1) (by omega)
      unfold LT at this
      obtain ⟨e1, e2⟩ := let1 k hk ((ab_word k).length - 1) (by omega)
      rw [if_neg (by omega), show (0 : Int32) = nI 0 from rfl, na_eq (by omega) (by omega)] at this
      omega
    refine ⟨by omega, fun i hi => ?_⟩
    have := h2 i (by omega)
    unfold LT at this
    rwa [if_pos (by omega)] at this
  · rintro ⟨h1, h2⟩
    refine ⟨by omega, fun i hi => ?_⟩
    unfold LT
    by_cases c : p + i < ru letB b 160 p
    · rw [if_pos c]; exact h2 i (by omega)
    · rw [if_neg c, let0 k hk i hi (by omega)]; rfl
/-- whether word k is at hand -/
theorem s_MisWord {b : Nat → Int32} {sz t a o k : Nat} {σ : Sg} (hb : ByteOK b sz) (h : J b sz t a o σ) (hk : k < 12) : M_isWord (nI (ab_nth 0 (ab_word k) 0)) (nI (ab_nth 0 (ab_word k) 1)) (nI (ab_nth 0 (ab_word k) 2)) (nI (ab_nth 0 (ab_word k) 3)) (nI (ab_nth 0 (ab_word k) 4)) (nI (ab_nth 0 (ab_word k) 5)) (nI (ab_nth 0 (ab_word k) 6)) (nI (ab_nth 0 (ab_word k) 7)) σ = some (if tk b a = cd k then 1 else 0, σ) := by
  obtain ⟨hM, h24, h23, h21, hK⟩ := h
  have ncd : ∀ k, k < 12 → ¬ 0 = cd k ∧ ¬ 1 = cd k ∧ ¬ 2 = cd k ∧ signB (cd k) = false := by decide
  obtain ⟨n0, n1, n2, n3⟩ := ncd k hk
  have off : ¬ σ 30 0 20 = 1 → M_isWord (nI (ab_nth 0 (ab_word k) 0)) (nI (ab_nth 0 (ab_word k) 1)) (nI (ab_nth 0 (ab_word k) 2)) (nI (ab_nth 0 (ab_word k) 3)) (nI (ab_nth 0 (ab_word k) 4)) (nI (ab_nth 0 (ab_word k) 5)) (nI (ab_nth 0 (ab_word k) 6)) (nI (ab_nth 0 (ab_word k) 7)) σ = some (0, σ) := fun q => by
    unfold M_isWord
    rw [if_pos h24, if_neg q]
  unfold KT at hK
  rcases tok_cases b a with ⟨c0, ct⟩ | ⟨c0, c1, ct, cx⟩ | ⟨c0, c1, c2, ct⟩ | ⟨c0, c1, c2, c3, ct⟩ | ⟨c0, c1, c2, c3, ct⟩
  · rw [if_pos c0] at hK
    rw [off (by rw [hK]; decide), ct, if_neg n0]
  · rw [if_neg c0, if_pos c1, cx] at hK
    have hps := ps_le hb a
    have hru := ru_le (P := letB) (b_no hb (by decide)) 160 _ hps
    have h160 := hb.1
    have w := s_MisWord_w hb hM h24 hK.1 h21 hK.2 (by omega) (by omega) (fun i => nI (ab_nth 0 (ab_word k) i))
    rw [LT_word hk c1] at w
    rw [ct]
    by_cases q : wordI b (ps b a) (ru letB b 160 (ps b a)) k
    · rw [if_pos ((wcode_iff hk).mpr q)]; exact w.1 q
    · rw [if_neg (fun e => q ((wcode_iff hk).mp e))]; exact w.2 q
  · rw [if_neg c0, if_neg (by rw [c1]; decide), if_pos c2] at hK
    rw [ct]
    split
    · rename_i q
      rw [if_pos q] at hK
      rw [off (by rw [hK.1]; decide)]
    · rename_i q
      rw [if_neg q] at hK
      rw [off (by rw [hK.1]; decide)]
  · rw [if_neg c0, if_neg (by rw [c1]; decide), if_neg (by rw [c2]; decide), if_pos c3] at hK
    rw [off (by rw [hK.1]; decide), ct, if_neg]
    intro e
    rw [e, n3] at c3
    cases c3
  · rw [if_neg c0, if_neg (by rw [c1]; decide), if_neg (by rw [c2]; decide), if_neg (by rw [c3]; decide)] at hK
    rw [off (by rw [hK]; decide), ct, if_neg n1]
/-- to the next token -/
theorem s_nextJ {b : Nat → Int32} {sz t a o : Nat} {σ : Sg} (hb : ByteOK b sz) (h : J b sz t a o σ) (h0 : tk b a ≠ 0) (h1 : tk b a ≠ 1) : ∃ σ', M_next σ = some σ' ∧ J b sz t (a + 1) o σ' ∧ Fr SM σ σ' := by
  obtain ⟨hM, h24, h23, h21, hK⟩ := h
  have h19 : σ 30 0 19 = nI (nxt b (ps b a)) := by
    unfold KT at hK
    rcases tok_cases b a with ⟨c0, ct⟩ | ⟨c0, c1, ct, cx⟩ | ⟨c0, c1, c2, ct⟩ | ⟨c0, c1, c2, c3, ct⟩ | ⟨c0, c1, c2, c3, ct⟩
    · exact absurd ct h0
    · rw [if_neg c0, if_pos c1] at hK; exact hK.2
    · rw [if_neg c0, if_neg (by rw [c1]; decide), if_pos c2] at hK; exact hK.2.1
    · rw [if_neg c0, if_neg (by rw [c1]; decide), if_neg (by rw [c2]; decide), if_pos c3] at hK; exact hK.2.1
    · exact absurd ct h1
  have hle : nxt b (ps b a) ≤ sz := by
    have h5 := tk_nz h0
    have hlt : ps b a < sz := Nat.lt_of_not_le fun e => h5 (by rw [hb.2.1 _ e]; decide)
    unfold nxt
    rw [if_neg h5]
    split
    · exact ru_le (b_no hb (by decide)) 160 _ (ps_le hb a)
    · split
      · exact ru_le (b_no hb (by decide)) 160 _ (ps_le hb a)
      · exact hlt
  obtain ⟨σ', e, k1, k2, k3⟩ := s_Mnext (a := a + 1) hb hM h19 hle rfl
  have f : Fr SM σ σ' := k3.mo fun g a j h => SN.sm h
  exact ⟨σ', e, ⟨hM.fr f, by rw [k3 _ _ _ (by unfold SN; omega)]; exact h24, by rw [k3 _ _ _ (by unfold SN; omega)]; exact h23, k1, k2⟩, f⟩
/-- one more is open -/
theorem s_Mopens {b : Nat → Int32} {sz t a o : Nat} {σ : Sg} (hb : ByteOK b sz) (h : J b sz t a o σ) (ho : o ≤ 5) (h0 : tk b a ≠ 0) (h1 : tk b a ≠ 1) : if o = 5 then ∃ σ', M_opens σ = some (0, σ') ∧ BD b a σ' ∧ Fr SM σ σ' else ∃ σ', M_opens σ = some (1, σ') ∧ J b sz t (a + 1) (o + 1) σ' ∧ Fr SM σ σ' := by
  unfold M_opens
  by_cases e : o = 5
  · rw [if_pos e]
    obtain ⟨σ', e1, e2, e3⟩ := s_Mfail h
    rw [if_pos (show σ 30 0 23 = 5 by rw [h.2.2.1, e]; rfl), e1]
    exact ⟨σ', rfl, e2, e3⟩
  · rw [if_neg e, if_neg (show ¬ σ 30 0 23 = 5 by rw [h.2.2.1]; exact fun q => e ((na_eq (a := o) (b := 5) (by omega) (by omega)).mp q)), h.2.2.1, ← nI_succ]
    obtain ⟨hM, h24, h23, h21, hK⟩ := h
    have hJ : J b sz t a (o + 1) (upd3 σ 30 0 23 (nI (o + 1))) := by
      refine ⟨hM.nx _, by rw [u3n _ _ _ _ _ (by omega)]; exact h24, u3s _ _ _ _ _, by rw [u3n _ _ _ _ _ (by omega)]; exact h21, ?_⟩
      unfold KT at hK ⊢
      rw [u3n _ _ _ _ _ (by omega), u3n _ _ _ _ _ (by omega), u3n _ _ _ _ _ (by omega)]
      exact hK
    obtain ⟨σ', e1, e2, e3⟩ := s_nextJ hb hJ h0 h1
    simp only [e1, Option.bind_some]
    exact ⟨σ', rfl, e2, (Fr.rf.up (by unfold SM; omega)).tr e3⟩
/-- one is open no more -/
theorem J.close {b : Nat → Int32} {sz t a o : Nat} {σ : Sg} (h : J b sz t a (o + 1) σ) : J b sz t a o (upd3 σ 30 0 23 (σ 30 0 23 - 1)) := by
  obtain ⟨hM, h24, h23, h21, hK⟩ := h
  refine ⟨hM.nx _, by rw [u3n _ _ _ _ _ (by omega)]; exact h24, ?_, by rw [u3n _ _ _ _ _ (by omega)]; exact h21, ?_⟩
  · rw [u3s, h23]; exact nI_pred o
  · unfold KT at hK ⊢
    rw [u3n _ _ _ _ _ (by omega), u3n _ _ _ _ _ (by omega), u3n _ _ _ _ _ (by omega)]
    exact hK
theorem BD.close {b : Nat → Int32} {a : Nat} {σ : Sg} (h : BD b a σ) (x : Int32) : BD b a (upd3 σ 30 0 23 x) := ⟨by rw [u3n _ _ _ _ _ (by omega)]; exact h.1, by rw [u3n _ _ _ _ _ (by omega)]; exact h.2⟩
/-- a name's value, or a fault -/
theorem s_Mname {b : Nat → Int32} {sz t a o : Nat} {e : Nat → Int32} {σ : Sg} (hb : ByteOK b sz) (h : J b sz t a o σ) (hE : EM e σ) : if tk b a = 310 ∨ tk b a = 311 ∨ tk b a = 312 ∨ tk b a = 313 ∨ tk b a = 314 ∨ tk b a = 315 then M_name σ = some (tp_n e (tk b a), σ) else ∃ σ', M_name σ = some (0, σ') ∧ BD b a σ' ∧ Fr SM σ σ' := by
  unfold M_name
  rw [show M_isWord 99 117 116 0 0 0 0 0 σ = some (if tk b a = 310 then 1 else 0, σ) from s_MisWord hb h (k := 6) (by omega)]
  simp only [Option.bind_some]
  by_cases w0 : tk b a = 310
  · rw [if_pos (by simp [w0]), if_pos w0, if_neg (show ¬ (1 : Int32) = 0 by decide), w0]
    exact congrArg some (Prod.ext (hE 0 (by omega)) rfl)
  rw [if_neg w0]
  refine Eq.mp (by rw [if_pos (rfl : (0 : Int32) = 0)]) ?_
  rw [show M_isWord 109 111 111 100 0 0 0 0 σ = some (if tk b a = 311 then 1 else 0, σ) from s_MisWord hb h (k := 7) (by omega)]
  simp only [Option.bind_some]
  by_cases w1 : tk b a = 311
  · rw [if_pos (by simp [w1]), if_pos w1, if_neg (show ¬ (1 : Int32) = 0 by decide), w1]
    exact congrArg some (Prod.ext (hE 1 (by omega)) rfl)
  rw [if_neg w1]
  refine Eq.mp (by rw [if_pos (rfl : (0 : Int32) = 0)]) ?_
  rw [show M_isWord 110 117 109 98 101 114 0 0 σ = some (if tk b a = 312 then 1 else 0, σ) from s_MisWord hb h (k := 8) (by omega)]
  simp only [Option.bind_some]
  by_cases w2 : tk b a = 312
  · rw [if_pos (by simp [w2]), if_pos w2, if_neg (show ¬ (1 : Int32) = 0 by decide), w2]
    exact congrArg some (Prod.ext (hE 2 (by omega)) rfl)
  rw [if_neg w2]
  refine Eq.mp (by rw [if_pos (rfl : (0 : Int32) = 0)]) ?_
  rw [show M_isWord 104 111 117 114 0 0 0 0 σ = some (if tk b a = 313 then 1 else 0, σ) from s_MisWord hb h (k := 9) (by omega)]
  simp only [Option.bind_some]
  by_cases w3 : tk b a = 313
  · rw [if_pos (by simp [w3]), if_pos w3, if_neg (show ¬ (1 : Int32) = 0 by decide), w3]
    exact congrArg some (Prod.ext (hE 3 (by omega)) rfl)
  rw [if_neg w3]
  refine Eq.mp (by rw [if_pos (rfl : (0 : Int32) = 0)]) ?_
  rw [show M_isWord 119 111 114 110 0 0 0 0 σ = some (if tk b a = 314 then 1 else 0, σ) from s_MisWord hb h (k := 10) (by omega)]
  simp only [Option.bind_some]
  by_cases w4 : tk b a = 314
  · rw [if_pos (by simp [w4]), if_pos w4, if_neg (show ¬ (1 : Int32) = 0 by decide), w4]
    exact congrArg some (Prod.ext (hE 4 (by omega)) rfl)
  rw [if_neg w4]
  refine Eq.mp (by rw [if_pos (rfl : (0 : Int32) = 0)]) ?_
  rw [show M_isWord 111 102 102 0 0 0 0 0 σ = some (if tk b a = 315 then 1 else 0, σ) from s_MisWord hb h (k := 11) (by omega)]
  simp only [Option.bind_some]
  by_cases w5 : tk b a = 315
  · rw [if_pos (by simp [w5]), if_pos w5, if_neg (show ¬ (1 : Int32) = 0 by decide), w5]
    exact congrArg some (Prod.ext (hE 5 (by omega)) rfl)
  rw [if_neg w5]
  refine Eq.mp (by rw [if_pos (rfl : (0 : Int32) = 0)]) ?_
  obtain ⟨σ', e1, e2, e3⟩ := s_Mfail h
  rw [if_neg (by rintro (q | q | q | q | q | q) <;> contradiction), e1]
  exact ⟨σ', rfl, e2, e3⟩
