/-! a text's steps on a small stack -/
/-- the stack of a text's steps, as a list (the top first) -/
def AS (σ : Sg) (i : Nat) (st : List Int32) : Prop := σ 2 i 4 = nI st.length ∧ st.length ≤ 40 ∧ ∀ k, k < st.length → σ 5 i k = ab_nth 0 st (st.length - 1 - k)
/-- nothing but text i's stack differs -/
def Un (i : Nat) (σ σ' : Sg) : Prop := ∀ g a j, ¬ (g = 5 ∧ a = i) → ¬ (g = 2 ∧ a = i ∧ j = 4) → σ' g a j = σ g a j
theorem Un.rf {i : Nat} {σ : Sg} : Un i σ σ := fun _ _ _ _ _ => rfl
theorem Un.tr {i : Nat} {σ σ1 σ2 : Sg} (h : Un i σ σ1) (h2 : Un i σ1 σ2) : Un i σ σ2 := fun g a j h3 h4 => (h2 g a j h3 h4).trans (h g a j h3 h4)
theorem s_lay {σ : Sg} {i : Nat} {st : List Int32} (h : AS σ i st) (hl : st.length < 40) (v : Int32) : ∃ σ', Text_lay i v σ = some σ' ∧ AS σ' i (v :: st) ∧ Un i σ σ' := by
  obtain ⟨h1, h2, h3⟩ := h
  unfold Text_lay
  rw [h1]
  simp (disch := omega) only [na_li, na_lt, na_cl, Nat.not_lt_zero, if_true, if_false, hl]
  rw [if_neg (by omega)]
  refine ⟨_, rfl, ⟨?_, ?_, fun k hk => ?_⟩, fun g a j h5 h6 => ?_⟩
  · rw [List.length_cons, ← na_add]
    simp [upd3, h1]
  · simp only [List.length_cons]; omega
  · simp only [List.length_cons] at hk ⊢
    by_cases e : k = st.length
    · subst e
      simp [upd3, ab_nth]
    · have e2 : st.length + 1 - 1 - k = (st.length - 1 - k) + 1 := by omega
      rw [e2]
      simp [upd3, e, ab_nth]
      exact h3 k (by omega)
  · have h7 : ¬ (g = 5 ∧ a = i ∧ j = st.length) := fun q => h5 ⟨q.1, q.2.1⟩
    simp [upd3, h6, h7]
theorem s_lift {σ : Sg} {i : Nat} {v : Int32} {st : List Int32} (h : AS σ i (v :: st)) : ∃ σ', Text_lift i σ = some (v, σ') ∧ AS σ' i st ∧ Un i σ σ' := by
  obtain ⟨h1, h2, h3⟩ := h
  simp only [List.length_cons] at h1 h2 h3
  unfold Text_lift
  have e1 : ¬ 40 < st.length + 1 := by omega
  have e2 : 0 < st.length + 1 := by omega
  have e3 : nI (st.length + 1) - nI 1 = nI st.length := by rw [na_sub (by omega)]; rfl
  simp (disch := omega) only [h1, na_li, na_lt, if_true, if_false, e1, e2, e3]
  have e4 : upd3 σ 2 i 4 (nI st.length) 2 i 4 = nI st.length := by simp [upd3]
  simp (disch := omega) only [e4, na_lt, na_cl, Nat.not_lt_zero, if_false]
  rw [if_neg (by omega)]
  refine ⟨_, ?_, ⟨e4, by omega, fun k hk => ?_⟩, fun g a j h5 h6 => ?_⟩
  · have := h3 st.length (by omega)
    rw [show st.length + 1 - 1 - st.length = 0 by omega] at this
    simp [upd3, this, ab_nth]
  · have := h3 k (by omega)
    rw [show st.length + 1 - 1 - k = (st.length - 1 - k) + 1 by omega] at this
    simpa [upd3, ab_nth] using this
  · simp [upd3, h6]
