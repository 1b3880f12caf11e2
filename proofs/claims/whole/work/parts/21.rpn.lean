/-! a text's steps on a small stack -/
/-- the stack of a text's steps, as a list (the top first) -/
def AS (σ : Sg) (i : Nat) (st : List Int32) : Prop := σ 2 i 4 = nI st.length ∧ st.length ≤ 40 ∧ ∀ k, k < st.length → σ 5 i k = ab_nth 0 st (st.length - 1 - k)
/-- nothing but text i's stack differs -/
def Un (i : Nat) (σ σ' : Sg) : Prop := ∀ g a j, ¬ (g = 5 ∧ a = i) → ¬ (g = 2 ∧ a = i ∧ j = 4) → σ' g a j = σ g a j
theorem Un.rf {i : Nat} {σ : Sg} : Un i σ σ := fun _ _ _ _ _ => rfl
theorem Un.tr {i : Nat} {σ σ1 σ2 : Sg} (h : Un i σ σ1) (h2 : Un i σ1 σ2) : Un i σ σ2 := fun g a j h3 h4 => (h2 g a j h3 h4).trans (h g a j h3 h4)
theorem s_lay {σ : Sg} {i : Nat} {st : List Int32} (h : AS σ i st) (hl : st.length < 40) (v : Int32) : ∃ σ', Text_lay i v σ = some σ' ∧ AS σ' i (v :: st) ∧ Un i σ σ' := by
  obtain ⟨h1, h2, h3⟩ := h
  unfold Text_lay
  rw [h1]
  simp (disch := omega) only [na_li, na_lt, na_cl, Nat.not_lt_zero, if_true, if_false, hl]
  rw [if_neg (by omega)]
  refine ⟨_, rfl, ⟨?_, ?_, fun k hk => ?_⟩, fun g a j h5 h6 => ?_⟩
  · rw [List.length_cons, ← na_add]
    simp [upd3, h1]
  · simp only [List.length_cons]; omega
  · simp only [List.length_cons] at hk ⊢
    by_cases e : k = st.length
    · subst e
      simp [upd3, ab_nth]
    · have e2 : st.length + 1 - 1 - k = (st.length - 1 - k) + 1 := by omega
      rw [e2]
      simp [upd3, e, ab_nth]
      exact h3 k (by omega)
  · have h7 : ¬ (g = 5 ∧ a = i ∧ j = st.length) := fun q => h5 ⟨q.1, q.2.1⟩
    simp [upd3, h6, h7]
theorem s_lift {σ : Sg} {i : Nat} {v : Int32} {st : List Int32} (h : AS σ i (v :: st)) : ∃ σ', Text_lift i σ = some (v, σ') ∧ AS σ' i st ∧ Un i σ σ' := by
  obtain ⟨h1, h2, h3⟩ := h
  simp only [List.length_cons] at h1 h2 h3
  unfold Text_lift
  have e1 : ¬ 40 < st.length + 1 := by omega
  have e2 : 0 < st.length + 1 := by omega
  have e3 : nI (st.length + 1) - nI 1 = nI st.length := by rw [na_sub (by omega)]; rfl
  simp (disch := omega) only [h1, na_li, na_lt, if_true, if_false, e1, e2, e3]
  have e4 : upd3 σ 2 i 4 (nI st.length) 2 i 4 = nI st.length := by simp [upd3]
  simp (disch := omega) only [e4, na_lt, na_cl, Nat.not_lt_zero, if_false]
  rw [if_neg (by omega)]
  refine ⟨_, ?_, ⟨e4, by omega, fun k hk => ?_⟩, fun g a j h5 h6 => ?_⟩
  · have := h3 st.length (by omega)
    rw [show st.length + 1 - 1 - st.length = 0 by omega] at this
    simp [upd3, this, ab_nth]
  · have := h3 k (by omega)
    rw [show st.length + 1 - 1 - k = (st.length - 1 - k) + 1 by omega] at this
    simpa [upd3, ab_nth] using this
  · simp [upd3, h6]
/-- what two operands give -/
def tp_j (t l r : Int32) : Int32 :=
  if t = 43 then l + r else if t = 45 then l - r else if t = 60 then (if l < r then 1 else 0) else if t = 61 then (if l = r then 1 else 0) else if t = 303 then (if l = 0 then if r = 0 then 0 else 1 else 1) else if t = 304 then (if l = 0 then 0 else if r = 0 then 0 else 1) else l * r
theorem s_joined (t l r : Int32) (σ : Sg) : Text_joined t l r σ = some (tp_j t l r, σ) := by
  unfold Text_joined tp_j
  repeat' split
  all_goals rfl
/-- what a name says: cut, mood, number, hour, worn, off -/
def tp_n (e : Nat → Int32) (t : Int32) : Int32 :=
  if t = 310 then e 0 else if t = 311 then e 1 else if t = 312 then e 2 else if t = 313 then e 3 else if t = 314 then e 4 else e 5
def offS (cut mood : Int32) : Int32 := if mood < cut then cut - mood else mood - cut
/-- the names of a coat at a mood and an hour -/
def envX (σ : Sg) (c : Nat) (mood hour : Int32) : Nat → Int32 := fun k => match k with
  | 0 => σ 1 c 2
  | 1 => mood
  | 2 => σ 1 c 1
  | 3 => hour
  | 4 => σ 1 c 3
  | _ => offS (σ 1 c 2) mood
theorem s_off (c : Nat) (mood : Int32) (σ : Sg) : Coat_off c mood σ = some (offS (σ 1 c 2) mood, σ) := by
  unfold Coat_off offS
  split <;> rfl
theorem s_named (t : Int32) (c : Nat) (mood hour : Int32) (σ : Sg) : Text_named t c mood hour σ = some (tp_n (envX σ c mood hour) t, σ) := by
  unfold Text_named tp_n
  simp only [s_off, Option.bind_some, envX]
  repeat' split
  all_goals rfl
/-- one step -/
def tp_1 (e : Nat → Int32) (s : Int32) (st : List Int32) : Option (List Int32) :=
  if s < 0 then
    if -310 < s then
      if -s = 305 then (match st with
        | r :: t => some ((if r = 0 then 1 else 0) :: t)
        | [] => none)
      else if -s = 306 then (match st with
        | r :: t => some (-r :: t)
        | [] => none)
      else (match st with
        | r :: l :: t => some (tp_j (-s) l r :: t)
        | _ => none)
    else if st.length < 40 then some (tp_n e (-s) :: st) else none
  else if st.length < 40 then some (s :: st) else none
def tp_r (e : Nat → Int32) : List Int32 → List Int32 → Option (List Int32)
  | [], st => some st
  | s :: r, st => match tp_1 e s st with
    | some st' => tp_r e r st'
    | none => none
theorem tp_app (e : Nat → Int32) (a b : List Int32) : ∀ st, tp_r e (a ++ b) st = (tp_r e a st).bind (tp_r e b) := by
  induction a with
  | nil => intro st; rfl
  | cons s r ih =>
    intro st
    simp only [List.cons_append, tp_r]
    cases tp_1 e s st with
    | none => rfl
    | some st' => exact ih st'
theorem s_join {σ : Sg} {i : Nat} {s : Int32} {e : Nat → Int32} {st st' : List Int32} (h : AS σ i st) (hs : s < 0) (hs2 : -310 < s) (h1 : tp_1 e s st = some st') : ∃ σ', Text_join i (-s) σ = some σ' ∧ AS σ' i st' ∧ Un i σ σ' := by
  unfold tp_1 at h1
  rw [if_pos hs, if_pos hs2] at h1
  unfold Text_join
  match st, h, h1 with
  | [], h, h1 => exact absurd h1 (by simp)
  | [r], h, h1 =>
    obtain ⟨σ1, e1, a1, u1⟩ := s_lift h
    rw [e1]
    simp only [Option.bind_some]
    split at h1
    · rename_i q
      cases h1
      rw [if_pos q]
      split
      · obtain ⟨σ2, e2, a2, u2⟩ := s_lay a1 (by simp) 1
        exact ⟨σ2, by rw [e2]; rfl, a2, u1.tr u2⟩
      · obtain ⟨σ2, e2, a2, u2⟩ := s_lay a1 (by simp) 0
        exact ⟨σ2, by rw [e2]; rfl, a2, u1.tr u2⟩
    · rename_i q
      rw [if_neg q]
      split at h1
      · rename_i q2
        cases h1
        rw [if_pos q2]
        obtain ⟨σ2, e2, a2, u2⟩ := s_lay a1 (by simp) (-r)
        exact ⟨σ2, by rw [e2]; rfl, a2, u1.tr u2⟩
      · cases h1
  | r :: l :: t, h, h1 =>
    have hlen := h.2.1
    simp only [List.length_cons] at hlen
    obtain ⟨σ1, e1, a1, u1⟩ := s_lift h
    rw [e1]
    simp only [Option.bind_some]
    split at h1
    · rename_i q
      cases h1
      rw [if_pos q]
      split
      · obtain ⟨σ2, e2, a2, u2⟩ := s_lay a1 (by simp only [List.length_cons]; omega) 1
        exact ⟨σ2, by rw [e2]; rfl, a2, u1.tr u2⟩
      · obtain ⟨σ2, e2, a2, u2⟩ := s_lay a1 (by simp only [List.length_cons]; omega) 0
        exact ⟨σ2, by rw [e2]; rfl, a2, u1.tr u2⟩
    · rename_i q
      rw [if_neg q]
      split at h1
      · rename_i q2
        cases h1
        rw [if_pos q2]
        obtain ⟨σ2, e2, a2, u2⟩ := s_lay a1 (by simp only [List.length_cons]; omega) (-r)
        exact ⟨σ2, by rw [e2]; rfl, a2, u1.tr u2⟩
      · rename_i q2
        cases h1
        rw [if_neg q2]
        obtain ⟨σ2, e2, a2, u2⟩ := s_lift a1
        rw [e2]
        simp only [Option.bind_some, s_joined]
        obtain ⟨σ3, e3, a3, u3⟩ := s_lay a2 (by omega) (tp_j (-s) l r)
        exact ⟨σ3, by rw [e3]; rfl, a3, (u1.tr u2).tr u3⟩
