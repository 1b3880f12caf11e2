/-! the grammar, as a function on tokens; the class's reader follows it -/
abbrev PR : Type := Option (List Int32) × Nat
def joinsB (w : Nat) (t : Int32) : Bool := match w with
  | 0 => t == 303
  | 1 => t == 304
  | 2 => t == 60 || t == 61
  | 3 => t == 43 || t == 45
  | 4 => t == 42
  | _ => false
def spPre (b : Nat → Int32) (rc : Nat → Nat → Nat → PR) (t : Int32) (w o a : Nat) : PR :=
  if 5 ≤ o then (none, a) else match rc w (o + 1) (a + 1) with
    | (some L, a') => (some (L ++ [-t]), a')
    | (none, a') => (none, a')
def spBrk (b : Nat → Int32) (rc : Nat → Nat → Nat → PR) (o a : Nat) : PR :=
  if 5 ≤ o then (none, a) else match rc 0 (o + 1) (a + 1) with
    | (some L, a') => if tk b a' = 41 then (some L, a' + 1) else (none, a')
    | (none, a') => (none, a')
def spOne (b : Nat → Int32) (rc : Nat → Nat → Nat → PR) (o a : Nat) : PR :=
  if tk b a = 45 then spPre b rc 306 5 o a else if tk b a = 40 then spBrk b rc o a else if tk b a = 2 then (some [nu b a], a + 1) else if tk b a < 310 then (none, a) else (some [-tk b a], a + 1)
def spL (b : Nat → Int32) (rc : Nat → Nat → Nat → PR) (w o : Nat) : Nat → List Int32 → Nat → PR
  | 0, L, a => (some L, a)
  | m + 1, L, a => if joinsB w (tk b a) then (match rc (w + 1) o (a + 1) with
      | (some L', a') => spL b rc w o m (L ++ L' ++ [-tk b a]) a'
      | (none, a') => (none, a')) else (some L, a)
def spJ (b : Nat → Int32) (rc : Nat → Nat → Nat → PR) (w o a : Nat) : PR := match rc (w + 1) o a with
  | (some L, a') => spL b rc w o (if w = 2 then 1 else 160) L a'
  | (none, a') => (none, a')
def spB (b : Nat → Int32) (rc : Nat → Nat → Nat → PR) (w o a : Nat) : PR :=
  if w < 5 then (if w = 2 ∧ tk b a = 305 then spPre b rc 305 2 o a else spJ b rc w o a) else spOne b rc o a
def sp (b : Nat → Int32) : Nat → Nat → Nat → Nat → PR
  | 0, _, _, a => (none, a)
  | n + 1, w, o, a => spB b (sp b n) w o a
/-- the steps that text i has so far -/
def XT (i : Nat) (L : List Int32) (σ : Sg) : Prop := σ 2 i 3 = nI L.length ∧ ∀ k, k < L.length → σ 3 i k = ab_nth 0 L k
def SR (i : Nat) : Nat → Nat → Nat → Prop := fun g a j => (g = 11 ∧ j = 1) ∨ (g = 3 ∧ a = i) ∨ (g = 2 ∧ a = i ∧ j = 3)
theorem TokX.fr {b : Nat → Int32} {sz N : Nat} {S : Nat → Nat → Nat → Prop} {σ σ' : Sg} (h : TokX b sz N σ) (f : Fr S σ σ') (k : ∀ g a j, 6 ≤ g → g ≤ 10 → ¬ S g a j) : TokX b sz N σ' := by
  obtain ⟨hB, h1, h2, h3, h4, h5⟩ := h
  refine ⟨hB.fr f (k _ _ _ (by omega) (by omega)) (fun p => k _ _ _ (by omega) (by omega)), by rw [f _ _ _ (k _ _ _ (by omega) (by omega))]; exact h1, h2, h3, h4, fun i hi => ?_⟩
  rw [f _ _ _ (k 8 _ _ (by omega) (by omega)), f _ _ _ (k 9 _ _ (by omega) (by omega)), f _ _ _ (k 10 _ _ (by omega) (by omega))]
  exact h5 i hi
theorem TokX.sr {b : Nat → Int32} {sz N i : Nat} {σ σ' : Sg} (h : TokX b sz N σ) (f : Fr (SR i) σ σ') : TokX b sz N σ' := h.fr f fun g a j h1 h2 => by unfold SR; omega
theorem nth_app {L : List Int32} {x : Int32} : ∀ {k : Nat}, ab_nth 0 (L ++ [x]) k = if k < L.length then ab_nth 0 L k else if k = L.length then x else 0 := by
  induction L with
  | nil =>
    intro k
    cases k with
    | zero => rfl
    | succ k => simp [ab_nth]
  | cons y r ih =>
    intro k
    cases k with
    | zero => rfl
    | succ k =>
      simp only [List.cons_append, ab_nth, List.length_cons, ih]
      simp only [Nat.add_lt_add_iff_right, Nat.add_right_cancel_iff]
theorem s_addNumber {i : Nat} {L : List Int32} {σ : Sg} (h : XT i L σ) (hl : L.length < 160) (x : Int32) : ∃ σ', Text_addNumber i x σ = some σ' ∧ XT i (L ++ [x]) σ' ∧ Fr (SR i) σ σ' ∧ σ' 11 0 1 = σ 11 0 1 := by
  unfold Text_addNumber
  simp (disch := omega) only [h.1, na_li, na_lt, na_cl, Nat.not_lt_zero, if_false, if_pos hl]
  rw [if_neg (by omega)]
  refine ⟨_, rfl, ⟨?_, fun k hk => ?_⟩, (Fr.rf.up (by unfold SR; omega)).up (by unfold SR; omega), ?_⟩
  · rw [u3s, u3n _ _ _ _ _ (by omega), h.1, List.length_append]; exact na_add _ _
  · rw [u3n _ _ _ _ _ (by omega), nth_app]
    simp only [List.length_append, List.length_singleton] at hk
    by_cases e : k = L.length
    · subst e
      rw [u3s, if_neg (Nat.lt_irrefl _), if_pos rfl]
    · rw [u3n _ _ _ _ _ (by omega), if_pos (by omega)]
      exact h.2 k (by omega)
  · rw [u3n _ _ _ _ _ (by omega), u3n _ _ _ _ _ (by omega)]
theorem s_addToken {i : Nat} {L : List Int32} {σ : Sg} (h : XT i L σ) (hl : L.length < 160) (x : Int32) : ∃ σ', Text_addToken i x σ = some σ' ∧ XT i (L ++ [-x]) σ' ∧ Fr (SR i) σ σ' ∧ σ' 11 0 1 = σ 11 0 1 := by
  obtain ⟨σ', e, h⟩ := s_addNumber h hl (-x)
  exact ⟨σ', by unfold Text_addToken; rw [e]; rfl, h⟩
theorem s_joins {w : Nat} (hw : w < 5) (t : Int32) (σ : Sg) : Reader_joins (nI w) t σ = some (if joinsB w t then 1 else 0, σ) := by
  have h : w = 0 ∨ w = 1 ∨ w = 2 ∨ w = 3 ∨ w = 4 := by omega
  rcases h with h | h | h | h | h <;> subst h
  · show (if t = 303 then some ((1 : Int32), σ) else some ((0 : Int32), σ)) = _
    by_cases e : t = 303 <;> simp [joinsB, e]
  · show (if t = 304 then some ((1 : Int32), σ) else some ((0 : Int32), σ)) = _
    by_cases e : t = 304 <;> simp [joinsB, e]
  · show (if t = 60 then some ((1 : Int32), σ) else if t = 61 then some ((1 : Int32), σ) else some ((0 : Int32), σ)) = _
    by_cases e : t = 60 <;> by_cases e2 : t = 61 <;> simp [joinsB, e, e2]
  · show (if t = 43 then some ((1 : Int32), σ) else if t = 45 then some ((1 : Int32), σ) else some ((0 : Int32), σ)) = _
    by_cases e : t = 43 <;> by_cases e2 : t = 45 <;> simp [joinsB, e, e2]
  · show (if t = 42 then some ((1 : Int32), σ) else some ((0 : Int32), σ)) = _
    by_cases e : t = 42 <;> simp [joinsB, e]
/-- what reading from token a on gives: the steps behind L0, or that token where it stops -/
def RQ (i : Nat) (L0 : List Int32) (a : Nat) (σ : Sg) (s : PR) (r : Int32 × Sg) : Prop := Fr (SR i) σ r.2 ∧ r.2 11 0 1 = nI s.2 ∧ s.2 ≤ 160 ∧ match s.1 with
  | some L => r.1 = 1 ∧ XT i (L0 ++ L) r.2 ∧ a < s.2 ∧ L.length + a ≤ s.2
  | none => r.1 = 0
def RC (b : Nat → Int32) (i sz N : Nat) (rc : Nat → Int32 → Int32 → Sg → Option (Int32 × Sg)) (sc : Nat → Nat → Nat → PR) (w o : Nat) : Prop := ∀ (L0 : List Int32) (a : Nat) (σ : Sg), TokX b sz N σ → XT i L0 σ → L0.length ≤ a → a ≤ 160 → σ 11 0 1 = nI a → wp (rc i (nI w) (nI o) σ) (RQ i L0 a σ (sc w o a))
theorem TokX.up {b : Nat → Int32} {sz N : Nat} {σ : Sg} (h : TokX b sz N σ) (x : Int32) : TokX b sz N (upd3 σ 11 0 1 x) := h.fr (S := fun g _ _ => g = 11) (Fr.rf.up rfl) (fun g a j h1 h2 => by omega)
theorem XT.up {i : Nat} {L : List Int32} {σ : Sg} (h : XT i L σ) (x : Int32) : XT i L (upd3 σ 11 0 1 x) := ⟨by rw [u3n _ _ _ _ _ (by omega)]; exact h.1, fun k hk => by rw [u3n _ _ _ _ _ (by omega)]; exact h.2 k hk⟩
theorem s_prefixed {b : Nat → Int32} {i sz N w o : Nat} {t : Int32} {rc : Nat → Int32 → Int32 → Sg → Option (Int32 × Sg)} {sc : Nat → Nat → Nat → PR} (hb : ByteOK b sz) (h : o < 5 → RC b i sz N rc sc w (o + 1)) {L0 : List Int32} {a : Nat} {σ : Sg} (hT : TokX b sz N σ) (hX : XT i L0 σ) (hl : L0.length ≤ a) (ha : a ≤ 160) (h11 : σ 11 0 1 = nI a) (ht : tk b a ≠ 0) (ho : o ≤ 5) : wp (Reader_prefixed rc i t (nI w) (nI o) σ) (RQ i L0 a σ (spPre b sc t w o a)) := by
  have ha2 := tk_lt hb ht
  unfold Reader_prefixed spPre
  by_cases q : 5 ≤ o
  · rw [if_neg (show ¬ nI o < 5 from nI_nlt (b := 5) q (by omega)), if_pos q]
    exact wp_some ⟨Fr.rf, h11, ha, rfl⟩
  · rw [if_pos (show nI o < 5 from nI_lt (b := 5) (by omega) (by decide)), if_neg q, h11, ← nI_succ, ← nI_succ]
    refine wp_bind (h (by omega) L0 (a + 1) _ (hT.up _) (hX.up _) (by omega) (by omega) (u3s _ _ _ _ _)) ?_
    rintro ⟨r, σ2⟩ ⟨k1, k2, k3, k4⟩
    have f1 : Fr (SR i) σ σ2 := (Fr.rf.up (by unfold SR; omega)).tr k1
    revert k2 k3 k4
    generalize sc w (o + 1) (a + 1) = s
    intro k2 k3 k4
    match s, k2, k3, k4 with
    | (none, a'), k2, k3, k4 =>
      simp only [show r = 0 from k4, if_true]
      exact wp_some ⟨f1, k2, k3, rfl⟩
    | (some L, a'), k2, k3, k4 =>
      obtain ⟨e1, e2, e3, e4⟩ := k4
      have k3 : a' ≤ 160 := k3
      have e3 : a + 1 < a' := e3
      have e4 : L.length + (a + 1) ≤ a' := e4
      simp only [show r = 1 from e1]
      rw [if_neg (by decide)]
      obtain ⟨σ3, j1, j2, j3, j4⟩ := s_addToken e2 (by rw [List.length_append]; omega) t
      simp only [j1, Option.bind_some]
      exact wp_some ⟨f1.tr j3, j4.trans k2, k3, rfl, by rw [← List.append_assoc]; exact j2, (by omega : a < a'), (by rw [List.length_append]; show L.length + 1 + a ≤ a'; omega)⟩
theorem s_stepOver {b : Nat → Int32} {sz N a : Nat} {t : Int32} {σ : Sg} (hb : ByteOK b sz) (hT : TokX b sz N σ) (h11 : σ 11 0 1 = nI a) (ha : a ≤ 160) : Reader_stepOver t σ = some (if tk b a = t then (1, upd3 σ 11 0 1 (nI (a + 1))) else (0, σ)) := by
  unfold Reader_stepOver
  rw [h11, s_token hb hT (by omega)]
  simp only [Option.bind_some]
  by_cases e : tk b a = t
  · rw [if_pos e, if_pos e, h11, ← nI_succ]
  · rw [if_neg e, if_neg e]
theorem s_bracketed {b : Nat → Int32} {i sz N o : Nat} {rc : Nat → Int32 → Int32 → Sg → Option (Int32 × Sg)} {sc : Nat → Nat → Nat → PR} (hb : ByteOK b sz) (h : o < 5 → RC b i sz N rc sc 0 (o + 1)) {L0 : List Int32} {a : Nat} {σ : Sg} (hT : TokX b sz N σ) (hX : XT i L0 σ) (hl : L0.length ≤ a) (ha : a ≤ 160) (h11 : σ 11 0 1 = nI a) (ht : tk b a ≠ 0) (ho : o ≤ 5) : wp (Reader_bracketed rc i (nI o) σ) (RQ i L0 a σ (spBrk b sc o a)) := by
  have ha2 := tk_lt hb ht
  unfold Reader_bracketed spBrk
  by_cases q : 5 ≤ o
  · rw [if_neg (show ¬ nI o < 5 from nI_nlt (b := 5) q (by omega)), if_pos q]
    exact wp_some ⟨Fr.rf, h11, ha, rfl⟩
  · rw [if_pos (show nI o < 5 from nI_lt (b := 5) (by omega) (by decide)), if_neg q, h11, ← nI_succ, ← nI_succ]
    refine wp_bind (h (by omega) L0 (a + 1) _ (hT.up _) (hX.up _) (by omega) (by omega) (u3s _ _ _ _ _)) ?_
    rintro ⟨r, σ2⟩ ⟨k1, k2, k3, k4⟩
    have f1 : Fr (SR i) σ σ2 := (Fr.rf.up (by unfold SR; omega)).tr k1
    have hT2 : TokX b sz N σ2 := hT.sr f1
    revert k2 k3 k4
    generalize sc 0 (o + 1) (a + 1) = s
    intro k2 k3 k4
    match s, k2, k3, k4 with
    | (none, a'), k2, k3, k4 =>
      simp only [show r = 0 from k4, if_true]
      exact wp_some ⟨f1, k2, k3, rfl⟩
    | (some L, a'), k2, k3, k4 =>
      obtain ⟨e1, e2, e3, e4⟩ := k4
      have k2 : σ2 11 0 1 = nI a' := k2
      have k3 : a' ≤ 160 := k3
      have e3 : a + 1 < a' := e3
      have e4 : L.length + (a + 1) ≤ a' := e4
      simp only [show r = 1 from e1]
      rw [if_neg (by decide), s_stepOver hb hT2 k2 k3]
      simp only [Option.bind_some]
      by_cases e : tk b a' = 41
      · have := tk_lt hb (i := a') (by rw [e]; decide)
        rw [if_pos e, if_pos e]
        refine wp_eq (if_neg (show ¬ (1 : Int32) = 0 by decide)) ?_
        exact wp_some ⟨f1.up (by unfold SR; omega), u3s σ2 11 0 1 (nI (a' + 1)), (by omega : a' + 1 ≤ 160), rfl, e2.up _, (by omega : a < a' + 1), (by omega : L.length + a ≤ a' + 1)⟩
      · rw [if_neg e, if_neg e, if_pos rfl]
        exact wp_some ⟨f1, k2, k3, rfl⟩
theorem RQ_and {i : Nat} {L0 : List Int32} {a : Nat} {σ : Sg} {s : PR} {o : Option (Int32 × Sg)} (h : wp o (RQ i L0 a σ s)) : wp (o.bind fun q => some (q.1 &&& 1, q.2)) (RQ i L0 a σ s) := by
  refine wp_bind h ?_
  rintro ⟨r, σ2⟩ ⟨k1, k2, k3, k4⟩
  refine wp_some ⟨k1, k2, k3, ?_⟩
  revert k4
  cases s.1 with
  | none => intro k4; show r &&& 1 = 0; rw [show r = 0 from k4]; rfl
  | some L => intro k4; exact ⟨by show r &&& 1 = 1; rw [show r = 1 from k4.1]; rfl, k4.2⟩
theorem s_one {b : Nat → Int32} {i sz N o : Nat} {rc : Nat → Int32 → Int32 → Sg → Option (Int32 × Sg)} {sc : Nat → Nat → Nat → PR} (hb : ByteOK b sz) (h : ∀ w, w < 6 → o < 5 → RC b i sz N rc sc w (o + 1)) {L0 : List Int32} {a : Nat} {σ : Sg} (hT : TokX b sz N σ) (hX : XT i L0 σ) (hl : L0.length ≤ a) (ha : a ≤ 160) (h11 : σ 11 0 1 = nI a) (ho : o ≤ 5) : wp (Reader_one rc i (nI o) σ) (RQ i L0 a σ (spOne b sc o a)) := by
  unfold Reader_one spOne
  rw [h11, s_token hb hT (by omega)]
  simp only [Option.bind_some]
  by_cases e1 : tk b a = 45
  · rw [if_pos e1, if_pos e1]
    exact RQ_and (s_prefixed hb (h 5 (by omega)) hT hX hl ha h11 (by rw [e1]; decide) ho)
  rw [if_neg e1, if_neg e1]
  by_cases e2 : tk b a = 40
  · rw [if_pos e2, if_pos e2]
    exact RQ_and (s_bracketed hb (h 0 (by omega)) hT hX hl ha h11 (by rw [e2]; decide) ho)
  rw [if_neg e2, if_neg e2]
  by_cases e3 : tk b a = 2
  · have ha2 := tk_lt hb (i := a) (by rw [e3]; decide)
    rw [if_pos e3, if_pos e3, h11, s_number hb hT (by omega) e3]
    simp only [Option.bind_some]
    obtain ⟨σ3, j1, j2, j3, j4⟩ := s_addNumber hX (by omega) (nu b a)
    simp only [j1, Option.bind_some]
    rw [j4, h11, ← nI_succ]
    exact wp_some ⟨j3.up (by unfold SR; omega), u3s σ3 11 0 1 (nI (a + 1)), (by omega : a + 1 ≤ 160), rfl, j2.up _, Nat.lt_succ_self a, (by show 1 + a ≤ a + 1; omega)⟩
  rw [if_neg e3, if_neg e3]
  by_cases e4 : tk b a < 310
  · rw [if_pos e4, if_pos e4]
    exact wp_some ⟨Fr.rf, h11, ha, rfl⟩
  · have ha2 := tk_lt hb (i := a) (fun e => e4 (by rw [e]; decide))
    rw [if_neg e4, if_neg e4]
    obtain ⟨σ3, j1, j2, j3, j4⟩ := s_addToken hX (by omega) (tk b a)
    simp only [j1, Option.bind_some]
    rw [j4, h11, ← nI_succ]
    exact wp_some ⟨j3.up (by unfold SR; omega), u3s σ3 11 0 1 (nI (a + 1)), (by omega : a + 1 ≤ 160), rfl, j2.up _, Nat.lt_succ_self a, (by show 1 + a ≤ a + 1; omega)⟩
theorem joinsB_n0 {w : Nat} {t : Int32} (h : joinsB w t = true) : t ≠ 0 := fun e => by
  subst e
  revert h
  unfold joinsB
  split <;> decide
theorem s_level_L {b : Nat → Int32} {i sz N w o : Nat} {rc : Nat → Int32 → Int32 → Sg → Option (Int32 × Sg)} {sc : Nat → Nat → Nat → PR} (hb : ByteOK b sz) (hw : w < 5) (h : RC b i sz N rc sc (w + 1) o) {L0 : List Int32} {a0 most : Nat} {σ0 : Sg} (hl : L0.length ≤ a0) (hm : most ≤ 160) : ∀ m n v L a σ, v + m = most → m < n → TokX b sz N σ → XT i (L0 ++ L) σ → L.length + a0 ≤ a → a0 < a → a ≤ 160 → σ 11 0 1 = nI a → Fr (SR i) σ0 σ → wp (Reader_level_L76 rc n i (nI w) (nI o) (nI most) (nI v) σ) (RQ i L0 a0 σ0 (spL b sc w o m L a)) := by
  intro m
  induction m with
  | zero =>
    intro n v L a σ hv hn hT hX hL h0 ha h11 hf
    obtain ⟨n, rfl⟩ : ∃ n', n = n' + 1 := ⟨n - 1, by omega⟩
    unfold Reader_level_L76 spL
    rw [if_neg (nI_nlt (by omega) (by omega))]
    exact wp_some ⟨hf, h11, ha, rfl, hX, h0, hL⟩
  | succ m ih =>
    intro n v L a σ hv hn hT hX hL h0 ha h11 hf
    obtain ⟨n, rfl⟩ : ∃ n', n = n' + 1 := ⟨n - 1, by omega⟩
    unfold Reader_level_L76 spL
    rw [if_pos (nI_lt (by omega) (by omega)), h11, s_token hb hT (by omega)]
    simp only [Option.bind_some, s_joins hw, b01]
    by_cases hj : joinsB w (tk b a) = true
    · have ha2 := tk_lt hb (joinsB_n0 hj)
      rw [if_neg (by rw [hj]; decide), if_pos hj, h11, s_token hb hT (by omega)]
      simp only [Option.bind_some]
      rw [h11, show nI w + 1 = nI (w + 1) from (nI_succ w).symm, show nI a + 1 = nI (a + 1) from (nI_succ a).symm]
      refine wp_bind (h (L0 ++ L) (a + 1) _ (hT.up _) (hX.up _) (by rw [List.length_append]; omega) (by omega) (u3s _ _ _ _ _)) ?_
      rintro ⟨r, σ2⟩ ⟨k1, k2, k3, k4⟩
      have f1 : Fr (SR i) σ σ2 := (Fr.rf.up (by unfold SR; omega)).tr k1
      revert k2 k3 k4
      generalize sc (w + 1) o (a + 1) = s
      intro k2 k3 k4
      match s, k2, k3, k4 with
      | (none, a'), k2, k3, k4 =>
        simp only [show r = 0 from k4, if_true]
        exact wp_some ⟨hf.tr f1, k2, k3, rfl⟩
      | (some L', a'), k2, k3, k4 =>
        obtain ⟨e1, e2, e3, e4⟩ := k4
        have k2 : σ2 11 0 1 = nI a' := k2
        have k3 : a' ≤ 160 := k3
        have e3 : a + 1 < a' := e3
        have e4 : L'.length + (a + 1) ≤ a' := e4
        simp only [show r = 1 from e1]
        rw [if_neg (by decide)]
        obtain ⟨σ3, j1, j2, j3, j4⟩ := s_addToken e2 (by simp only [List.length_append]; omega) (tk b a)
        simp only [j1, Option.bind_some]
        rw [show nI v + 1 = nI (v + 1) from (nI_succ v).symm]
        refine ih n (v + 1) (L ++ L' ++ [-tk b a]) a' σ3 (by omega) (by omega) (hT.sr (f1.tr j3)) ?_ ?_ (by omega) k3 (j4.trans k2) ((hf.tr f1).tr j3)
        · simpa only [List.append_assoc] using j2
        · simp only [List.length_append, List.length_singleton]; omega
    · have hj2 : joinsB w (tk b a) = false := by simpa using hj
      rw [if_pos hj2, if_neg hj]
      exact wp_some ⟨hf, h11, ha, rfl, hX, h0, hL⟩
theorem s_level_J {b : Nat → Int32} {i sz N w o : Nat} {rc : Nat → Int32 → Int32 → Sg → Option (Int32 × Sg)} {sc : Nat → Nat → Nat → PR} (hb : ByteOK b sz) (hw : w < 5) (h : RC b i sz N rc sc (w + 1) o) {L0 : List Int32} {a : Nat} {σ : Sg} (hT : TokX b sz N σ) (hX : XT i L0 σ) (hl : L0.length ≤ a) (ha : a ≤ 160) (h11 : σ 11 0 1 = nI a) : wp (Reader_level_J45 rc i (nI w) (nI o) σ) (RQ i L0 a σ (spJ b sc w o a)) := by
  unfold Reader_level_J45 spJ
  rw [show nI w + 1 = nI (w + 1) from (nI_succ w).symm]
  refine wp_bind (h L0 a σ hT hX hl ha h11) ?_
  rintro ⟨r, σ2⟩ ⟨k1, k2, k3, k4⟩
  have k1 : Fr (SR i) σ σ2 := k1
  revert k2 k3 k4
  generalize sc (w + 1) o a = s
  intro k2 k3 k4
  match s, k2, k3, k4 with
  | (none, a'), k2, k3, k4 =>
    simp only [show r = 0 from k4, if_true]
    exact wp_some ⟨k1, k2, k3, rfl⟩
  | (some L, a'), k2, k3, k4 =>
    obtain ⟨e1, e2, e3, e4⟩ := k4
    have k2 : σ2 11 0 1 = nI a' := k2
    have k3 : a' ≤ 160 := k3
    have e3 : a < a' := e3
    have e4 : L.length + a ≤ a' := e4
    simp only [show r = 1 from e1]
    rw [if_neg (by decide)]
    by_cases e : w = 2
    · rw [if_pos (show nI w = 2 by rw [e]; rfl), if_pos e]
      exact s_level_L (most := 1) hb hw h hl (show 1 ≤ 160 by omega) 1 FU 0 L a' σ2 rfl (by rw [FU_eq]; omega) (hT.sr k1) e2 e4 e3 k3 k2 k1
    · rw [if_neg (show ¬ nI w = 2 from fun h => e ((na_eq (a := w) (b := 2) (by omega) (by omega)).mp h)), if_neg e]
      exact s_level_L hb hw h hl (Nat.le_refl _) 160 FU 0 L a' σ2 rfl (by rw [FU_eq]; omega) (hT.sr k1) e2 e4 e3 k3 k2 k1
theorem s_level {b : Nat → Int32} {i sz N : Nat} (hb : ByteOK b sz) : ∀ n w o, w ≤ 5 → o ≤ 5 → 6 * (5 - o) + (5 - w) < n → RC b i sz N (Reader_level n) (sp b n) w o := by
  intro n
  induction n with
  | zero => intro w o _ _ h; omega
  | succ n ih =>
    intro w o hw ho hm L0 a σ hT hX hl ha h11
    show wp (Reader_levelB (Reader_level n) i (nI w) (nI o) σ) (RQ i L0 a σ (spB b (sp b n) w o a))
    unfold Reader_levelB spB
    by_cases q : w < 5
    · rw [if_pos (show nI w < 5 from nI_lt (b := 5) q (by decide)), if_pos q]
      by_cases e : w = 2
      · rw [if_pos (show nI w = 2 by rw [e]; rfl), h11, s_token hb hT (by omega)]
        simp only [Option.bind_some]
        by_cases e2 : tk b a = 305
        · rw [if_pos e2, if_pos ⟨e, e2⟩]
          exact RQ_and (s_prefixed (w := 2) hb (fun ho5 => ih 2 (o + 1) (by omega) (by omega) (by omega)) hT hX hl ha h11 (by rw [e2]; decide) ho)
        · rw [if_neg e2, if_neg (fun h => e2 h.2)]
          exact s_level_J hb q (ih (w + 1) o (by omega) ho (by omega)) hT hX hl ha h11
      · rw [if_neg (show ¬ nI w = 2 from fun h => e ((na_eq (a := w) (b := 2) (by omega) (by omega)).mp h)), if_neg (fun h => e h.1)]
        exact s_level_J hb q (ih (w + 1) o (by omega) ho (by omega)) hT hX hl ha h11
    · rw [if_neg (show ¬ nI w < 5 from nI_nlt (b := 5) (by omega) (by omega)), if_neg q]
      exact RQ_and (s_one hb (fun w' hw' ho5 => ih w' (o + 1) (by omega) (by omega) (by omega)) hT hX hl ha h11 ho)
