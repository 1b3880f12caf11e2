/-! the reference's reading follows the grammar, and answers what the steps say -/
def Ev (e : Nat → Int32) (need : Nat) (L : List Int32) (v : Int32) : Prop := ∀ st : List Int32, st.length + need ≤ 40 → tp_r e L st = some (v :: st)
theorem Ev.mono {e : Nat → Int32} {n m : Nat} {L : List Int32} {v : Int32} (h : Ev e n L v) (k : n ≤ m) : Ev e m L v := fun st hs => h st (by omega)
theorem Ev_num {e : Nat → Int32} {n : Nat} {x : Int32} (h : ¬ x < 0) (hn : 1 ≤ n) : Ev e n [x] x := fun st hs => by
  unfold tp_r tp_1
  rw [if_neg h, if_pos (by omega)]
  rfl
theorem Ev_name {e : Nat → Int32} {n : Nat} {t : Int32} (h : -t < 0) (h2 : ¬ -310 < -t) (h3 : - -t = t) (hn : 1 ≤ n) : Ev e n [-t] (tp_n e t) := fun st hs => by
  unfold tp_r tp_1
  rw [if_pos h, if_neg h2, if_pos (by omega), h3]
  rfl
theorem Ev_bin {e : Nat → Int32} {n1 n2 n : Nat} {L1 L2 : List Int32} {v1 v2 t : Int32} (h1 : Ev e n1 L1 v1) (h2 : Ev e n2 L2 v2) (k1 : n1 ≤ n) (k2 : n2 + 1 ≤ n) (ht : t = 303 ∨ t = 304 ∨ t = 60 ∨ t = 61 ∨ t = 43 ∨ t = 45 ∨ t = 42) : Ev e n (L1 ++ L2 ++ [-t]) (tp_j t v1 v2) := fun st hs => by
  have q : -t < 0 ∧ -310 < -t ∧ - -t = t ∧ t ≠ 305 ∧ t ≠ 306 := by
    rcases ht with h | h | h | h | h | h | h <;> subst h <;> decide
  rw [tp_app, tp_app, h1 st (by omega)]
  simp only [Option.bind_some]
  rw [h2 (v1 :: st) (by simp only [List.length_cons]; omega)]
  simp only [Option.bind_some]
  unfold tp_r tp_1
  rw [if_pos q.1, if_pos q.2.1, q.2.2.1, if_neg q.2.2.2.1, if_neg q.2.2.2.2]
  rfl
theorem Ev_not {e : Nat → Int32} {n1 n : Nat} {L : List Int32} {v : Int32} (h : Ev e n1 L v) (k : n1 ≤ n) : Ev e n (L ++ [-305]) (if v = 0 then 1 else 0) := fun st hs => by
  rw [tp_app, h st (by omega)]
  rfl
theorem Ev_neg {e : Nat → Int32} {n1 n : Nat} {L : List Int32} {v : Int32} (h : Ev e n1 L v) (k : n1 ≤ n) : Ev e n (L ++ [-306]) (-v) := fun st hs => by
  rw [tp_app, h st (by omega)]
  rfl
def mQ (b : Nat → Int32) (sz t o need : Nat) (e : Nat → Int32) (σ : Sg) (a0 : Nat) (s : PR) (r : Int32 × Sg) : Prop := Fr SM σ r.2 ∧ match s with
  | (some L, a') => J b sz t a' o r.2 ∧ Ev e need L r.1 ∧ a0 < a'
  | (none, a') => BD b a' r.2
def nd (w o : Nat) : Nat := 1 + 5 * (5 - o) + (5 - w)
def MSA (b : Nat → Int32) (sz t : Nat) (e : Nat → Int32) (F : Sg → Option (Int32 × Sg)) (w o : Nat) : Prop := ∀ n, 6 * (5 - o) + (5 - w) < n → ∀ a σ, J b sz t a o σ → EM e σ → wp (F σ) (mQ b sz t o (nd w o) e σ a (sp b n w o a))
theorem joinsB_t {w : Nat} {t : Int32} (h : joinsB w t = true) : t = 303 ∨ t = 304 ∨ t = 60 ∨ t = 61 ∨ t = 43 ∨ t = 45 ∨ t = 42 := by
  match w, h with
  | 0, h => exact Or.inl (by simpa [joinsB] using h)
  | 1, h => exact Or.inr (Or.inl (by simpa [joinsB] using h))
  | 2, h =>
    have h : t = 60 ∨ t = 61 := by simpa [joinsB] using h
    exact Or.inr (Or.inr (h.elim Or.inl (fun h => Or.inr (Or.inl h))))
  | 3, h =>
    have h : t = 43 ∨ t = 45 := by simpa [joinsB] using h
    exact Or.inr (Or.inr (Or.inr (Or.inr (h.elim Or.inl (fun h => Or.inr (Or.inl h))))))
  | 4, h => exact Or.inr (Or.inr (Or.inr (Or.inr (Or.inr (Or.inr (by simpa [joinsB] using h))))))
  | n + 5, h => exact absurd h (by simp [joinsB])
theorem ne01 {t : Int32} (h : t = 303 ∨ t = 304 ∨ t = 60 ∨ t = 61 ∨ t = 43 ∨ t = 45 ∨ t = 42) : t ≠ 0 ∧ t ≠ 1 := by
  rcases h with h | h | h | h | h | h | h <;> subst h <;> decide
section
variable {b : Nat → Int32} {sz t : Nat} {e : Nat → Int32}
theorem g_loop (hb : ByteOK b sz) {w o : Nat} (hw : w < 5) {At : Sg → Option (Int32 × Sg)} {Lp : Nat → Int32 → Sg → Option (Int32 × Sg)} (hA : MSA b sz t e At (w + 1) o)
    (stop : ∀ n v a σ, J b sz t a o σ → joinsB w (tk b a) = false → Lp (n + 1) v σ = some (v, σ))
    (step : ∀ n v a σ, J b sz t a o σ → joinsB w (tk b a) = true → Lp (n + 1) v σ = (M_next σ).bind fun σ2 => (At σ2).bind fun q => Lp n (tp_j (tk b a) v q.1) q.2)
    (badq : ∀ n v a σ, BD b a σ → Lp (n + 1) v σ = some (v, σ))
    {n' : Nat} (hn' : 6 * (5 - o) + (5 - (w + 1)) < n') {σ0 : Sg} {a0 : Nat} : ∀ m n v L a σ, J b sz t a o σ → EM e σ → Ev e (nd w o) L v → 160 ≤ a + m → m < n → a0 < a → Fr SM σ0 σ → wp (Lp n v σ) (mQ b sz t o (nd w o) e σ0 a0 (spL b (sp b n') w o m L a)) := by
  intro m
  induction m with
  | zero =>
    intro n v L a σ hJ hE hv hm hn ha hf
    obtain ⟨n, rfl⟩ : ∃ n', n = n' + 1 := ⟨n - 1, by omega⟩
    have hj : joinsB w (tk b a) = false := by
      cases q : joinsB w (tk b a) with
      | false => rfl
      | true => exact absurd (tk_lt hb (joinsB_n0 q)) (by omega)
    rw [stop n v a σ hJ hj]
    exact wp_some ⟨hf, hJ, hv, ha⟩
  | succ m ih =>
    intro n v L a σ hJ hE hv hm hn ha hf
    obtain ⟨n, rfl⟩ : ∃ n', n = n' + 1 := ⟨n - 1, by omega⟩
    unfold spL
    cases hj : joinsB w (tk b a) with
    | false =>
      rw [stop n v a σ hJ hj, if_neg (by decide)]
      exact wp_some ⟨hf, hJ, hv, ha⟩
    | true =>
      have ht := joinsB_t hj
      obtain ⟨t0, t1⟩ := ne01 ht
      obtain ⟨σ1, e1, j1, f1⟩ := s_nextJ hb hJ t0 t1
      rw [step n v a σ hJ hj, if_pos rfl, e1]
      simp only [Option.bind_some]
      refine wp_bind (hA n' hn' (a + 1) σ1 j1 (hE.fr f1)) ?_
      rintro ⟨r, σ2⟩ ⟨f2, k⟩
      have f3 : Fr SM σ0 σ2 := (hf.tr f1).tr f2
      revert k
      generalize sp b n' (w + 1) o (a + 1) = s
      intro k
      match s, k with
      | (none, a'), k =>
        obtain ⟨n, rfl⟩ : ∃ n', n = n' + 1 := ⟨n - 1, by omega⟩
        rw [badq n _ a' σ2 k]
        exact wp_some ⟨f3, k⟩
      | (some L', a'), k =>
        obtain ⟨k1, k2, k3⟩ := k
        exact ih n _ _ a' σ2 k1 ((hE.fr f1).fr f2) (Ev_bin hv k2 (Nat.le_refl _) (by unfold nd; omega) ht) (by omega) (by omega) (by omega) f3
theorem g_level (hb : ByteOK b sz) {w o : Nat} (hw : w < 5) (hw2 : w ≠ 2) {At T : Sg → Option (Int32 × Sg)} {Lp : Nat → Int32 → Sg → Option (Int32 × Sg)} (hA : MSA b sz t e At (w + 1) o)
    (hT : ∀ σ, T σ = (At σ).bind fun q => Lp FU q.1 q.2)
    (stop : ∀ n v a σ, J b sz t a o σ → joinsB w (tk b a) = false → Lp (n + 1) v σ = some (v, σ))
    (step : ∀ n v a σ, J b sz t a o σ → joinsB w (tk b a) = true → Lp (n + 1) v σ = (M_next σ).bind fun σ2 => (At σ2).bind fun q => Lp n (tp_j (tk b a) v q.1) q.2)
    (badq : ∀ n v a σ, BD b a σ → Lp (n + 1) v σ = some (v, σ)) : MSA b sz t e T w o := by
  intro n hn a σ hJ hE
  obtain ⟨n, rfl⟩ : ∃ n', n = n' + 1 := ⟨n - 1, by omega⟩
  show wp (T σ) (mQ b sz t o (nd w o) e σ a (spB b (sp b n) w o a))
  unfold spB
  rw [if_pos hw, if_neg (fun h => hw2 h.1), hT]
  unfold spJ
  refine wp_bind (hA n (by omega) a σ hJ hE) ?_
  rintro ⟨r, σ2⟩ ⟨f2, k⟩
  have f2 : Fr SM σ σ2 := f2
  revert k
  generalize sp b n (w + 1) o a = s
  intro k
  match s, k with
  | (none, a'), k =>
    obtain ⟨m, hm⟩ : ∃ m, FU = m + 1 := ⟨999, FU_eq⟩
    rw [hm, badq m r a' σ2 k]
    exact wp_some ⟨f2, k⟩
  | (some L, a'), k =>
    obtain ⟨k1, k2, k3⟩ := k
    simp only [if_neg hw2]
    exact g_loop hb hw hA stop step badq (by omega) 160 FU r L a' σ2 k1 (hE.fr f2) (Ev.mono k2 (by unfold nd; omega)) (by omega) (by rw [FU_eq]; omega) k3 f2
theorem g_term (hb : ByteOK b sz) {o : Nat} {At T : Sg → Option (Int32 × Sg)} {Lp : Nat → Int32 → Sg → Option (Int32 × Sg)} (hA : MSA b sz t e At 5 o)
    (hT : ∀ σ, T σ = (At σ).bind fun q => Lp FU q.1 q.2)
    (hL : ∀ n v σ, Lp (n + 1) v σ = (M_isSign 42 σ).bind fun q1 => if q1.1 = 0 then some (v, q1.2) else (M_next q1.2).bind fun σ2 => (At σ2).bind fun q3 => Lp n (v * q3.1) q3.2) : MSA b sz t e T 4 o := by
  refine g_level hb (by omega) (by omega) hA hT ?_ ?_ ?_
  · intro n v a σ hJ hj
    have h : ¬ tk b a = 42 := fun q => by rw [q] at hj; revert hj; decide
    rw [hL, s_MisSign hJ (by decide), if_neg h]
    rfl
  · intro n v a σ hJ hj
    have h : tk b a = 42 := by simpa [joinsB] using hj
    rw [hL, s_MisSign hJ (by decide), if_pos h, h]
    rfl
  · intro n v a σ hB
    rw [hL, bad_isSign hB]
    rfl
theorem J_worth {a o : Nat} {σ : Sg} (h : J b sz t a o σ) (hs : signB (tk b a) = true) : σ 30 0 22 = tk b a := by
  obtain ⟨hM, h24, h23, h21, hK⟩ := h
  have ncd : ∀ k, k < 12 → signB (cd k) = false := by decide
  unfold KT at hK
  rcases tok_cases b a with ⟨c0, ct⟩ | ⟨c0, c1, ct, cx⟩ | ⟨c0, c1, c2, ct⟩ | ⟨c0, c1, c2, c3, ct⟩ | ⟨c0, c1, c2, c3, ct⟩
  · rw [ct] at hs; exact absurd hs (by decide)
  · rw [ct] at hs
    rcases wcode_or b (ps b a) (ru letB b 160 (ps b a)) with q | ⟨k, hk, q⟩
    · rw [q] at hs; exact absurd hs (by decide)
    · rw [q, ncd k hk] at hs; cases hs
  · rw [ct] at hs
    split at hs
    · exact absurd hs (by decide)
    · exact absurd hs (by decide)
  · rw [if_neg c0, if_neg (by rw [c1]; decide), if_neg (by rw [c2]; decide), if_pos c3] at hK
    rw [hK.2.2, ct]
  · rw [ct] at hs; exact absurd hs (by decide)
theorem g_added (hb : ByteOK b sz) {o : Nat} {At T : Sg → Option (Int32 × Sg)} {Lp : Nat → Int32 → Sg → Option (Int32 × Sg)} (hA : MSA b sz t e At 4 o)
    (hT : ∀ σ, T σ = (At σ).bind fun q => Lp FU q.1 q.2)
    (hL : ∀ n v σ, Lp (n + 1) v σ = (M_isSign 43 σ).bind fun q3 => if q3.1 = 0 then (M_isSign 45 q3.2).bind fun q4 => if q4.1 = 0 then some (v, q4.2)
      else (if lg_cmp (q4.2 30 0 22).toInt64 43 = 0 then (M_next q4.2).bind fun σ1 => (At σ1).bind fun q2 => Lp n (v + q2.1) q2.2 else (M_next q4.2).bind fun σ1 => (At σ1).bind fun q2 => Lp n (v - q2.1) q2.2)
      else (if lg_cmp (q3.2 30 0 22).toInt64 43 = 0 then (M_next q3.2).bind fun σ1 => (At σ1).bind fun q2 => Lp n (v + q2.1) q2.2 else (M_next q3.2).bind fun σ1 => (At σ1).bind fun q2 => Lp n (v - q2.1) q2.2)) : MSA b sz t e T 3 o := by
  refine g_level hb (by omega) (by omega) hA hT ?_ ?_ ?_
  · intro n v a σ hJ hj
    have h : ¬ tk b a = 43 := fun q => by rw [q] at hj; revert hj; decide
    have h2 : ¬ tk b a = 45 := fun q => by rw [q] at hj; revert hj; decide
    rw [hL, s_MisSign hJ (by decide), if_neg h]
    simp only [Option.bind_some, if_true]
    rw [s_MisSign hJ (by decide), if_neg h2]
    rfl
  · intro n v a σ hJ hj
    rw [hL, s_MisSign hJ (by decide)]
    simp only [Option.bind_some]
    by_cases h : tk b a = 43
    · have hw := J_worth hJ (by rw [h]; decide)
      rw [h] at hw
      simp only [if_pos h]
      rw [if_neg (show ¬ (1 : Int32) = 0 by decide), hw, show (43 : Int64) = (43 : Int32).toInt64 from rfl, if_pos ((lg_cmp_eq _ _).mpr rfl), h]
      rfl
    · have h2 : tk b a = 45 := by
        have : tk b a = 43 ∨ tk b a = 45 := by simpa [joinsB] using hj
        exact this.resolve_left h
      have hw := J_worth hJ (by rw [h2]; decide)
      rw [h2] at hw
      simp only [if_neg h, if_true]
      rw [s_MisSign hJ (by decide)]
      simp only [Option.bind_some, if_pos h2]
      rw [if_neg (show ¬ (1 : Int32) = 0 by decide), hw, show (43 : Int64) = (43 : Int32).toInt64 from rfl, if_neg (fun q => by
        rw [lg_cmp_eq, eq64] at q
        revert q; decide), h2]
      rfl
  · intro n v a σ hB
    rw [hL, bad_isSign hB]
    simp only [Option.bind_some, if_true]
    rw [bad_isSign hB]
    rfl
theorem g_both (hb : ByteOK b sz) {o : Nat} {At T : Sg → Option (Int32 × Sg)} {Lp : Nat → Int32 → Sg → Option (Int32 × Sg)} (hA : MSA b sz t e At 2 o)
    (hT : ∀ σ, T σ = (At σ).bind fun q => Lp FU q.1 q.2)
    (hL : ∀ n v σ, Lp (n + 1) v σ = (M_isWord 97 110 100 0 0 0 0 0 σ).bind fun q1 => if q1.1 = 0 then some (v, q1.2) else (M_next q1.2).bind fun σ2 => (At σ2).bind fun q3 => if v = 0 then Lp n 0 q3.2 else if q3.1 = 0 then Lp n 0 q3.2 else Lp n 1 q3.2) : MSA b sz t e T 1 o := by
  refine g_level hb (by omega) (by omega) hA hT ?_ ?_ ?_
  · intro n v a σ hJ hj
    have h : ¬ tk b a = 304 := fun q => by rw [q] at hj; revert hj; decide
    rw [hL, show M_isWord 97 110 100 0 0 0 0 0 σ = some (if tk b a = 304 then 1 else 0, σ) from s_MisWord hb hJ (k := 4) (by omega), if_neg h]
    rfl
  · intro n v a σ hJ hj
    have h : tk b a = 304 := by simpa [joinsB] using hj
    rw [hL, show M_isWord 97 110 100 0 0 0 0 0 σ = some (if tk b a = 304 then 1 else 0, σ) from s_MisWord hb hJ (k := 4) (by omega), if_pos h, h]
    simp only [Option.bind_some]
    rw [if_neg (show ¬ (1 : Int32) = 0 by decide)]
    congr 1
    funext σ2
    congr 1
    funext q3
    show _ = Lp n (if v = 0 then 0 else if q3.1 = 0 then 0 else 1) q3.2
    by_cases c : v = 0
    · rw [if_pos c, if_pos c]
    · rw [if_neg c, if_neg c]
      by_cases d : q3.1 = 0
      · rw [if_pos d, if_pos d]
      · rw [if_neg d, if_neg d]
  · intro n v a σ hB
    rw [hL, bad_isWord hB]
    rfl
theorem g_either (hb : ByteOK b sz) {o : Nat} {At T : Sg → Option (Int32 × Sg)} {Lp : Nat → Int32 → Sg → Option (Int32 × Sg)} (hA : MSA b sz t e At 1 o)
    (hT : ∀ σ, T σ = (At σ).bind fun q => Lp FU q.1 q.2)
    (hL : ∀ n v σ, Lp (n + 1) v σ = (M_isWord 111 114 0 0 0 0 0 0 σ).bind fun q1 => if q1.1 = 0 then some (v, q1.2) else (M_next q1.2).bind fun σ2 => (At σ2).bind fun q3 => if v = 0 then (if q3.1 = 0 then Lp n 0 q3.2 else Lp n 1 q3.2) else Lp n 1 q3.2) : MSA b sz t e T 0 o := by
  refine g_level hb (by omega) (by omega) hA hT ?_ ?_ ?_
  · intro n v a σ hJ hj
    have h : ¬ tk b a = 303 := fun q => by rw [q] at hj; revert hj; decide
    rw [hL, show M_isWord 111 114 0 0 0 0 0 0 σ = some (if tk b a = 303 then 1 else 0, σ) from s_MisWord hb hJ (k := 3) (by omega), if_neg h]
    rfl
  · intro n v a σ hJ hj
    have h : tk b a = 303 := by simpa [joinsB] using hj
    rw [hL, show M_isWord 111 114 0 0 0 0 0 0 σ = some (if tk b a = 303 then 1 else 0, σ) from s_MisWord hb hJ (k := 3) (by omega), if_pos h, h]
    simp only [Option.bind_some]
    rw [if_neg (show ¬ (1 : Int32) = 0 by decide)]
    congr 1
    funext σ2
    congr 1
    funext q3
    show _ = Lp n (if v = 0 then if q3.1 = 0 then 0 else 1 else 1) q3.2
    by_cases c : v = 0
    · rw [if_pos c, if_pos c]
      by_cases d : q3.1 = 0
      · rw [if_pos d, if_pos d]
      · rw [if_neg d, if_neg d]
    · rw [if_neg c, if_neg c]
  · intro n v a σ hB
    rw [hL, bad_isWord hB]
    rfl
end
