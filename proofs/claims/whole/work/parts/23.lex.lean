/-! a small calculus: what an answer satisfies; what may differ between two states; bytes read as tokens (the class's side) -/
def wp {α : Type} (o : Option α) (Q : α → Prop) : Prop := ∃ a, o = some a ∧ Q a
theorem wp_some {α : Type} {a : α} {Q : α → Prop} (h : Q a) : wp (some a) Q := ⟨a, rfl, h⟩
theorem wp_bind {α β : Type} {o : Option α} {f : α → Option β} {P : α → Prop} {Q : β → Prop} (h : wp o P) (k : ∀ a, P a → wp (f a) Q) : wp (o.bind f) Q := by
  obtain ⟨a, rfl, ha⟩ := h
  exact k a ha
theorem wp_mono {α : Type} {o : Option α} {P Q : α → Prop} (h : wp o P) (k : ∀ a, P a → Q a) : wp o Q := by
  obtain ⟨a, rfl, ha⟩ := h
  exact ⟨a, rfl, k a ha⟩
theorem wp_eq {α : Type} {o o' : Option α} {Q : α → Prop} (e : o = o') (h : wp o' Q) : wp o Q := e ▸ h
def Fr (S : Nat → Nat → Nat → Prop) (σ σ' : Sg) : Prop := ∀ g a j, ¬ S g a j → σ' g a j = σ g a j
theorem Fr.rf {S : Nat → Nat → Nat → Prop} {σ : Sg} : Fr S σ σ := fun _ _ _ _ => rfl
theorem Fr.tr {S : Nat → Nat → Nat → Prop} {σ σ1 σ2 : Sg} (h : Fr S σ σ1) (h2 : Fr S σ1 σ2) : Fr S σ σ2 := fun g a j q => (h2 g a j q).trans (h g a j q)
theorem Fr.mo {S T : Nat → Nat → Nat → Prop} {σ σ' : Sg} (h : Fr S σ σ') (k : ∀ g a j, S g a j → T g a j) : Fr T σ σ' := fun g a j q => h g a j fun p => q (k g a j p)
theorem Fr.up {S : Nat → Nat → Nat → Prop} {σ σ1 : Sg} {g a j : Nat} {x : Int32} (h : Fr S σ σ1) (k : S g a j) : Fr S σ (upd3 σ1 g a j x) := fun g' a' j' q => by
  have : ¬ (g' = g ∧ a' = a ∧ j' = j) := fun e => q (by rw [e.1, e.2.1, e.2.2]; exact k)
  simp only [upd3, if_neg this]
  exact h g' a' j' q
theorem u3s (σ : Sg) (g i j : Nat) (x : Int32) : upd3 σ g i j x g i j = x := by simp [upd3]
theorem u3n (σ : Sg) (g i j : Nat) (x : Int32) {g' i' j' : Nat} (h : ¬ (g' = g ∧ i' = i ∧ j' = j)) : upd3 σ g i j x g' i' j' = σ g' i' j' := by simp only [upd3, if_neg h]
def blankB (x : Int32) : Bool := x == 32 || x == 10
def letB (x : Int32) : Bool := decide (¬ x < 97) && decide (¬ 122 < x)
def digB (x : Int32) : Bool := decide (¬ x < 48) && decide (¬ 57 < x)
def signB (x : Int32) : Bool := x == 40 || x == 41 || x == 42 || x == 43 || x == 45 || x == 59 || x == 60 || x == 61
def ru (P : Int32 → Bool) (b : Nat → Int32) : Nat → Nat → Nat
  | 0, p => p
  | n + 1, p => if P (b p) then ru P b n (p + 1) else p
def ByteOK (b : Nat → Int32) (sz : Nat) : Prop := sz ≤ 160 ∧ (∀ p, sz ≤ p → b p = -1) ∧ ∀ p, p < sz → ∃ k, k < 256 ∧ b p = nI k
theorem ru_ge (P : Int32 → Bool) (b : Nat → Int32) : ∀ n p, p ≤ ru P b n p := by
  intro n
  induction n with
  | zero => intro p; exact Nat.le_refl p
  | succ n ih =>
    intro p
    unfold ru
    split
    · exact Nat.le_of_succ_le (ih (p + 1))
    · exact Nat.le_refl p
theorem ru_le {P : Int32 → Bool} {b : Nat → Int32} {sz : Nat} (h : ∀ p, sz ≤ p → P (b p) = false) : ∀ n p, p ≤ sz → ru P b n p ≤ sz := by
  intro n
  induction n with
  | zero => intro p hp; exact hp
  | succ n ih =>
    intro p hp
    unfold ru
    split
    · rename_i q
      have : p < sz := Nat.lt_of_not_le fun e => by rw [h p e] at q; cases q
      exact ih (p + 1) this
    · exact hp
theorem ru_stop {P : Int32 → Bool} {b : Nat → Int32} {sz : Nat} (h : ∀ p, sz ≤ p → P (b p) = false) : ∀ n p, sz ≤ p + n → P (b (ru P b n p)) = false := by
  intro n
  induction n with
  | zero => intro p hp; exact h p hp
  | succ n ih =>
    intro p hp
    unfold ru
    split
    · exact ih (p + 1) (by omega)
    · rename_i q; simpa using q
theorem ru_in {P : Int32 → Bool} {b : Nat → Int32} : ∀ n p k, p ≤ k → k < ru P b n p → P (b k) = true := by
  intro n
  induction n with
  | zero => intro p k h1 h2; unfold ru at h2; omega
  | succ n ih =>
    intro p k h1 h2
    unfold ru at h2
    split at h2
    · rename_i q
      by_cases e : k = p
      · rw [e]; exact q
      · exact ih (p + 1) k (by omega) h2
    · omega
/-- the number that up to m digits give behind a -/
def nuS (b : Nat → Int32) : Nat → Nat → Int32 → Int32
  | 0, _, a => a
  | m + 1, p, a => if digB (b p) then nuS b m (p + 1) (10 * a + b p - 48) else a
abbrev wordI (b : Nat → Int32) (p q k : Nat) : Prop := q = p + (ab_word k).length ∧ ∀ i, i < (ab_word k).length → b (p + i) = nI (ab_nth 0 (ab_word k) i)
def cd (k : Nat) : Int32 := ab_nth 1 [300, 301, 302, 303, 304, 305, 310, 311, 312, 313, 314, 315] k
def wsr (b : Nat → Int32) (p q : Nat) : List Nat → Int32
  | [] => 1
  | k :: r => if wordI b p q k then cd k else wsr b p q r
def wcode (b : Nat → Int32) (p q : Nat) : Int32 := wsr b p q [0, 1, 2, 3, 4, 5, 6, 7, 8, 9, 10, 11]
/-- the token that begins at p, where no blank is -/
def tok (b : Nat → Int32) (p : Nat) : Int32 :=
  if b p < 0 then 0 else if letB (b p) then wcode b p (ru letB b 160 p) else if digB (b p) then (if 4 < ru digB b 160 p - p then 1 else 2) else if signB (b p) then b p else 1
/-- where it ends -/
def nxt (b : Nat → Int32) (p : Nat) : Nat :=
  if b p < 0 then p else if letB (b p) then ru letB b 160 p else if digB (b p) then ru digB b 160 p else p + 1
def nbl (b : Nat → Int32) (p : Nat) : Nat := ru blankB b 160 p
/-- where token i begins -/
def ps (b : Nat → Int32) : Nat → Nat
  | 0 => nbl b 0
  | i + 1 => nbl b (nxt b (ps b i))
def tk (b : Nat → Int32) (i : Nat) : Int32 := tok b (ps b i)
def nu (b : Nat → Int32) (i : Nat) : Int32 := nuS b 4 (ps b i) 0
theorem wordI_inj {b : Nat → Int32} {p q k j : Nat} (hk : k < 12) (hj : j < 12) (h1 : wordI b p q k) (h2 : wordI b p q j) : k = j := by
  have key : ∀ k, k < 12 → ∀ j, j < 12 → (ab_word k).length = (ab_word j).length → ab_nth 0 (ab_word k) 0 = ab_nth 0 (ab_word j) 0 → k = j := by decide
  have pos : ∀ k, k < 12 → 0 < (ab_word k).length ∧ ab_nth 0 (ab_word k) 0 < 256 := by decide
  refine key k hk j hj (by have := h1.1; have := h2.1; omega) ?_
  have e1 := h1.2 0 (pos k hk).1
  have e2 := h2.2 0 (pos j hj).1
  rw [e1] at e2
  have p1 := (pos k hk).2
  have p2 := (pos j hj).2
  rw [na_eq (by omega) (by omega)] at e2
  exact e2
theorem wsr_some {b : Nat → Int32} {p q k : Nat} : ∀ l : List Nat, (∀ j ∈ l, j < 12) → k < 12 → k ∈ l → (wsr b p q l = cd k ↔ wordI b p q k) := by
  have cinj : ∀ k, k < 12 → ∀ j, j < 12 → cd k = cd j → k = j := by decide
  have c1 : ∀ k, k < 12 → ¬ (1 : Int32) = cd k := by decide
  intro l
  induction l with
  | nil => intro _ _ h; cases h
  | cons j r ih =>
    intro hl hk hm
    unfold wsr
    by_cases hw : wordI b p q j
    · rw [if_pos hw]
      constructor
      · intro e
        have := cinj j (hl j List.mem_cons_self) k hk e
        rw [← this]; exact hw
      · intro e
        rw [wordI_inj hk (hl j List.mem_cons_self) e hw]
    · rw [if_neg hw]
      rcases List.mem_cons.mp hm with e | e
      · subst e
        have h1 : ∀ l : List Nat, (∀ j ∈ l, j < 12) → k ∉ l → ¬ wsr b p q l = cd k := by
          intro l
          induction l with
          | nil => intro _ _; unfold wsr; exact c1 k hk
          | cons a t ih2 =>
            intro ha hn
            unfold wsr
            split
            · intro e
              exact hn (by rw [cinj a (ha a List.mem_cons_self) k hk e]; exact List.mem_cons_self)
            · exact ih2 (fun j hj => ha j (List.mem_cons_of_mem _ hj)) (fun q => hn (List.mem_cons_of_mem _ q))
        by_cases hr : k ∈ r
        · exact ih (fun j hj => hl j (List.mem_cons_of_mem _ hj)) hk hr
        · exact ⟨fun e => absurd e (h1 r (fun j hj => hl j (List.mem_cons_of_mem _ hj)) hr), fun e => absurd e hw⟩
      · exact ih (fun j hj => hl j (List.mem_cons_of_mem _ hj)) hk e
theorem wcode_iff {b : Nat → Int32} {p q k : Nat} (hk : k < 12) : wcode b p q = cd k ↔ wordI b p q k := by
  refine wsr_some _ (by decide) hk ?_
  revert hk; revert k; decide
theorem b_no {b : Nat → Int32} {sz : Nat} (hb : ByteOK b sz) {P : Int32 → Bool} (h : P (-1) = false) : ∀ p, sz ≤ p → P (b p) = false := fun p hp => by rw [hb.2.1 p hp]; exact h
theorem ps_le {b : Nat → Int32} {sz : Nat} (hb : ByteOK b sz) : ∀ i, ps b i ≤ sz := by
  intro i
  induction i with
  | zero => exact ru_le (b_no hb (by decide)) 160 0 (Nat.zero_le _)
  | succ i ih =>
    refine ru_le (b_no hb (by decide)) 160 _ ?_
    unfold nxt
    by_cases h0 : b (ps b i) < 0
    · rw [if_pos h0]; exact ih
    · rw [if_neg h0]
      have hlt : ps b i < sz := Nat.lt_of_not_le fun e => h0 (by rw [hb.2.1 _ e]; decide)
      split
      · exact ru_le (b_no hb (by decide)) 160 _ ih
      · split
        · exact ru_le (b_no hb (by decide)) 160 _ ih
        · exact hlt
theorem ps_nb {b : Nat → Int32} {sz : Nat} (hb : ByteOK b sz) : ∀ i, blankB (b (ps b i)) = false := by
  intro i
  cases i with
  | zero => exact ru_stop (b_no hb (by decide)) 160 0 (by have := hb.1; omega)
  | succ i => exact ru_stop (b_no hb (by decide)) 160 _ (by have := hb.1; omega)
/-- the words' codes are no 0 -/
theorem wsr_n0 {b : Nat → Int32} {p q : Nat} : ∀ l : List Nat, (∀ j ∈ l, j < 12) → wsr b p q l = 1 ∨ ∃ k, k < 12 ∧ wsr b p q l = cd k := by
  intro l
  induction l with
  | nil => intro _; exact Or.inl rfl
  | cons a t ih =>
    intro h
    unfold wsr
    split
    · exact Or.inr ⟨a, h a List.mem_cons_self, rfl⟩
    · exact ih fun j hj => h j (List.mem_cons_of_mem _ hj)
theorem wcode_or (b : Nat → Int32) (p q : Nat) : wcode b p q = 1 ∨ ∃ k, k < 12 ∧ wcode b p q = cd k := wsr_n0 _ (by decide)
theorem tok_0 {b : Nat → Int32} {p : Nat} (h : tok b p = 0) : b p < 0 := by
  have c0 : ∀ k, k < 12 → ¬ cd k = 0 := by decide
  refine Decidable.byContradiction fun h0 => ?_
  unfold tok at h
  rw [if_neg h0] at h
  split at h
  · rcases wcode_or b p (ru letB b 160 p) with e | ⟨k, hk, e⟩
    · rw [e] at h; revert h; decide
    · rw [e] at h; exact c0 k hk h
  · split at h
    · split at h
      · revert h; decide
      · revert h; decide
    · split at h
      · rename_i q
        rw [h] at q
        revert q; decide
      · revert h; decide
theorem nxt_gt {b : Nat → Int32} {p : Nat} (h : ¬ b p < 0) : p < nxt b p := by
  unfold nxt
  rw [if_neg h]
  split
  · rename_i q
    have : ru letB b 160 p = ru letB b 159 (p + 1) := by show (if letB (b p) then ru letB b 159 (p + 1) else p) = _; rw [if_pos q]
    rw [this]
    exact ru_ge letB b 159 (p + 1)
  · split
    · rename_i q
      have : ru digB b 160 p = ru digB b 159 (p + 1) := by show (if digB (b p) then ru digB b 159 (p + 1) else p) = _; rw [if_pos q]
      rw [this]
      exact ru_ge digB b 159 (p + 1)
    · exact Nat.lt_succ_self p
theorem tk_nz {b : Nat → Int32} {i : Nat} (h : tk b i ≠ 0) : ¬ b (ps b i) < 0 := fun e => h (by unfold tk tok; rw [if_pos e])
theorem ps_gt {b : Nat → Int32} {i : Nat} (h : tk b i ≠ 0) : ps b i < ps b (i + 1) := Nat.lt_of_lt_of_le (nxt_gt (tk_nz h)) (ru_ge blankB b 160 _)
/-- behind the end stands the end -/
theorem tk_end {b : Nat → Int32} {sz : Nat} (hb : ByteOK b sz) {i : Nat} (h : tk b i = 0) : ∀ d, tk b (i + d) = 0 ∧ ps b (i + d) = sz := by
  have h0 : ps b i = sz := by
    have h1 := tok_0 h
    have h2 := ps_le hb i
    refine Nat.le_antisymm h2 (Nat.le_of_not_lt fun q => ?_)
    obtain ⟨k, hk, e⟩ := hb.2.2 _ q
    rw [e] at h1
    exact nI_pos (by omega) h1
  have hm : b sz = -1 := hb.2.1 sz (Nat.le_refl _)
  intro d
  induction d with
  | zero => exact ⟨h, h0⟩
  | succ d ih =>
    have e : ps b (i + (d + 1)) = sz := by
      show nbl b (nxt b (ps b (i + d))) = sz
      rw [ih.2]
      have : nxt b sz = sz := by unfold nxt; rw [hm, if_pos (by decide)]
      rw [this]
      show (if blankB (b sz) then ru blankB b 159 (sz + 1) else sz) = sz
      rw [hm, if_neg (by decide)]
    refine ⟨?_, e⟩
    unfold tk tok
    rw [e, hm, if_pos (by decide)]
theorem tk_far {b : Nat → Int32} {sz : Nat} (hb : ByteOK b sz) : ∀ i, tk b i ≠ 0 → i ≤ ps b i ∧ ∀ k, k ≤ i → tk b k ≠ 0 := by
  intro i h
  have h2 : ∀ k, k ≤ i → tk b k ≠ 0 := fun k hk e => h (by have := (tk_end hb e (i - k)).1; rwa [show k + (i - k) = i by omega] at this)
  refine ⟨?_, h2⟩
  have : ∀ k, k ≤ i → k ≤ ps b k := by
    intro k
    induction k with
    | zero => intro _; exact Nat.zero_le _
    | succ k ih =>
      intro hk
      have h3 := ps_gt (h2 k (by omega))
      have h4 := ih (by omega)
      omega
  exact this i (Nat.le_refl i)
theorem tk_lt {b : Nat → Int32} {sz : Nat} (hb : ByteOK b sz) {i : Nat} (h : tk b i ≠ 0) : i < 160 := by
  have h1 := (tk_far hb i h).1
  have h2 := tk_nz h
  have h3 : ps b i < sz := Nat.lt_of_not_le fun e => h2 (by rw [hb.2.1 _ e]; decide)
  have := hb.1
  omega
