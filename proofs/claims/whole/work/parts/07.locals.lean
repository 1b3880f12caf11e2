/-! each step of the abstract machine is the real one's -/
theorem ab_nth_lt {L : List AV} : ∀ {i : Nat}, ab_nth vU L i ≠ vU → i < L.length := by
  induction L with
  | nil => intro i h; exact absurd (by cases i <;> rfl) h
  | cons a r ih =>
    intro i h
    cases i with
    | zero => simp
    | succ i => simp only [List.length_cons]; exact Nat.succ_lt_succ (ih h)
theorem ab_nth_mem {L : List AV} : ∀ {i : Nat}, i < L.length → ab_nth vU L i ∈ L := by
  induction L with
  | nil => intro i h; simp at h
  | cons a r ih =>
    intro i h
    cases i with
    | zero => simp [ab_nth]
    | succ i => exact List.mem_cons_of_mem _ (ih (Nat.lt_of_succ_lt_succ h))
theorem ab_set_len (L : List AV) : ∀ (i : Nat) (v : AV), (ab_set L i v).length = L.length := by
  induction L with
  | nil => intro i v; cases i <;> rfl
  | cons a r ih =>
    intro i v
    cases i with
    | zero => rfl
    | succ i => simp [ab_set, ih]
theorem ab_set_at (L : List AV) : ∀ (i : Nat) (v : AV) (j : Nat), ab_nth vU (ab_set L i v) j = if j = i ∧ i < L.length then v else ab_nth vU L j := by
  induction L with
  | nil => intro i v j; cases i <;> cases j <;> simp [ab_set, ab_nth]
  | cons a r ih =>
    intro i v j
    cases i with
    | zero => cases j <;> simp [ab_set, ab_nth]
    | succ i => cases j <;> simp [ab_set, ab_nth, ih]
theorem ab_set_mem {L : List AV} : ∀ {i : Nat} {v x : AV}, x ∈ ab_set L i v → x = v ∨ x ∈ L := by
  induction L with
  | nil => intro i v x h; cases i <;> simp [ab_set] at h
  | cons a r ih =>
    intro i v x h
    cases i with
    | zero =>
      rcases List.mem_cons.mp h with h | h
      · exact Or.inl h
      · exact Or.inr (List.mem_cons_of_mem _ h)
    | succ i =>
      rcases List.mem_cons.mp h with h | h
      · exact Or.inr (by rw [h]; exact List.mem_cons_self)
      · rcases ih h with h | h
        · exact Or.inl h
        · exact Or.inr (List.mem_cons_of_mem _ h)
theorem ab_sto_len (L : List AV) (i : Nat) (v : AV) : (ab_sto L i v).length = L.length := by
  cases i <;> simp [ab_sto, ab_set_len]
theorem ab_un_ok {G : ab_Gt} {v : AV} (h : ab_ok G v) : ab_ok G (ab_un v) := by
  unfold ab_un
  split
  · trivial
  · exact h
theorem ab_nth_ok {G : ab_Gt} {L : List AV} (h : ∀ v ∈ L, ab_ok G v) (i : Nat) : ab_ok G (ab_nth vU L i) := by
  by_cases hi : ab_nth vU L i = vU
  · rw [hi]; trivial
  · exact h _ (ab_nth_mem (ab_nth_lt hi))
theorem ab_sto_ok {G : ab_Gt} {L : List AV} {i : Nat} {v : AV} (h : ∀ v ∈ L, ab_ok G v) (hv : ab_ok G v) : ∀ x ∈ ab_sto L i v, ab_ok G x := by
  intro x hx
  cases i with
  | zero =>
    rcases ab_set_mem hx with e | e
    · rw [e]; exact hv
    · exact h x e
  | succ i =>
    rcases ab_set_mem hx with e | e
    · rw [e]; exact hv
    · rcases ab_set_mem e with e | e
      · rw [e]; exact ab_un_ok (ab_nth_ok h i)
      · exact h x e
theorem ab_set_ok {G : ab_Gt} {L : List AV} {i : Nat} {v : AV} (h : ∀ v ∈ L, ab_ok G v) (hv : ab_ok G v) : ∀ x ∈ ab_set L i v, ab_ok G x := by
  intro x hx
  rcases ab_set_mem hx with e | e
  · rw [e]; exact hv
  · exact h x e
theorem ab_val_cat1 {G : ab_Gt} {v : AV} (h : ab_isL v = false) : (ab_val G v).category = 1 := by
  match v with
  | .inl x => rfl
  | .inr (.inl x) => cases h
  | .inr (.inr (.inl q)) => rfl
  | .inr (.inr (.inr _)) => rfl
theorem ab_un_eq {v : AV} (h : ab_un v ≠ vU) : ab_un v = v ∧ ab_isL v = false := by
  match v with
  | .inl x => exact ⟨rfl, rfl⟩
  | .inr (.inl x) => exact absurd rfl h
  | .inr (.inr (.inl q)) => exact ⟨rfl, rfl⟩
  | .inr (.inr (.inr _)) => exact ⟨rfl, rfl⟩
theorem ab_LH.lv {G : ab_Gt} {n : Nat} {ls : Array Slot} {L : List AV} (h : ab_LH G n ls L) : ∃ lv : List (Nat × Value), lv_has ls n lv ∧ ∀ i, ab_nth vU L i ≠ vU → (i, ab_val G (ab_nth vU L i)) ∈ lv := by
  obtain ⟨h1, h2, h3, h4⟩ := h
  refine ⟨(List.range n).filterMap (fun i => if ab_nth vU L i = vU then none else some (i, ab_val G (ab_nth vU L i))), ⟨h1, h3, fun q hq => ?_⟩, fun i hi => ?_⟩
  · obtain ⟨i, -, hi⟩ := List.mem_filterMap.mp hq
    by_cases hv : ab_nth vU L i = vU
    · rw [if_pos hv] at hi; cases hi
    · rw [if_neg hv] at hi
      cases hi
      exact h4 i hv
  · have := ab_nth_lt hi
    exact List.mem_filterMap.mpr ⟨i, List.mem_range.mpr (by omega), by rw [if_neg hi]⟩
theorem ab_LH.of {G : ab_Gt} {n : Nat} {ls : Array Slot} {L : List AV} {lv : List (Nat × Value)} (h : lv_has ls n lv) (hl : L.length = n) (hm : ∀ i, ab_nth vU L i ≠ vU → (i, ab_val G (ab_nth vU L i)) ∈ lv) : ab_LH G n ls L := ⟨h.1, hl, h.2.1, fun i hi => h.2.2 _ (hm i hi)⟩
theorem ab_LH.sto {G : ab_Gt} {n : Nat} {ls' : Array Slot} {L : List AV} {i : Nat} {v : AV} {lv : List (Nat × Value)} (hL : L.length = n) (hm : ∀ i, ab_nth vU L i ≠ vU → (i, ab_val G (ab_nth vU L i)) ∈ lv) (hi : i < n)
    (h' : lv_has ls' n ((i, ab_val G v) :: lv.filter (fun q => !(q.1 == i) && !(q.1 + 1 == i && q.2.category == 2)))) : ab_LH G n ls' (ab_sto L i v) := by
  refine ab_LH.of h' (by rw [ab_sto_len, hL]) fun j hj => ?_
  cases i with
  | zero =>
    unfold ab_sto at hj ⊢
    rw [ab_set_at] at hj ⊢
    by_cases e : j = 0
    · subst e
      rw [if_pos ⟨rfl, by omega⟩]
      exact List.mem_cons_self
    · have ne : ¬ (j = 0 ∧ 0 < L.length) := fun q => e q.1
      rw [if_neg ne] at hj ⊢
      refine List.mem_cons_of_mem _ (List.mem_filter.mpr ⟨hm j hj, ?_⟩)
      simp [e]
  | succ i =>
    unfold ab_sto at hj ⊢
    simp only [ab_set_at, ab_set_len] at hj ⊢
    by_cases e : j = i + 1
    · subst e
      rw [if_pos ⟨rfl, by omega⟩]
      exact List.mem_cons_self
    · have ne : ¬ (j = i + 1 ∧ i + 1 < L.length) := fun q => e q.1
      rw [if_neg ne] at hj ⊢
      by_cases e2 : j = i
      · subst e2
        have pe : j = j ∧ j < L.length := ⟨rfl, by omega⟩
        rw [if_pos pe] at hj ⊢
        obtain ⟨u1, u2⟩ := ab_un_eq hj
        rw [u1] at hj ⊢
        refine List.mem_cons_of_mem _ (List.mem_filter.mpr ⟨hm j hj, ?_⟩)
        simp [ab_val_cat1 u2]
      · have ne2 : ¬ (j = i ∧ i < L.length) := fun q => e2 q.1
        rw [if_neg ne2] at hj ⊢
        refine List.mem_cons_of_mem _ (List.mem_filter.mpr ⟨hm j hj, ?_⟩)
        simp [e, e2]
theorem ab_LH.set1 {G : ab_Gt} {n : Nat} {ls' : Array Slot} {L : List AV} {i : Nat} {v : AV} {lv : List (Nat × Value)} (hL : L.length = n) (hm : ∀ i, ab_nth vU L i ≠ vU → (i, ab_val G (ab_nth vU L i)) ∈ lv) (hi : i < n) (hx : ∃ x, ab_nth vU L i = vI x) (hpre : ∀ k x, k + 1 = i → ab_nth vU L k ≠ vL x)
    (h' : lv_has ls' n ((i, ab_val G v) :: lv.filter (fun q => !(q.1 == i) && !(q.1 + 1 == i && q.2.category == 2)))) : ab_LH G n ls' (ab_set L i v) := by
  refine ab_LH.of h' (by rw [ab_set_len, hL]) fun j hj => ?_
  rw [ab_set_at] at hj ⊢
  by_cases e : j = i
  · subst e
    rw [if_pos ⟨rfl, by omega⟩]
    exact List.mem_cons_self
  · have ne : ¬ (j = i ∧ i < L.length) := fun q => e q.1
    rw [if_neg ne] at hj ⊢
    refine List.mem_cons_of_mem _ (List.mem_filter.mpr ⟨hm j hj, ?_⟩)
    have hc : (j + 1 == i && (ab_val G (ab_nth vU L j)).category == 2) = false := by
      by_cases e2 : j + 1 = i
      · have : ab_isL (ab_nth vU L j) = false := by
          cases hv : ab_isL (ab_nth vU L j) with
          | false => rfl
          | true =>
            match hw : ab_nth vU L j with
            | .inl x => rw [hw] at hv; cases hv
            | .inr (.inl x) => exact absurd hw (hpre j x e2)
            | .inr (.inr (.inl q)) => rw [hw] at hv; cases hv
            | .inr (.inr (.inr _)) => rw [hw] at hv; cases hv
        simp [ab_val_cat1 this]
      · simp [e2]
    simp [e, hc]
theorem ab_LH.long {G : ab_Gt} {n : Nat} {ls' : Array Slot} {L : List AV} {i : Nat} {x : Int64} {lv : List (Nat × Value)} (hL : L.length = n) (hm : ∀ i, ab_nth vU L i ≠ vU → (i, ab_val G (ab_nth vU L i)) ∈ lv) (hi : i + 1 < n)
    (h' : lv_has ls' n ((i, Value.long x) :: lv.filter (fun q => !(q.1 == i) && (!(q.1 == i + 1) && !(q.1 + 1 == i && q.2.category == 2))))) : ab_LH G n ls' (ab_set (ab_sto L i (vL x)) (i + 1) vU) := by
  refine ab_LH.of h' (by rw [ab_set_len, ab_sto_len, hL]) fun j hj => ?_
  rw [ab_set_at] at hj ⊢
  rw [ab_sto_len] at hj ⊢
  by_cases e1 : j = i + 1
  · rw [if_pos ⟨e1, by omega⟩] at hj
    exact absurd rfl hj
  · have ne : ¬ (j = i + 1 ∧ i + 1 < L.length) := fun q => e1 q.1
    rw [if_neg ne] at hj ⊢
    cases i with
    | zero =>
      unfold ab_sto at hj ⊢
      rw [ab_set_at] at hj ⊢
      by_cases e : j = 0
      · subst e
        rw [if_pos ⟨rfl, by omega⟩]
        exact List.mem_cons_self
      · have ne : ¬ (j = 0 ∧ 0 < L.length) := fun q => e q.1
        rw [if_neg ne] at hj ⊢
        refine List.mem_cons_of_mem _ (List.mem_filter.mpr ⟨hm j hj, ?_⟩)
        have e1' : ¬ j = 1 := e1
        simp [e, e1']
    | succ i =>
      unfold ab_sto at hj ⊢
      simp only [ab_set_at, ab_set_len] at hj ⊢
      by_cases e : j = i + 1
      · subst e
        rw [if_pos ⟨rfl, by omega⟩]
        exact List.mem_cons_self
      · have ne : ¬ (j = i + 1 ∧ i + 1 < L.length) := fun q => e q.1
        rw [if_neg ne] at hj ⊢
        by_cases e2 : j = i
        · subst e2
          have pe : j = j ∧ j < L.length := ⟨rfl, by omega⟩
          rw [if_pos pe] at hj ⊢
          obtain ⟨u1, u2⟩ := ab_un_eq hj
          rw [u1] at hj ⊢
          refine List.mem_cons_of_mem _ (List.mem_filter.mpr ⟨hm j hj, ?_⟩)
          simp [ab_val_cat1 u2]
          omega
        · have ne2 : ¬ (j = i ∧ i < L.length) := fun q => e2 q.1
          rw [if_neg ne2] at hj ⊢
          refine List.mem_cons_of_mem _ (List.mem_filter.mpr ⟨hm j hj, ?_⟩)
          simp [e, e2, e1]
