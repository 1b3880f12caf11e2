/-! a whole text of steps -/
def ab_d29 (a : Nat) (x y : Int32) : Int32 := match a with
  | 0 => if x < y then y else x
  | _ => if y < x then y else x
theorem r_29 {l : Launch} {G : ab_Gt} {id d pc a b : Nat} {v : AV} {ts : List (Int × Nat)} {L st : List AV} {σ σ2 : Sg} {r : AV} {x y : Int32} (hd1 : 1 ≤ d) (hct : ab_cats st ≤ 8) (hc : ab_chk (ab_mo id) (ab_mb id) (ab_ml id) pc (29, a, b, v, ts) = true) (k : ab_Ret l G id d (pc + ab_ln (ab_mb id) pc) L (vI (ab_d29 a x y) :: st) σ r σ2) : ab_Ret l G id d pc L (vI y :: vI x :: st) σ r σ2 := by
  match a, hc, k with
  | 0, hc, k => exact r_29a (a := 0) hd1 hct hc k
  | 1, hc, k => exact r_29b (a := 0) hd1 hct hc k
  | a + 2, hc, k =>
    obtain ⟨i, n, hd, hn, hc⟩ := ab_chk_inv hc
    have hc : (ab_cj (ab_mo id) i n (a + 2) && decide (a + 2 < 2)) = true := hc
    rw [Bool.and_eq_true] at hc
    exact absurd (of_decide_eq_true hc.2) (by omega)
theorem ab_st_sound {R : Type} {l : Launch} {G : ab_Gt} {id d pc : Nat} (hG : ab_GG G) (hd1 : 1 ≤ d) {op : AOp} {L st : List AV} {σ : Sg} {k : List AV → List AV → Sg → Option R} {res : R} (hc : ab_chk (ab_mo id) (ab_mb id) (ab_ml id) pc op = true) (h : ab_st op L st σ k = some res) :
    ∃ (L' st' : List AV) (σ' : Sg), k L' st' σ' = some res ∧ ∀ (r : AV) (σ2 : Sg), ab_Ret l G id d (pc + ab_ln (ab_mb id) pc) L' st' σ' r σ2 → ab_Ret l G id d pc L st σ r σ2 := by
  unfold ab_st at h
  split at h
  · exact ⟨_, _, _, h, fun r σ2 k => r_0 hc k⟩
  · split at h
    · rename_i hx
      exact ⟨_, _, _, h, fun r σ2 k => r_1 hc hx k⟩
    · cases h
  · split at h
    · rename_i hx
      exact ⟨_, _, _, h, fun r σ2 k => r_2 hc hx k⟩
    · cases h
  · split at h
    · rename_i hx
      exact ⟨_, _, _, h, fun r σ2 k => r_3 hc hx k⟩
    · cases h
  · split at h
    · exact ⟨_, _, _, h, fun r σ2 k => r_4 hc k⟩
    · cases h
  · split at h
    · exact ⟨_, _, _, h, fun r σ2 k => r_5 hc k⟩
    · cases h
  · split at h
    · exact ⟨_, _, _, h, fun r σ2 k => r_6 hc k⟩
    · cases h
  · split at h
    · rename_i hx
      exact ⟨_, _, _, h, fun r σ2 k => r_7 (v := vU) hc hx k⟩
    · cases h
  · split at h
    · exact ⟨_, _, _, h, fun r σ2 k => r_8 hc k⟩
    · cases h
  · split at h
    · split at h
      · cases h
      · rename_i hy
        exact ⟨_, _, _, h, fun r σ2 k => r_9 hc hy k⟩
    · cases h
  · split at h
    · exact ⟨_, _, _, h, fun r σ2 k => r_10 hc k⟩
    · cases h
  · split at h
    · exact ⟨_, _, _, h, fun r σ2 k => r_11 hc k⟩
    · cases h
  · split at h
    · exact ⟨_, _, _, h, fun r σ2 k => r_12 hc k⟩
    · cases h
  · split at h
    · exact ⟨_, _, _, h, fun r σ2 k => r_13 hc k⟩
    · cases h
  · split at h
    · split at h
      · cases h
      · rename_i hy
        exact ⟨_, _, _, h, fun r σ2 k => r_14 hc hy k⟩
    · cases h
  · split at h
    · exact ⟨_, _, _, h, fun r σ2 k => r_15 hc k⟩
    · cases h
  · split at h
    · exact ⟨_, _, _, h, fun r σ2 k => r_16 hc k⟩
    · exact ⟨_, _, _, h, fun r σ2 k => r_16r hc k⟩
    · cases h
  · split at h
    · exact ⟨_, _, _, h, fun r σ2 k => r_17 hc k⟩
    · cases h
  · split at h
    · split at h
      · rename_i hb
        have hb := Nat.eq_of_beq_eq_true hb
        subst hb
        exact ⟨_, _, _, h, fun r σ2 k => r_18 hG hc k⟩
      · cases h
    · cases h
  · split at h
    · split at h
      · rename_i hb
        have hb := Nat.eq_of_beq_eq_true hb
        subst hb
        exact ⟨_, _, _, h, fun r σ2 k => r_19 hG hc k⟩
      · cases h
    · cases h
  · split at h
    · split at h
      · rename_i hb
        have hb := Nat.eq_of_beq_eq_true hb
        subst hb
        exact ⟨_, _, _, h, fun r σ2 k => r_20 (v := vU) hG hc k⟩
      · cases h
    · cases h
  · split at h
    · split at h
      · rename_i hb
        have hb := Nat.eq_of_beq_eq_true hb
        subst hb
        exact ⟨_, _, _, h, fun r σ2 k => r_21 hG hc k⟩
      · cases h
    · cases h
  · split at h
    · split at h
      · rename_i hb
        have hb := Nat.eq_of_beq_eq_true hb
        subst hb
        split at h
        · rename_i e
          subst e
          exact ⟨_, _, _, h, fun r σ2 k => r_22 hG hc (Or.inl rfl) k⟩
        · split at h
          · rename_i e
            subst e
            exact ⟨_, _, _, h, fun r σ2 k => r_22 hG hc (Or.inr rfl) k⟩
          · cases h
      · cases h
    · cases h
  · split at h
    · split at h
      · rename_i hb
        have hb := Nat.eq_of_beq_eq_true hb
        subst hb
        split at h
        · rename_i e
          exact ⟨_, _, _, h, fun r σ2 k => r_23 hG hc e k⟩
        · cases h
      · cases h
    · cases h
  · split at h
    · split at h
      · rename_i hb
        have hb := Nat.eq_of_beq_eq_true hb
        subst hb
        split at h
        · cases h
        · split at h
          · cases h
          · rename_i e1 e2
            exact ⟨_, _, _, h, fun r σ2 k => r_24 hG hc e1 e2 k⟩
      · cases h
    · cases h
  · split at h
    · split at h
      · rename_i hb
        have hb := Nat.eq_of_beq_eq_true hb
        subst hb
        split at h
        · cases h
        · split at h
          · cases h
          · rename_i e1 e2
            exact ⟨_, _, _, h, fun r σ2 k => r_25 hG hc e1 e2 k⟩
      · cases h
    · cases h
  · split at h
    · split at h
      · rename_i hb
        have hb := Nat.eq_of_beq_eq_true hb
        subst hb
        split at h
        · cases h
        · split at h
          · cases h
          · rename_i e1 e2
            exact ⟨_, _, _, h, fun r σ2 k => r_26 hG hc e1 e2 k⟩
      · cases h
    · cases h
  · split at h
    · split at h
      · rename_i hb
        have hb := Nat.eq_of_beq_eq_true hb
        subst hb
        split at h
        · cases h
        · split at h
          · cases h
          · rename_i e1 e2
            exact ⟨_, _, _, h, fun r σ2 k => r_27 hG hc e1 e2 k⟩
      · cases h
    · cases h
  · split at h
    · split at h
      · rename_i hb
        have hb := Nat.eq_of_beq_eq_true hb
        subst hb
        split at h
        · cases h
        · split at h
          · cases h
          · rename_i e1 e2
            exact ⟨_, _, _, h, fun r σ2 k => r_28 hG hc e1 e2 k⟩
      · cases h
    · cases h
  · split at h
    · split at h
      · rename_i hb
        exact ⟨_, _, _, h, fun r σ2 k => r_29 hd1 (Nat.le_of_ble_eq_true hb) hc k⟩
      · cases h
    · cases h
  · split at h
    · split at h
      · rename_i hb
        exact ⟨_, _, _, h, fun r σ2 k => r_30 hd1 (Nat.le_of_ble_eq_true hb) hc k⟩
      · cases h
    · cases h
  · split at h
    · split at h
      · rename_i hb
        rw [Bool.and_eq_true, Bool.and_eq_true] at hb
        obtain ⟨⟨b1, b2⟩, b3⟩ := hb
        have b1 := Nat.eq_of_beq_eq_true b1
        have b2 := Nat.eq_of_beq_eq_true b2
        subst b1
        subst b2
        split at h
        · cases h
        · split at h
          · cases h
          · split at h
            · cases h
            · split at h
              · cases h
              · split at h
                · cases h
                · rename_i c1 c2 c3 c4 c5
                  exact ⟨_, _, _, h, fun r σ2 k => r_31 hG hd1 (Nat.le_of_ble_eq_true b3) c1 c2 c3 c4 c5 hc k⟩
      · cases h
    · cases h
  · split at h
    · split at h
      · cases h
      · split at h
        · cases h
        · rename_i e1 e2
          exact ⟨_, _, _, h, fun r σ2 k => r_34 hG hc e1 e2 k⟩
    · cases h
  · cases h
theorem ab_lk_mem {α : Type} : ∀ {l : List (Nat × α)} {n : Nat} {x : α}, ab_lk l n = some x → (n, x) ∈ l := by
  intro l
  induction l with
  | nil => intro n x h; cases h
  | cons q r ih =>
    intro n x h
    obtain ⟨i, y⟩ := q
    unfold ab_lk at h
    split at h
    · rename_i hb
      have hb := Nat.eq_of_beq_eq_true hb
      cases h
      subst hb
      exact List.mem_cons_self
    · exact List.mem_cons_of_mem _ (ih h)
theorem ab_pop_eq : ∀ (n : Nat) (st acc : List AV) (as st' : List AV), ab_pop n st acc = some (as, st') → ∃ bs, as = bs ++ acc ∧ bs.length = n ∧ st = bs.reverse ++ st' := by
  intro n
  induction n with
  | zero =>
    intro st acc as st' h
    cases st with
    | nil =>
      unfold ab_pop at h
      have h := Prod.mk.inj (Option.some.inj h)
      exact ⟨[], h.1.symm, rfl, h.2⟩
    | cons v st =>
      unfold ab_pop at h
      have h := Prod.mk.inj (Option.some.inj h)
      exact ⟨[], h.1.symm, rfl, h.2⟩
  | succ n ih =>
    intro st acc as st' h
    cases st with
    | nil => cases h
    | cons v st =>
      unfold ab_pop at h
      obtain ⟨bs, h1, h2, h3⟩ := ih _ _ _ _ h
      refine ⟨bs ++ [v], by simp [h1], by simp [h2], ?_⟩
      rw [h3]
      simp
/-- a call that a text takes for granted is the machine's -/
def ab_CS {R : Type} (l : Launch) (G : ab_Gt) (id d : Nat) (f : ACall R) : Prop := ∀ (as : List AV) (σ : Sg) (k : AV → Sg → Option R) (res : R), f as σ k = some res → ∃ (r : AV) (σ1 : Sg), ab_CO l G id d as σ r σ1 ∧ ab_isR r = false ∧ (ab_mt id = 0 → ab_rc2 id as) ∧ k r σ1 = some res
/-- from a place on -/
def ab_KS {R : Type} (l : Launch) (G : ab_Gt) (id d : Nat) (fin : AV → Sg → Option R) (pc : Nat) (f : ACut R) : Prop := ∀ (L st : List AV) (σ : Sg) (res : R), f L st σ = some res → ∃ (r : AV) (σ' : Sg), ab_Ret l G id d pc L st σ r σ' ∧ fin r σ' = some res
theorem ab_ev_sound {R : Type} {l : Launch} {G : ab_Gt} {id d ty : Nat} (hG : ab_GG G) (hd1 : 1 ≤ d) {tab : List (Nat × List AOp)} {Os : List (Nat × ACall R)} {Ks : List (Nat × ACut R)} {fin : AV → Sg → Option R}
    (hty : ab_mr id = ab_rty ty) (hO : ∀ q ∈ Os, ∃ d', d' + 1 ≤ d ∧ ab_CS l G q.1 d' q.2) (hK : ∀ q ∈ Ks, ab_KS l G id d fin q.1 q.2) (hT : ∀ q ∈ tab, ab_bk (ab_mo id) (ab_mb id) (ab_ml id) ty q.1 q.2 = true) :
    ∀ (n : Nat) (ops : List AOp) (pc : Nat) (L st : List AV) (σ : Sg) (res : R), ab_bk (ab_mo id) (ab_mb id) (ab_ml id) ty pc ops = true → ab_ev tab Os Ks fin n ops L st σ = some res → ∃ (r : AV) (σ' : Sg), ab_Ret l G id d pc L st σ r σ' ∧ fin r σ' = some res := by
  intro n
  induction n with
  | zero => intro ops pc L st σ res hb h; cases h
  | succ n ih =>
    intro ops pc L st σ res hb h
    have jmp : ∀ (t : Nat) (L st : List AV) (σ : Sg) (res : R), (match ab_lk Ks t with
        | some c => c L st σ
        | none => match ab_lk tab t with
          | some o => ab_ev tab Os Ks fin n o L st σ
          | none => none) = some res → ∃ (r : AV) (σ' : Sg), ab_Ret l G id d t L st σ r σ' ∧ fin r σ' = some res := by
      intro t L st σ res h
      split at h
      · rename_i hk
        exact hK _ (ab_lk_mem hk) L st σ res h
      · split at h
        · rename_i ho
          exact ih _ t L st σ res (hT _ (ab_lk_mem ho)) h
        · cases h
    cases ops with
    | nil => cases h
    | cons op ops =>
      obtain ⟨k, a, b, v, ts⟩ := op
      by_cases hps : k = 40 ∧ b = 1
      · obtain ⟨rfl, rfl⟩ := hps
        have hb : (a == pc) = true := hb
        have hb : a = pc := by simpa using hb
        subst hb
        exact jmp a L st σ res h
      · by_cases h45 : k = 45
        · subst h45
          have hb : (a == ty && ab_chk (ab_mo id) (ab_mb id) (ab_ml id) pc (45, a, b, v, ts)) = true := hb
          rw [Bool.and_eq_true] at hb
          obtain ⟨e, hc⟩ := hb
          have e : a = ty := by simpa using e
          subst e
          unfold ab_ev at h
          match a, hty, hc, h with
          | 0, hty, hc, h =>
            match st, h with
            | [], h => exact ⟨_, _, r_45_0 hty hc, h⟩
          | 1, hty, hc, h =>
            match st, h with
            | [.inl x], h => exact ⟨_, _, r_45_1 hty hc, h⟩
          | 2, hty, hc, h =>
            match st, h with
            | [.inr (.inl x)], h => exact ⟨_, _, r_45_2 hty hc, h⟩
          | 3, hty, hc, h =>
            match st, h with
            | [.inl x], h => exact ⟨_, _, r_45_3 hty hc, h⟩
          | a + 4, hty, hc, h =>
            obtain ⟨i, n, -, -, hc⟩ := ab_chk_inv hc
            have hc : (n == 1 && ab_c45 i (a + 4)) = true := hc
            unfold ab_c45 at hc
            rw [Bool.and_eq_true] at hc
            obtain ⟨-, hc⟩ := hc
            split at hc <;> simp at hc
        · have hb2 : (ab_chk (ab_mo id) (ab_mb id) (ab_ml id) pc (k, a, b, v, ts) && ab_bk (ab_mo id) (ab_mb id) (ab_ml id) ty (pc + ab_ln (ab_mb id) pc) ops) = true := by
            unfold ab_bk at hb
            split at hb
            · rename_i e
              have e := Prod.mk.inj e
              exact absurd ⟨e.1, (Prod.mk.inj (Prod.mk.inj e.2).2).1⟩ hps
            · rename_i e
              exact absurd (Prod.mk.inj e).1 h45
            · exact hb
          rw [Bool.and_eq_true] at hb2
          obtain ⟨hc, hb3⟩ := hb2
          unfold ab_ev at h
          split at h
          · obtain ⟨r, σ', h1, h2⟩ := jmp a L st σ res h
            exact ⟨r, σ', r_40 hc h1, h2⟩
          · split at h
            · rcases ab_cnd_or h with ⟨q, h⟩ | ⟨q, h⟩
              · obtain ⟨r, σ', h1, h2⟩ := jmp _ _ _ _ _ h
                exact ⟨r, σ', r_41 hc (Or.inl ⟨q, h1⟩), h2⟩
              · obtain ⟨r, σ', h1, h2⟩ := ih _ _ _ _ _ _ hb3 h
                exact ⟨r, σ', r_41 hc (Or.inr ⟨q, h1⟩), h2⟩
            · cases h
          · split at h
            · rcases ab_cnd_or h with ⟨q, h⟩ | ⟨q, h⟩
              · obtain ⟨r, σ', h1, h2⟩ := jmp _ _ _ _ _ h
                exact ⟨r, σ', r_42 hc (Or.inl ⟨q, h1⟩), h2⟩
              · obtain ⟨r, σ', h1, h2⟩ := ih _ _ _ _ _ _ hb3 h
                exact ⟨r, σ', r_42 hc (Or.inr ⟨q, h1⟩), h2⟩
            · cases h
          · split at h
            · rw [ab_sw_eq] at h
              obtain ⟨r, σ', h1, h2⟩ := jmp _ _ _ _ _ h
              exact ⟨r, σ', r_43 hc h1, h2⟩
            · cases h
          · split at h
            · rename_i as st' hpop
              split at h
              · rename_i hct
                split at h
                · rename_i f hf
                  obtain ⟨d', hd', hCS⟩ := hO _ (ab_lk_mem hf)
                  obtain ⟨r0, σ1, hCO, hr0, hrc, h⟩ := hCS _ _ _ _ h
                  obtain ⟨bs, e1, e2, e3⟩ := ab_pop_eq _ _ _ _ _ hpop
                  rw [List.append_nil] at e1
                  subst e1
                  subst e3
                  have hkey : ∃ (r : AV) (σ' : Sg), ab_Ret l G id d (pc + ab_ln (ab_mb id) pc) L (ab_push r0 st') σ1 r σ' ∧ fin r σ' = some res := by
                    match r0, hr0, h with
                    | .inl x, _, h => exact ih _ _ _ _ _ _ hb3 h
                    | .inr (.inl x), _, h => exact ih _ _ _ _ _ _ hb3 h
                    | .inr (.inr (.inr u)), _, h => exact ih _ _ _ _ _ _ hb3 h
                  obtain ⟨r, σ', h1, h2⟩ := hkey
                  exact ⟨r, σ', r_44 hG hd' e2 (Nat.le_of_ble_eq_true hct) hCO hrc hr0 hc h1, h2⟩
                · cases h
              · cases h
            · cases h
          · exact absurd rfl h45
          · obtain ⟨L', st', σ', h1, h2⟩ := ab_st_sound (l := l) hG hd1 hc h
            obtain ⟨r, σ2, h3, h4⟩ := ih _ _ _ _ _ _ hb3 h1
            exact ⟨r, σ2, h2 _ _ h3, h4⟩
/-- the locals with which a method begins -/
def ab_lay : List AV → List AV
  | [] => []
  | .inr (.inl x) :: r => vL x :: vU :: ab_lay r
  | v :: r => v :: ab_lay r
def ab_ini (n : Nat) (as : List AV) : List AV := ab_lay as ++ List.replicate (n - (ab_lay as).length) vU
theorem ab_sl_cons (w : Value) (ws : List Value) : lg_sl (w :: ws) = (if w.category = 2 then [.val w, .second] else [.val w]) ++ lg_sl ws := by
  simp only [lg_sl, List.flatMap_cons]
theorem ab_lay_len (G : ab_Gt) (as : List AV) : (lg_sl (as.map (ab_val G))).length = (ab_lay as).length := by
  induction as with
  | nil => rfl
  | cons v r ih =>
    rw [List.map_cons, ab_sl_cons, List.length_append, ih]
    match v with
    | .inl x =>
      rw [if_neg (show ¬ (ab_val G (.inl x)).category = 2 from fun h => by cases h)]
      simp only [ab_lay, List.length_cons, List.length_nil]; omega
    | .inr (.inl x) =>
      rw [if_pos (show (ab_val G (.inr (.inl x))).category = 2 from rfl)]
      simp only [ab_lay, List.length_cons, List.length_nil]; omega
    | .inr (.inr (.inl q)) =>
      rw [if_neg (show ¬ (ab_val G (.inr (.inr (.inl q)))).category = 2 from fun h => by cases h)]
      simp only [ab_lay, List.length_cons, List.length_nil]; omega
    | .inr (.inr (.inr u)) =>
      rw [if_neg (show ¬ (ab_val G (.inr (.inr (.inr u)))).category = 2 from fun h => by cases h)]
      simp only [ab_lay, List.length_cons, List.length_nil]; omega
theorem ab_nth_app {a b : List AV} {i : Nat} : ab_nth vU (a ++ b) i = if i < a.length then ab_nth vU a i else ab_nth vU b (i - a.length) := by
  induction a generalizing i with
  | nil => simp
  | cons x r ih =>
    cases i with
    | zero => simp [ab_nth]
    | succ i => simp [ab_nth, ih, Nat.add_lt_add_iff_right]
theorem ab_nth_rep {n i : Nat} : ab_nth vU (List.replicate n vU) i = vU := by
  induction n generalizing i with
  | zero => cases i <;> rfl
  | succ n ih =>
    rw [List.replicate_succ]
    cases i with
    | zero => rfl
    | succ i => exact ih
theorem ab_lay_mem (G : ab_Gt) (as : List AV) : ∀ (j i : Nat), ab_nth vU (ab_lay as) i ≠ vU → (j + i, ab_val G (ab_nth vU (ab_lay as) i)) ∈ lv_args j (as.map (ab_val G)) := by
  induction as with
  | nil => intro j i h; exact absurd (by cases i <;> rfl) h
  | cons v r ih =>
    intro j i h
    have one : ∀ w : AV, ab_lay (w :: r) = w :: ab_lay r → (ab_val G w).category = 1 → ab_nth vU (ab_lay (w :: r)) i ≠ vU → (j + i, ab_val G (ab_nth vU (ab_lay (w :: r)) i)) ∈ lv_args j ((w :: r).map (ab_val G)) := by
      intro w e ec h
      rw [e] at h ⊢
      simp only [List.map_cons, lv_args]
      cases i with
      | zero => exact List.mem_cons_self
      | succ i =>
        refine List.mem_cons_of_mem _ ?_
        have hn : ¬ (ab_val G w).category = 2 := by rw [ec]; decide
        rw [if_neg hn]
        have := ih (j + 1) i h
        have e2 : j + 1 + i = j + (i + 1) := by omega
        rw [e2] at this
        exact this
    match v, h with
    | .inl x, h => exact one _ rfl rfl h
    | .inr (.inr (.inl q)), h => exact one _ rfl rfl h
    | .inr (.inr (.inr u)), h => exact one _ rfl rfl h
    | .inr (.inl x), h =>
      simp only [List.map_cons, lv_args]
      match i, h with
      | 0, h => exact List.mem_cons_self
      | 1, h => exact absurd rfl h
      | i + 2, h =>
        refine List.mem_cons_of_mem _ ?_
        have hn : (ab_val G (vL x)).category = 2 := rfl
        rw [if_pos hn]
        have := ih (j + 2) i h
        have e2 : j + 2 + i = j + (i + 2) := by omega
        rw [e2] at this
        exact this
theorem ab_ini_ok {G : ab_Gt} {n : Nat} {as : List AV} (h : ∀ v ∈ as, ab_ok G v) : ∀ v ∈ ab_ini n as, ab_ok G v := by
  have h1 : ∀ v ∈ ab_lay as, ab_ok G v := by
    induction as with
    | nil => intro v hv; cases hv
    | cons w r ih =>
      have hr := ih (okt h)
      match w, h with
      | .inl x, h => exact okc trivial hr
      | .inr (.inl x), h => exact okc trivial (okc trivial hr)
      | .inr (.inr (.inl q)), h => exact okc (h _ List.mem_cons_self) hr
      | .inr (.inr (.inr u)), h => exact okc trivial hr
  intro v hv
  rcases List.mem_append.mp hv with hv | hv
  · exact h1 v hv
  · rw [List.eq_of_mem_replicate hv]; trivial
/-- a method's contract out of what its text answers from its entry -/
theorem ab_met {l : Launch} {G : ab_Gt} {id d : Nat} {as : List AV} {σ σ' : Sg} {r : AV} (hid : id < 230) (hown : ab_on (ab_mo id) = (ab_my id).cls) (hfit : (ab_lay as).length ≤ ab_ml id) (h : ab_Ret l G id d 0 (ab_ini (ab_ml id) as) [] σ r σ') : ab_CO l G id d as σ r σ' := by
  intro oA
  obtain ⟨m1, m2, m3, m4, m5, m6⟩ := ab_mk_facts hid
  refine Met.ofW (cc := ab_mb id) (maxL := ab_ml id) (ret := ab_mr id) m4 rfl ?_
  intro p e s m args below meth c s₁ B hml hv
  obtain ⟨ha, hP, hKK⟩ := hv
  subst ha
  have hfit' : (lg_sl (as.map (ab_val G))).length ≤ ab_ml id := by rw [ab_lay_len]; exact hfit
  rw [lg_entry_eq]
  have hl := lv_entry (as.map (ab_val G)) hfit'
  refine h p e _ s m _ below meth c 0 0 s.heap [] _ ⟨B.exec, B.bytes, hml, by rw [hown]; exact findClass_of_methodNamed B.named, atoms_spec (ws := ab_W id) B.pre, B.returns, B.notSynchronized, Nat.le_refl _, Nat.le_refl _, hKK, Nat.zero_le _, Nat.zero_le _⟩ (ab_LH.of hl ?_ (fun i hi => ?_)) (ab_ini_ok oA) (fun v hv => by cases hv) hP va_S.rf
  · simp only [ab_ini, List.length_append, List.length_replicate]; omega
  · unfold ab_ini at hi ⊢
    rw [ab_nth_app] at hi ⊢
    by_cases hlt : i < (ab_lay as).length
    · rw [if_pos hlt] at hi ⊢
      have := ab_lay_mem G as 0 i hi
      rw [Nat.zero_add] at this
      exact this
    · rw [if_neg hlt, ab_nth_rep] at hi
      exact absurd rfl hi
