/-! what a text's part says of a coat, a mood, an hour: the class's side -/
def bdS (v : Int32) : Int32 := if 0 < (if v < 99 then v else 99) then (if v < 99 then v else 99) else 0
theorem s_bounded (v : Int32) (σ : Sg) : X_bounded v σ = some (bdS v, σ) := rfl
/-- m steps of text i from place k on -/
def pg (σ : Sg) (i : Nat) : Nat → Nat → List Int32
  | _, 0 => []
  | k, m + 1 => σ 3 i k :: pg σ i (k + 1) m
theorem pg_eq {σ σ' : Sg} {i : Nat} (h : ∀ j, σ' 3 i j = σ 3 i j) : ∀ m k, pg σ' i k m = pg σ i k m := by
  intro m
  induction m with
  | zero => intro k; rfl
  | succ m ih => intro k; simp only [pg, h, ih]
theorem Un.steps {i : Nat} {σ σ' : Sg} (h : Un i σ σ') (j : Nat) : σ' 3 i j = σ 3 i j := h 3 i j (fun q => by cases q.1) (fun q => by cases q.1)
theorem Un.ends {i : Nat} {σ σ' : Sg} (h : Un i σ σ') (j : Nat) : σ' 4 i j = σ 4 i j := h 4 i j (fun q => by cases q.1) (fun q => by cases q.1)
theorem Un.env {i : Nat} {σ σ' : Sg} (h : Un i σ σ') (c : Nat) (mood hour : Int32) : envX σ' c mood hour = envX σ c mood hour := by
  have h1 : ∀ j, σ' 1 c j = σ 1 c j := fun j => h 1 c j (fun q => by cases q.1) (fun q => by cases q.1)
  funext k
  unfold envX
  simp only [h1]
theorem s_value_L {i c part e : Nat} {mood hour v : Int32} (hp : part < 3) (he : e ≤ 160) : ∀ (m n k : Nat) (σ : Sg) (st rest : List Int32), k + m = e → m < n → σ 4 i part = nI e → AS σ i st → tp_r (envX σ c mood hour) (pg σ i k m) st = some (v :: rest) → ∃ σ', Text_value_L38 n i (nI part) c mood hour (nI k) σ = some (bdS v, σ') ∧ Un i σ σ' := by
  intro m
  induction m with
  | zero =>
    intro n k σ st rest hk hn hE hA hr
    have hr := Option.some.inj hr
    subst hr
    obtain ⟨n, rfl⟩ : ∃ n', n = n' + 1 := ⟨n - 1, by omega⟩
    unfold Text_value_L38
    obtain ⟨σ1, e1, a1, u1⟩ := s_lift hA
    have hke : k = e := by omega
    subst hke
    simp (disch := omega) only [na_li, na_lt, na_cl, Nat.not_lt_zero, if_false, hE, Nat.lt_irrefl]
    rw [if_neg (by omega), e1]
    exact ⟨σ1, rfl, u1⟩
  | succ m ih =>
    intro n k σ st rest hk hn hE hA hr
    obtain ⟨n, rfl⟩ : ∃ n', n = n' + 1 := ⟨n - 1, by omega⟩
    unfold pg tp_r at hr
    cases h1 : tp_1 (envX σ c mood hour) (σ 3 i k) st with
    | none => rw [h1] at hr; cases hr
    | some st1 =>
      rw [h1] at hr
      have go : ∀ σ1, AS σ1 i st1 → Un i σ σ1 → ∃ σ', Text_value_L38 n i (nI part) c mood hour (nI (k + 1)) σ1 = some (bdS v, σ') ∧ Un i σ σ' := by
        intro σ1 a1 u1
        obtain ⟨σ2, e2, u2⟩ := ih n (k + 1) σ1 st1 rest (by omega) (by omega) (by rw [u1.ends]; exact hE) a1 (by rw [u1.env, pg_eq u1.steps]; exact hr)
        exact ⟨σ2, e2, u1.tr u2⟩
      have hke : k < e := by omega
      have hk160 : k < 160 := by omega
      have hn3 : ¬ 3 ≤ part := by omega
      have hn160 : ¬ 160 ≤ k := by omega
      have hk1 : nI k + 1 = nI (k + 1) := (nI_succ k).symm
      unfold Text_value_L38
      rw [if_neg (nI_pos (by omega)), na_cl (by omega), if_neg hn3, hE, if_pos (nI_lt hke (by omega)), if_pos (show nI k < 160 from nI_lt (b := 160) hk160 (by decide)), if_neg (nI_pos (by omega)), na_cl (by omega), if_neg hn160]
      by_cases hs : σ 3 i k < 0
      · rw [if_pos hs, if_neg (nI_pos (by omega)), if_neg hn160]
        by_cases hs2 : -310 < σ 3 i k
        · rw [if_pos hs2, if_neg (nI_pos (by omega)), if_neg hn160]
          obtain ⟨σ1, e1, a1, u1⟩ := s_join hA hs hs2 h1
          rw [e1]
          simp only [Option.bind_some, hk1]
          exact go σ1 a1 u1
        · rw [if_neg hs2, if_neg (nI_pos (by omega)), if_neg hn160]
          unfold tp_1 at h1
          rw [if_pos hs, if_neg hs2] at h1
          split at h1
          · rename_i hl
            have h1 := Option.some.inj h1
            subst h1
            simp only [s_named, Option.bind_some]
            obtain ⟨σ1, e1, a1, u1⟩ := s_lay hA hl (tp_n (envX σ c mood hour) (-σ 3 i k))
            rw [e1]
            simp only [Option.bind_some, hk1]
            exact go σ1 a1 u1
          · cases h1
      · rw [if_neg hs, if_neg (nI_pos (by omega)), if_neg hn160]
        unfold tp_1 at h1
        rw [if_neg hs] at h1
        split at h1
        · rename_i hl
          have h1 := Option.some.inj h1
          subst h1
          obtain ⟨σ1, e1, a1, u1⟩ := s_lay hA hl (σ 3 i k)
          rw [e1]
          simp only [Option.bind_some, hk1]
          exact go σ1 a1 u1
        · cases h1
