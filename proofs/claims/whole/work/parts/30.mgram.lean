/-! the reference's reading: names, numbers, brackets; all six depths; a whole text -/
theorem nuS_n (b : Nat → Int32) : ∀ m p k d, k + 1 ≤ 10 ^ d → d + m ≤ 4 → ∃ k', k' < 10000 ∧ nuS b m p (nI k) = nI k' := by
  intro m
  induction m with
  | zero =>
    intro p k d h1 h2
    have : 10 ^ d ≤ 10 ^ 4 := Nat.pow_le_pow_right (by omega) (by omega)
    exact ⟨k, by omega, rfl⟩
  | succ m ih =>
    intro p k d h1 h2
    have h3 : 10 ^ d ≤ 10 ^ 4 := Nat.pow_le_pow_right (by omega) (by omega)
    unfold nuS
    by_cases hd : digB (b p) = true
    · obtain ⟨c, hc1, hc2, hc⟩ := digB_n hd
      rw [if_pos hd, hc, n32 hc1]
      have hpow2 : 10 ^ (d + 1) = 10 ^ d * 10 := Nat.pow_succ 10 d
      exact ih (p + 1) (10 * k + c - 48) (d + 1) (by omega) (by omega)
    · rw [if_neg hd]
      exact ⟨k, by omega, rfl⟩
theorem nu_nn (b : Nat → Int32) (a : Nat) : ¬ nu b a < 0 := by
  obtain ⟨k, hk, e⟩ := nuS_n b 4 (ps b a) 0 0 (by decide) (by omega)
  unfold nu
  rw [show (0 : Int32) = nI 0 from rfl, e]
  exact nI_pos (by omega)
theorem signB_lt {x : Int32} (h : signB x = true) : x < 310 ∧ x ≠ 2 := by
  unfold signB at h
  simp only [Bool.or_eq_true, beq_iff_eq] at h
  rcases h with ((((((h | h) | h) | h) | h) | h) | h) | h <;> subst h <;> decide
section
variable {b : Nat → Int32} {sz t : Nat} {e : Nat → Int32}
theorem g_tail (hb : ByteOK b sz) {a o need : Nat} {rc : Nat → Nat → Nat → PR} {σ : Sg} (hJ : J b sz t a o σ) (hE : EM e σ) (h45 : ¬ tk b a = 45) (h40 : ¬ tk b a = 40) (hn : 1 ≤ need) : wp (if (σ 30 0 24) = 0 then (if (σ 30 0 20) = 2 then (M_next σ).bind fun σ9 => some ((σ 30 0 22).toInt64.toInt32, σ9) else M_atom0_J123 0 σ) else M_atom0_J123 0 σ) (mQ b sz t o need e σ a (spOne b rc o a)) := by
  rw [if_pos hJ.2.1]
  unfold spOne
  rw [if_neg h45, if_neg h40]
  have fall : ¬ σ 30 0 20 = 1 → ¬ σ 30 0 20 = 2 → ¬ tk b a = 2 → tk b a < 310 → wp (if (σ 30 0 20) = 2 then (M_next σ).bind fun σ9 => some ((σ 30 0 22).toInt64.toInt32, σ9) else M_atom0_J123 0 σ) (mQ b sz t o need e σ a (if tk b a = 2 then (some [nu b a], a + 1) else if tk b a < 310 then (none, a) else (some [-tk b a], a + 1))) := by
    intro n1 n2 n3 n4
    rw [if_neg n2, if_neg n3, if_pos n4]
    unfold M_atom0_J123
    rw [if_pos hJ.2.1, if_neg n1]
    obtain ⟨σ', e1, e2, e3⟩ := s_Mfail hJ
    rw [e1]
    exact wp_some ⟨e3, e2⟩
  have hK := hJ.2.2.2.2
  unfold KT at hK
  rcases tok_cases b a with ⟨c0, ct⟩ | ⟨c0, c1, ct, cx⟩ | ⟨c0, c1, c2, ct⟩ | ⟨c0, c1, c2, c3, ct⟩ | ⟨c0, c1, c2, c3, ct⟩
  · rw [if_pos c0] at hK
    exact fall (by rw [hK]; decide) (by rw [hK]; decide) (by rw [ct]; decide) (by rw [ct]; decide)
  · rw [if_neg c0, if_pos c1] at hK
    have cl : (tk b a = 310 ∨ tk b a = 311 ∨ tk b a = 312 ∨ tk b a = 313 ∨ tk b a = 314 ∨ tk b a = 315) ∨ (¬ (tk b a = 310 ∨ tk b a = 311 ∨ tk b a = 312 ∨ tk b a = 313 ∨ tk b a = 314 ∨ tk b a = 315) ∧ tk b a < 310 ∧ tk b a ≠ 2) := by
      have key : ∀ k, k < 12 → (cd k = 310 ∨ cd k = 311 ∨ cd k = 312 ∨ cd k = 313 ∨ cd k = 314 ∨ cd k = 315) ∨ (¬ (cd k = 310 ∨ cd k = 311 ∨ cd k = 312 ∨ cd k = 313 ∨ cd k = 314 ∨ cd k = 315) ∧ cd k < 310 ∧ cd k ≠ 2) := by decide
      rcases wcode_or b (ps b a) (ru letB b 160 (ps b a)) with q | ⟨k, hk, q⟩
      · rw [ct, q]; exact Or.inr (by decide)
      · rw [ct, q]; exact key k hk
    rw [if_neg (by rw [hK.1]; decide)]
    unfold M_atom0_J123
    rw [if_pos hJ.2.1, if_pos hK.1]
    have hN := s_Mname hb hJ hE
    rcases cl with cl | ⟨cl, cl2, cl3⟩
    · rw [if_pos cl] at hN
      rw [hN]
      simp only [Option.bind_some]
      have ev : tk b a ≠ 0 ∧ tk b a ≠ 1 ∧ tk b a ≠ 2 ∧ ¬ tk b a < 310 ∧ -tk b a < 0 ∧ ¬ -310 < -tk b a ∧ - -tk b a = tk b a := by
        rcases cl with q | q | q | q | q | q <;> rw [q] <;> decide
      obtain ⟨v0, v1, v2, v3, v4, v5, v6⟩ := ev
      obtain ⟨σ1, e1, j1, f1⟩ := s_nextJ hb hJ v0 v1
      rw [if_pos hJ.2.1, e1, if_neg v2, if_neg v3]
      exact wp_some ⟨f1, j1, Ev_name v4 v5 v6 hn, Nat.lt_succ_self a⟩
    · rw [if_neg cl] at hN
      obtain ⟨σ', e1, e2, e3⟩ := hN
      rw [e1]
      simp only [Option.bind_some]
      rw [if_neg e2.n0, if_neg cl3, if_pos cl2]
      exact wp_some ⟨e3, e2⟩
  · rw [if_neg c0, if_neg (by rw [c1]; decide), if_pos c2] at hK
    by_cases q : 4 < ru digB b 160 (ps b a) - ps b a
    · rw [if_pos q] at hK
      rw [if_pos q] at ct
      exact fall (by rw [hK.1]; decide) (by rw [hK.1]; decide) (by rw [ct]; decide) (by rw [ct]; decide)
    · rw [if_neg q] at hK
      rw [if_neg q] at ct
      obtain ⟨σ1, e1, j1, f1⟩ := s_nextJ hb hJ (by rw [ct]; decide) (by rw [ct]; decide)
      rw [if_pos hK.1, if_pos ct, e1, lg_l2i_i2l, hK.2.2]
      exact wp_some ⟨f1, j1, Ev_num (nu_nn b a) hn, Nat.lt_succ_self a⟩
  · rw [if_neg c0, if_neg (by rw [c1]; decide), if_neg (by rw [c2]; decide), if_pos c3] at hK
    have := signB_lt c3
    exact fall (by rw [hK.1]; decide) (by rw [hK.1]; decide) (by rw [ct]; exact this.2) (by rw [ct]; exact this.1)
  · rw [if_neg c0, if_neg (by rw [c1]; decide), if_neg (by rw [c2]; decide), if_neg (by rw [c3]; decide)] at hK
    exact fall (by rw [hK]; decide) (by rw [hK]; decide) (by rw [ct]; decide) (by rw [ct]; decide)
theorem g_atom5 (hb : ByteOK b sz) : MSA b sz t e M_atom5 5 5 := by
  intro n hn a σ hJ hE
  obtain ⟨n, rfl⟩ : ∃ n', n = n' + 1 := ⟨n - 1, by omega⟩
  show wp (M_atom5 σ) (mQ b sz t 5 (nd 5 5) e σ a (spOne b (sp b n) 5 a))
  unfold M_atom5
  rw [s_MisSign hJ (by decide)]
  simp only [Option.bind_some]
  by_cases h45 : tk b a = 45
  · simp only [if_pos h45]
    rw [if_neg (show ¬ (1 : Int32) = 0 by decide)]
    have ho := s_Mopens hb hJ (by omega) (by rw [h45]; decide) (by rw [h45]; decide)
    rw [if_pos rfl] at ho
    obtain ⟨σ', e1, e2, e3⟩ := ho
    rw [e1]
    unfold spOne spPre
    rw [if_pos h45, if_pos (by omega)]
    exact wp_some ⟨e3, e2⟩
  · simp only [if_neg h45, if_true]
    rw [s_MisSign hJ (by decide)]
    simp only [Option.bind_some]
    by_cases h40 : tk b a = 40
    · simp only [if_pos h40]
      rw [if_neg (show ¬ (1 : Int32) = 0 by decide)]
      have ho := s_Mopens hb hJ (by omega) (by rw [h40]; decide) (by rw [h40]; decide)
      rw [if_pos rfl] at ho
      obtain ⟨σ', e1, e2, e3⟩ := ho
      rw [e1]
      unfold spOne spBrk
      rw [if_neg h45, if_pos h40, if_pos (by omega)]
      exact wp_some ⟨e3, e2⟩
    · simp only [if_neg h40, if_true]
      exact g_tail hb hJ hE h45 h40 (by decide)
theorem g_atom (hb : ByteOK b sz) {o : Nat} (ho5 : o < 5) {A AT EI : Sg → Option (Int32 × Sg)} (hAT : MSA b sz t e AT 5 (o + 1)) (hEI : MSA b sz t e EI 0 (o + 1))
    (hA : ∀ σ, A σ = (M_isSign 45 σ).bind fun q7 => if q7.1 = 0 then (M_isSign 40 q7.2).bind fun q8 => if q8.1 = 0 then (if (q8.2 30 0 24) = 0 then (if (q8.2 30 0 20) = 2 then (M_next q8.2).bind fun σ9 => some ((q8.2 30 0 22).toInt64.toInt32, σ9) else M_atom0_J123 0 q8.2) else M_atom0_J123 0 q8.2)
      else (M_opens q8.2).bind fun q10 => if q10.1 = 0 then some (0, q10.2) else (EI q10.2).bind fun q11 => (M_isSign 41 q11.2).bind fun q12 => if q12.1 = 0 then (M_fail q12.2).bind fun σ13 => M_atom0_J71 q11.1 σ13 else M_atom0_J71 q11.1 q12.2
      else (M_opens q7.2).bind fun q14 => if q14.1 = 0 then some (0, q14.2) else (AT q14.2).bind fun q15 => some (-q15.1, upd3 q15.2 30 0 23 ((q15.2 30 0 23) - 1))) : MSA b sz t e A 5 o := by
  intro n hn a σ hJ hE
  obtain ⟨n, rfl⟩ : ∃ n', n = n' + 1 := ⟨n - 1, by omega⟩
  show wp (A σ) (mQ b sz t o (nd 5 o) e σ a (spOne b (sp b n) o a))
  have ho : ¬ 5 ≤ o := by omega
  rw [hA, s_MisSign hJ (by decide)]
  simp only [Option.bind_some]
  by_cases h45 : tk b a = 45
  · simp only [if_pos h45]
    rw [if_neg (show ¬ (1 : Int32) = 0 by decide)]
    have hop := s_Mopens hb hJ (by omega) (by rw [h45]; decide) (by rw [h45]; decide)
    rw [if_neg (by omega)] at hop
    obtain ⟨σ1, e1, j1, f1⟩ := hop
    rw [e1]
    unfold spOne spPre
    rw [if_pos h45, if_neg ho]
    simp only [Option.bind_some]
    rw [if_neg (show ¬ (1 : Int32) = 0 by decide)]
    refine wp_bind (hAT n (by omega) (a + 1) σ1 j1 (hE.fr f1)) ?_
    rintro ⟨r, σ2⟩ ⟨f2, k⟩
    have f3 : Fr SM σ (upd3 σ2 30 0 23 ((σ2 30 0 23) - 1)) := (f1.tr f2).up (by unfold SM; omega)
    revert k
    generalize sp b n 5 (o + 1) (a + 1) = s
    intro k
    match s, k with
    | (none, a'), k => exact wp_some ⟨f3, BD.close k _⟩
    | (some L, a'), k => exact wp_some ⟨f3, k.1.close, Ev_neg k.2.1 (by unfold nd; omega), (by have : a + 1 < a' := k.2.2; show a < a'; omega)⟩
  · simp only [if_neg h45, if_true]
    rw [s_MisSign hJ (by decide)]
    simp only [Option.bind_some]
    by_cases h40 : tk b a = 40
    · simp only [if_pos h40]
      rw [if_neg (show ¬ (1 : Int32) = 0 by decide)]
      have hop := s_Mopens hb hJ (by omega) (by rw [h40]; decide) (by rw [h40]; decide)
      rw [if_neg (by omega)] at hop
      obtain ⟨σ1, e1, j1, f1⟩ := hop
      rw [e1]
      unfold spOne spBrk
      rw [if_neg h45, if_pos h40, if_neg ho]
      simp only [Option.bind_some]
      rw [if_neg (show ¬ (1 : Int32) = 0 by decide)]
      refine wp_bind (hEI n (by omega) (a + 1) σ1 j1 (hE.fr f1)) ?_
      rintro ⟨r, σ2⟩ ⟨f2, k⟩
      have f2 : Fr SM σ1 σ2 := f2
      revert k
      generalize sp b n 0 (o + 1) (a + 1) = s
      intro k
      match s, k with
      | (none, a'), k =>
        have k : BD b a' σ2 := k
        simp only [bad_isSign k, Option.bind_some, if_true, bad_fail k]
        unfold M_atom0_J71
        refine wp_eq (if_neg (k.close (σ2 30 0 23 - 1)).n0) ?_
        exact wp_some ⟨(f1.tr f2).up (by unfold SM; omega), k.close _⟩
      | (some L, a'), k =>
        obtain ⟨k1, k2, k3⟩ := k
        have k1 : J b sz t a' (o + 1) σ2 := k1
        have k3 : a + 1 < a' := k3
        simp only [s_MisSign k1 (show signB 41 = true by decide), Option.bind_some]
        by_cases h41 : tk b a' = 41
        · simp only [if_pos h41]
          rw [if_neg (show ¬ (1 : Int32) = 0 by decide)]
          unfold M_atom0_J71
          have kc := k1.close
          obtain ⟨σ3, e3, j3, f3⟩ := s_nextJ hb kc (by rw [h41]; decide) (by rw [h41]; decide)
          refine wp_eq (if_pos kc.2.1) ?_
          rw [e3]
          exact wp_some ⟨((f1.tr f2).up (by unfold SM; omega)).tr f3, j3, Ev.mono k2 (by unfold nd; omega), (by show a < a' + 1; omega)⟩
        · simp only [if_neg h41, if_true]
          obtain ⟨σ3, e3, j3, f3⟩ := s_Mfail k1
          rw [e3]
          unfold M_atom0_J71
          simp only [Option.bind_some]
          refine wp_eq (if_neg (j3.close (σ3 30 0 23 - 1)).n0) ?_
          exact wp_some ⟨((f1.tr f2).tr f3).up (by unfold SM; omega), j3.close _⟩
    · simp only [if_neg h40, if_true]
      exact g_tail hb hJ hE h45 h40 (by unfold nd; omega)
/-- ahead of a sum, what may follow it -/
theorem g_rel (hb : ByteOK b sz) {o : Nat} {AD : Sg → Option (Int32 × Sg)} (hAD : MSA b sz t e AD 3 o) {n a : Nat} {σ : Sg} (hn : 6 * (5 - o) + 2 < n) (hJ : J b sz t a o σ) (hE : EM e σ) : wp ((AD σ).bind fun q4 => (M_isSign 60 q4.2).bind fun q5 => if q5.1 = 0 then (M_isSign 61 q5.2).bind fun q6 => if q6.1 = 0 then some (q4.1, q6.2)
      else (if lg_cmp (q6.2 30 0 22).toInt64 60 = 0 then (M_next q6.2).bind fun σ1 => (AD σ1).bind fun q2 => if q4.1 < q2.1 then some (1, q2.2) else some (0, q2.2) else (M_next q6.2).bind fun σ1 => (AD σ1).bind fun q2 => if q4.1 = q2.1 then some (1, q2.2) else some (0, q2.2))
      else (if lg_cmp (q5.2 30 0 22).toInt64 60 = 0 then (M_next q5.2).bind fun σ1 => (AD σ1).bind fun q2 => if q4.1 < q2.1 then some (1, q2.2) else some (0, q2.2) else (M_next q5.2).bind fun σ1 => (AD σ1).bind fun q2 => if q4.1 = q2.1 then some (1, q2.2) else some (0, q2.2))) (mQ b sz t o (nd 2 o) e σ a (spJ b (sp b n) 2 o a)) := by
  unfold spJ
  refine wp_bind (hAD n hn a σ hJ hE) ?_
  rintro ⟨r, σ1⟩ ⟨f1, k⟩
  have f1 : Fr SM σ σ1 := f1
  revert k
  generalize sp b n (2 + 1) o a = s
  intro k
  match s, k with
  | (none, a'), k =>
    have k : BD b a' σ1 := k
    simp only [bad_isSign k, Option.bind_some, if_true]
    exact wp_some ⟨f1, k⟩
  | (some L, a'), k =>
    obtain ⟨k1, k2, k3⟩ := k
    have k1 : J b sz t a' o σ1 := k1
    have k2 : Ev e (nd 3 o) L r := k2
    have k3 : a < a' := k3
    simp only [if_true]
    unfold spL
    by_cases hj : joinsB 2 (tk b a') = true
    · have ht := joinsB_t hj
      obtain ⟨t0, t1⟩ := ne01 ht
      obtain ⟨σ2, e2, j2, f2⟩ := s_nextJ hb k1 t0 t1
      have hor : tk b a' = 60 ∨ tk b a' = 61 := by simpa [joinsB] using hj
      have hw := J_worth k1 (by rcases hor with q | q <;> rw [q] <;> decide)
      have fin : ∀ g : Int32 → Int32 × Sg → Option (Int32 × Sg), (∀ q2 : Int32 × Sg, g r q2 = some (tp_j (tk b a') r q2.1, q2.2)) → wp ((M_next σ1).bind fun σ1 => (AD σ1).bind fun q2 => g r q2) (mQ b sz t o (nd 2 o) e σ a (match sp b n (2 + 1) o (a' + 1) with
          | (some L', a'') => spL b (sp b n) 2 o 0 (L ++ L' ++ [-tk b a']) a''
          | (none, a'') => (none, a''))) := by
        intro g hg
        rw [e2]
        simp only [Option.bind_some, hg]
        refine wp_bind (hAD n hn (a' + 1) σ2 j2 ((hE.fr f1).fr f2)) ?_
        rintro ⟨r2, σ3⟩ ⟨f3, k⟩
        have f3 : Fr SM σ σ3 := (f1.tr f2).tr f3
        revert k
        generalize sp b n (2 + 1) o (a' + 1) = s
        intro k
        match s, k with
        | (none, a''), k => exact wp_some ⟨f3, k⟩
        | (some L', a''), k => exact wp_some ⟨f3, k.1, Ev_bin k2 k.2.1 (by unfold nd; omega) (by unfold nd; omega) ht, (by have : a' + 1 < a'' := k.2.2; show a < a''; omega)⟩
      rw [if_pos hj, s_MisSign k1 (by decide)]
      simp only [Option.bind_some]
      rcases hor with q | q
      · simp only [if_pos q]
        rw [if_neg (show ¬ (1 : Int32) = 0 by decide)]
        simp only [hw, q]
        rw [show (60 : Int64) = (60 : Int32).toInt64 from rfl, if_pos ((lg_cmp_eq _ _).mpr rfl)]
        have := fin (fun r q2 => if r < q2.1 then some (1, q2.2) else some (0, q2.2)) (fun q2 => by
          rw [q]
          show _ = some (if r < q2.1 then (1 : Int32) else 0, q2.2)
          by_cases c : r < q2.1
          · simp only [if_pos c]
          · simp only [if_neg c])
        rw [q] at this
        exact this
      · have q60 : ¬ tk b a' = 60 := by rw [q]; decide
        simp only [if_neg q60, if_true]
        rw [s_MisSign k1 (by decide)]
        simp only [Option.bind_some, if_pos q]
        rw [if_neg (show ¬ (1 : Int32) = 0 by decide)]
        simp only [hw, q]
        rw [show (60 : Int64) = (60 : Int32).toInt64 from rfl, if_neg (fun c => by
          rw [lg_cmp_eq, eq64] at c
          revert c; decide)]
        have := fin (fun r q2 => if r = q2.1 then some (1, q2.2) else some (0, q2.2)) (fun q2 => by
          rw [q]
          show _ = some (if r = q2.1 then (1 : Int32) else 0, q2.2)
          by_cases c : r = q2.1
          · simp only [if_pos c]
          · simp only [if_neg c])
        rw [q] at this
        exact this
    · have hj2 : joinsB 2 (tk b a') = false := by simpa using hj
      have q60 : ¬ tk b a' = 60 := fun q => by rw [q] at hj2; revert hj2; decide
      have q61 : ¬ tk b a' = 61 := fun q => by rw [q] at hj2; revert hj2; decide
      rw [if_neg hj, s_MisSign k1 (by decide)]
      simp only [Option.bind_some, if_neg q60, if_true]
      rw [s_MisSign k1 (by decide)]
      simp only [Option.bind_some, if_neg q61, if_true]
      exact wp_some ⟨f1, k1, Ev.mono k2 (by unfold nd; omega), k3⟩
theorem g_not (hb : ByteOK b sz) {o : Nat} (ho5 : o < 5) {NT AD T : Sg → Option (Int32 × Sg)} (hAD : MSA b sz t e AD 3 o) (hNT : MSA b sz t e NT 2 (o + 1))
    (hT : ∀ σ, T σ = (M_isWord 110 111 116 0 0 0 0 0 σ).bind fun q3 => if q3.1 = 0 then ((AD q3.2).bind fun q4 => (M_isSign 60 q4.2).bind fun q5 => if q5.1 = 0 then (M_isSign 61 q5.2).bind fun q6 => if q6.1 = 0 then some (q4.1, q6.2)
      else (if lg_cmp (q6.2 30 0 22).toInt64 60 = 0 then (M_next q6.2).bind fun σ1 => (AD σ1).bind fun q2 => if q4.1 < q2.1 then some (1, q2.2) else some (0, q2.2) else (M_next q6.2).bind fun σ1 => (AD σ1).bind fun q2 => if q4.1 = q2.1 then some (1, q2.2) else some (0, q2.2))
      else (if lg_cmp (q5.2 30 0 22).toInt64 60 = 0 then (M_next q5.2).bind fun σ1 => (AD σ1).bind fun q2 => if q4.1 < q2.1 then some (1, q2.2) else some (0, q2.2) else (M_next q5.2).bind fun σ1 => (AD σ1).bind fun q2 => if q4.1 = q2.1 then some (1, q2.2) else some (0, q2.2)))
      else (M_opens q3.2).bind fun q7 => if q7.1 = 0 then some (0, q7.2) else (NT q7.2).bind fun q8 => if q8.1 = 0 then some (1, upd3 q8.2 30 0 23 ((q8.2 30 0 23) - 1)) else some (0, upd3 q8.2 30 0 23 ((q8.2 30 0 23) - 1))) : MSA b sz t e T 2 o := by
  intro n hn a σ hJ hE
  obtain ⟨n, rfl⟩ : ∃ n', n = n' + 1 := ⟨n - 1, by omega⟩
  show wp (T σ) (mQ b sz t o (nd 2 o) e σ a (spB b (sp b n) 2 o a))
  unfold spB
  rw [if_pos (by omega), hT, show M_isWord 110 111 116 0 0 0 0 0 σ = some (if tk b a = 305 then 1 else 0, σ) from s_MisWord hb hJ (k := 5) (by omega)]
  simp only [Option.bind_some]
  by_cases h : tk b a = 305
  · simp only [if_pos h]
    rw [if_neg (show ¬ (1 : Int32) = 0 by decide), if_pos ⟨True.intro, h⟩]
    have hop := s_Mopens hb hJ (by omega) (by rw [h]; decide) (by rw [h]; decide)
    rw [if_neg (by omega)] at hop
    obtain ⟨σ1, e1, j1, f1⟩ := hop
    rw [e1]
    unfold spPre
    rw [if_neg (by omega)]
    simp only [Option.bind_some]
    rw [if_neg (show ¬ (1 : Int32) = 0 by decide)]
    refine wp_bind (hNT n (by omega) (a + 1) σ1 j1 (hE.fr f1)) ?_
    rintro ⟨r, σ2⟩ ⟨f2, k⟩
    have f3 : Fr SM σ (upd3 σ2 30 0 23 ((σ2 30 0 23) - 1)) := (f1.tr f2).up (by unfold SM; omega)
    revert k
    generalize sp b n 2 (o + 1) (a + 1) = s
    intro k
    match s, k with
    | (none, a'), k =>
      by_cases c : r = 0
      · simp only [if_pos c]
        exact wp_some ⟨f3, BD.close k _⟩
      · simp only [if_neg c]
        exact wp_some ⟨f3, BD.close k _⟩
    | (some L, a'), k =>
      have ev := Ev_not (n := nd 2 o) k.2.1 (by unfold nd; omega)
      have lt : a < a' := by have : a + 1 < a' := k.2.2; omega
      by_cases c : r = 0
      · simp only [if_pos c] at ev ⊢
        exact wp_some ⟨f3, k.1.close, ev, lt⟩
      · simp only [if_neg c] at ev ⊢
        exact wp_some ⟨f3, k.1.close, ev, lt⟩
  · simp only [if_neg h, if_true]
    rw [if_neg (fun q => h q.2)]
    exact g_rel hb hAD (by omega) hJ hE
theorem g_not5 (hb : ByteOK b sz) (hAD : MSA b sz t e M_added5 3 5) : MSA b sz t e M_not5 2 5 := by
  intro n hn a σ hJ hE
  obtain ⟨n, rfl⟩ : ∃ n', n = n' + 1 := ⟨n - 1, by omega⟩
  show wp (M_not5 σ) (mQ b sz t 5 (nd 2 5) e σ a (spB b (sp b n) 2 5 a))
  unfold spB
  rw [if_pos (by omega)]
  unfold M_not5
  rw [show M_isWord 110 111 116 0 0 0 0 0 σ = some (if tk b a = 305 then 1 else 0, σ) from s_MisWord hb hJ (k := 5) (by omega)]
  simp only [Option.bind_some]
  by_cases h : tk b a = 305
  · simp only [if_pos h]
    rw [if_neg (show ¬ (1 : Int32) = 0 by decide), if_pos ⟨True.intro, h⟩]
    have ho := s_Mopens hb hJ (by omega) (by rw [h]; decide) (by rw [h]; decide)
    rw [if_pos rfl] at ho
    obtain ⟨σ', e1, e2, e3⟩ := ho
    rw [e1]
    unfold spPre
    rw [if_pos (by omega)]
    exact wp_some ⟨e3, e2⟩
  · simp only [if_neg h, if_true]
    rw [if_neg (fun q => h q.2)]
    exact g_rel hb hAD (by omega) hJ hE
theorem m_atom5 (hb : ByteOK b sz) : MSA b sz t e M_atom5 5 5 := g_atom5 hb
theorem m_term5 (hb : ByteOK b sz) : MSA b sz t e M_term5 4 5 := g_term hb (m_atom5 hb) (fun _ => rfl) (fun _ _ _ => rfl)
theorem m_added5 (hb : ByteOK b sz) : MSA b sz t e M_added5 3 5 := g_added hb (m_term5 hb) (fun _ => rfl) (fun _ _ _ => rfl)
theorem m_not5 (hb : ByteOK b sz) : MSA b sz t e M_not5 2 5 := g_not5 hb (m_added5 hb)
theorem m_both5 (hb : ByteOK b sz) : MSA b sz t e M_both5 1 5 := g_both hb (m_not5 hb) (fun _ => rfl) (fun _ _ _ => rfl)
theorem m_either5 (hb : ByteOK b sz) : MSA b sz t e M_either5 0 5 := g_either hb (m_both5 hb) (fun _ => rfl) (fun _ _ _ => rfl)
theorem m_atom4 (hb : ByteOK b sz) : MSA b sz t e M_atom4 5 4 := g_atom hb (by omega) (m_atom5 hb) (m_either5 hb) (fun _ => rfl)
theorem m_term4 (hb : ByteOK b sz) : MSA b sz t e M_term4 4 4 := g_term hb (m_atom4 hb) (fun _ => rfl) (fun _ _ _ => rfl)
theorem m_added4 (hb : ByteOK b sz) : MSA b sz t e M_added4 3 4 := g_added hb (m_term4 hb) (fun _ => rfl) (fun _ _ _ => rfl)
theorem m_not4 (hb : ByteOK b sz) : MSA b sz t e M_not4 2 4 := g_not hb (by omega) (m_added4 hb) (m_not5 hb) (fun _ => rfl)
theorem m_both4 (hb : ByteOK b sz) : MSA b sz t e M_both4 1 4 := g_both hb (m_not4 hb) (fun _ => rfl) (fun _ _ _ => rfl)
theorem m_either4 (hb : ByteOK b sz) : MSA b sz t e M_either4 0 4 := g_either hb (m_both4 hb) (fun _ => rfl) (fun _ _ _ => rfl)
theorem m_atom3 (hb : ByteOK b sz) : MSA b sz t e M_atom3 5 3 := g_atom hb (by omega) (m_atom4 hb) (m_either4 hb) (fun _ => rfl)
theorem m_term3 (hb : ByteOK b sz) : MSA b sz t e M_term3 4 3 := g_term hb (m_atom3 hb) (fun _ => rfl) (fun _ _ _ => rfl)
theorem m_added3 (hb : ByteOK b sz) : MSA b sz t e M_added3 3 3 := g_added hb (m_term3 hb) (fun _ => rfl) (fun _ _ _ => rfl)
theorem m_not3 (hb : ByteOK b sz) : MSA b sz t e M_not3 2 3 := g_not hb (by omega) (m_added3 hb) (m_not4 hb) (fun _ => rfl)
theorem m_both3 (hb : ByteOK b sz) : MSA b sz t e M_both3 1 3 := g_both hb (m_not3 hb) (fun _ => rfl) (fun _ _ _ => rfl)
theorem m_either3 (hb : ByteOK b sz) : MSA b sz t e M_either3 0 3 := g_either hb (m_both3 hb) (fun _ => rfl) (fun _ _ _ => rfl)
theorem m_atom2 (hb : ByteOK b sz) : MSA b sz t e M_atom2 5 2 := g_atom hb (by omega) (m_atom3 hb) (m_either3 hb) (fun _ => rfl)
theorem m_term2 (hb : ByteOK b sz) : MSA b sz t e M_term2 4 2 := g_term hb (m_atom2 hb) (fun _ => rfl) (fun _ _ _ => rfl)
theorem m_added2 (hb : ByteOK b sz) : MSA b sz t e M_added2 3 2 := g_added hb (m_term2 hb) (fun _ => rfl) (fun _ _ _ => rfl)
theorem m_not2 (hb : ByteOK b sz) : MSA b sz t e M_not2 2 2 := g_not hb (by omega) (m_added2 hb) (m_not3 hb) (fun _ => rfl)
theorem m_both2 (hb : ByteOK b sz) : MSA b sz t e M_both2 1 2 := g_both hb (m_not2 hb) (fun _ => rfl) (fun _ _ _ => rfl)
theorem m_either2 (hb : ByteOK b sz) : MSA b sz t e M_either2 0 2 := g_either hb (m_both2 hb) (fun _ => rfl) (fun _ _ _ => rfl)
theorem m_atom1 (hb : ByteOK b sz) : MSA b sz t e M_atom1 5 1 := g_atom hb (by omega) (m_atom2 hb) (m_either2 hb) (fun _ => rfl)
theorem m_term1 (hb : ByteOK b sz) : MSA b sz t e M_term1 4 1 := g_term hb (m_atom1 hb) (fun _ => rfl) (fun _ _ _ => rfl)
theorem m_added1 (hb : ByteOK b sz) : MSA b sz t e M_added1 3 1 := g_added hb (m_term1 hb) (fun _ => rfl) (fun _ _ _ => rfl)
theorem m_not1 (hb : ByteOK b sz) : MSA b sz t e M_not1 2 1 := g_not hb (by omega) (m_added1 hb) (m_not2 hb) (fun _ => rfl)
theorem m_both1 (hb : ByteOK b sz) : MSA b sz t e M_both1 1 1 := g_both hb (m_not1 hb) (fun _ => rfl) (fun _ _ _ => rfl)
theorem m_either1 (hb : ByteOK b sz) : MSA b sz t e M_either1 0 1 := g_either hb (m_both1 hb) (fun _ => rfl) (fun _ _ _ => rfl)
theorem m_atom0 (hb : ByteOK b sz) : MSA b sz t e M_atom0 5 0 := g_atom hb (by omega) (m_atom1 hb) (m_either1 hb) (fun _ => rfl)
theorem m_term0 (hb : ByteOK b sz) : MSA b sz t e M_term0 4 0 := g_term hb (m_atom0 hb) (fun _ => rfl) (fun _ _ _ => rfl)
theorem m_added0 (hb : ByteOK b sz) : MSA b sz t e M_added0 3 0 := g_added hb (m_term0 hb) (fun _ => rfl) (fun _ _ _ => rfl)
theorem m_not0 (hb : ByteOK b sz) : MSA b sz t e M_not0 2 0 := g_not hb (by omega) (m_added0 hb) (m_not1 hb) (fun _ => rfl)
theorem m_both0 (hb : ByteOK b sz) : MSA b sz t e M_both0 1 0 := g_both hb (m_not0 hb) (fun _ => rfl) (fun _ _ _ => rfl)
theorem m_either0 (hb : ByteOK b sz) : MSA b sz t e M_either0 0 0 := g_either hb (m_both0 hb) (fun _ => rfl) (fun _ _ _ => rfl)
end
