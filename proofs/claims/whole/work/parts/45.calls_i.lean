/-! the calls: coats, film -/
section
variable {S : Nat → Nat → Nat} {I : Nat → Nat → Int32} {P : Nat → Txt} {σ τ : Sg}
theorem x_coat_12 {p1 p2 p3 r : Int32} {σ σ' : Sg} (h : X_coat p1 p2 p3 σ = some (r, σ')) (s : Nat) : σ' 12 s 1 = σ 12 s 1 := by
  have fin : ∀ r0 : Int32, some (r0, σ) = some (r, σ') → σ' 12 s 1 = σ 12 s 1 := fun r0 e => by
    have := (Prod.mk.inj (Option.some.inj e)).2
    rw [← this]
  unfold X_coat at h
  split at h
  · exact fin _ h
  split at h
  · split at h
    · exact fin _ h
    split at h
    · split at h
      · exact fin _ h
      split at h
      · split at h
        · split at h
          · cases h
          split at h
          · cases h
          · have := (Prod.mk.inj (Option.some.inj h)).2
            rw [← this]
            rfl
        · exact fin _ h
      · exact fin _ h
    · exact fin _ h
  · exact fin _ h
theorem na_sub2 {m a b : Nat} (hm : m ≤ 1000) (ha : a ≤ 1000) (hb : b ≤ 1000) : (nI m - nI a - nI b).toInt = (m : Int) - a - b := by
  rw [Int32.toInt_sub, pk_sub_toInt (by omega) (by omega), nI_toInt (by omega)]
  exact Int.bmod_eq_of_le (by omega) (by omega)
theorem q_coats_L {s w : Nat} (hs : s < 4) (v3 : Int32) (hw : w ≤ 8) : ∀ m k came n n' (σ τ : Sg), k + m = w → m < n → m < n' → came ≤ k → (k = 0 ∨ ∃ f, f ≤ 40 ∧ v3 = nI f) → Rel σ τ → σ 12 s 1 ≠ -1 → CP (X_coats_L69 n v3 (nI w) s (nI came) (nI k) σ) (M_coats_L75 n' (nI s) v3 (nI w) (nI came) (nI k) τ) := by
  intro m
  induction m with
  | zero =>
    intro k came n n' σ τ hk hn hn' hc hf hR h12
    obtain ⟨n, rfl⟩ : ∃ x, n = x + 1 := ⟨n - 1, by omega⟩
    obtain ⟨n', rfl⟩ : ∃ x, n' = x + 1 := ⟨n' - 1, by omega⟩
    have : k = w := by omega
    subst this
    unfold X_coats_L69 M_coats_L75
    rw [if_neg (nI_nlt (Nat.le_refl _) (by omega)), if_neg (nI_nlt (Nat.le_refl _) (by omega))]
    exact CP_same hR _
  | succ m ih =>
    intro k came n n' σ τ hk hn hn' hc hf hR h12
    obtain ⟨n, rfl⟩ : ∃ x, n = x + 1 := ⟨n - 1, by omega⟩
    obtain ⟨n', rfl⟩ : ∃ x, n' = x + 1 := ⟨n' - 1, by omega⟩
    obtain ⟨S, I, P, hX, hM, hV⟩ := id hR
    obtain ⟨x1, x2⟩ := hX.2.2.2.2.1 s hs
    obtain ⟨m1, m2⟩ := hM.2.2.2.2.1 s hs
    obtain ⟨w1, w2⟩ := hV.2.2.2.2.1 s hs
    have c : S 7 s ≠ 0 := fun q => h12 (by rw [x1, if_pos q])
    obtain ⟨y1, y2⟩ := x2 c
    obtain ⟨n1, n2, n3⟩ := m2 c
    have e3k : (3 : Int32) * nI k = nI (3 * k) := na_mul 3 k
    have xl : X_coats_L69 (n + 1) v3 (nI w) s (nI came) (nI k) σ = if b2 (hrB (v3 + nI (3 * k)) (nI 3) (S 8 s)) = 0 then some (-12, σ) else
        (Sheet_item s (v3 + nI (3 * k)) σ).bind fun q2 =>
        (Sheet_item s ((v3 + nI (3 * k)) + (1 : Int32)) q2.2).bind fun q3 =>
        (Sheet_item s ((v3 + nI (3 * k)) + (2 : Int32)) q3.2).bind fun q4 =>
        (X_coat q2.1 q3.1 q4.1 q4.2).bind fun q5 =>
        if q5.1 < 0 then X_coats_L69 n v3 (nI w) s (nI came) (nI k + 1) q5.2 else X_coats_L69 n v3 (nI w) s (nI came + 1) (nI k + 1) q5.2 := by
      rw [X_coats_L69, if_pos (nI_lt (by omega) (by omega)), e3k, s_hasRow y1]
      rfl
    have ml : M_coats_L75 (n' + 1) (nI s) v3 (nI w) (nI came) (nI k) τ = if v3 < 0 then some (-12, τ) else if nI (S 8 s) - nI (3 * k) - nI 3 < v3 then some (-12, τ) else
          if ((((40 : Int32) * nI s) + v3) + nI (3 * k)) < 0 then none else if 160 ≤ ((((40 : Int32) * nI s) + v3) + nI (3 * k)).toNatClampNeg then none else
          if (((((40 : Int32) * nI s) + v3) + nI (3 * k)) + (1 : Int32)) < 0 then none else if 160 ≤ (((((40 : Int32) * nI s) + v3) + nI (3 * k)) + (1 : Int32)).toNatClampNeg then none else
          if (((((40 : Int32) * nI s) + v3) + nI (3 * k)) + (2 : Int32)) < 0 then none else if 160 ≤ (((((40 : Int32) * nI s) + v3) + nI (3 * k)) + (2 : Int32)).toNatClampNeg then none else
          (M_coat (τ 50 0 ((((40 : Int32) * nI s) + v3) + nI (3 * k)).toNatClampNeg) (τ 50 0 (((((40 : Int32) * nI s) + v3) + nI (3 * k)) + (1 : Int32)).toNatClampNeg) (τ 50 0 (((((40 : Int32) * nI s) + v3) + nI (3 * k)) + (2 : Int32)).toNatClampNeg) τ).bind fun q1 =>
          if q1.1 < 0 then M_coats_L75 n' (nI s) v3 (nI w) (nI came + (0 : Int32)) (nI k + 1) q1.2 else M_coats_L75 n' (nI s) v3 (nI w) (nI came + (1 : Int32)) (nI k + 1) q1.2 := by
      rw [M_coats_L75, if_pos (nI_lt (by omega) (by omega)), e3k]
      simp only [if_neg (nI_pos (show s < 2147483648 by omega)), na_cl (show s < 2147483648 by omega), if_neg (show ¬ 4 ≤ s by omega), n2]
      rfl
    rcases na_or v3 with q | ⟨f, hf0, rfl⟩
    · have hk0 : k = 0 := by
        rcases hf with h | ⟨f, hf, e⟩
        · exact h
        · rw [e] at q
          exact absurd q (nI_pos (by omega))
      subst hk0
      refine CP_eq (o1' := some (-12, σ)) (o2' := some (-12, τ)) ?_ (by rw [ml, if_pos q]) (CP_same hR _)
      have e0 : v3 + nI (3 * 0) = v3 := Int32.add_zero v3
      have : hrB (v3 + nI (3 * 0)) (nI 3) (S 8 s) = false := by
        rw [e0]
        unfold hrB
        simp [q]
      rw [xl, this]
      rfl
    · have hfk : f + 3 * k < 2147483648 := by
        rcases hf with h | ⟨f', hf, e⟩
        · omega
        · rw [na_eq hf0 (by omega)] at e
          omega
      rw [na_add, hrB_n hfk (by omega) w2] at xl
      rw [if_neg (nI_pos hf0)] at ml
      have cond : (nI (S 8 s) - nI (3 * k) - nI 3 < nI f) = ¬ (f + 3 * k + 3 ≤ S 8 s) := by
        rw [Int32.lt_iff_toInt_lt, na_sub2 (by omega) (by omega) (by omega), nI_toInt hf0]
        exact propext ⟨fun h => by omega, fun h => by omega⟩
      by_cases d : f + 3 * k + 3 ≤ S 8 s
      · rw [decide_eq_true d, if_neg (show ¬ b2 true = 0 by decide), show nI (f + 3 * k) + 1 = nI (f + 3 * k + 1) from na_add _ 1, show nI (f + 3 * k) + 2 = nI (f + 3 * k + 2) from na_add _ 2, s_item y1 w2 (by omega)] at xl
        simp only [Option.bind_some] at xl
        rw [s_item y1 w2 (by omega)] at xl
        simp only [Option.bind_some] at xl
        rw [s_item y1 w2 (by omega)] at xl
        simp only [Option.bind_some] at xl
        rw [y2 _ (by omega), y2 _ (by omega), y2 _ (by omega)] at xl
        rw [if_neg (by rw [cond]; exact fun h => h d), show (40 : Int32) * nI s + nI f + nI (3 * k) = nI (40 * s + (f + 3 * k)) by rw [show (40 : Int32) = nI 40 from rfl, na_mul, na_add, na_add, Nat.add_assoc], show nI (40 * s + (f + 3 * k)) + 1 = nI (40 * s + (f + 3 * k + 1)) from na_add _ 1, show nI (40 * s + (f + 3 * k)) + 2 = nI (40 * s + (f + 3 * k + 2)) from na_add _ 2, if_neg (nI_pos (by omega)), na_cl (by omega), if_neg (by omega), if_neg (nI_pos (by omega)), na_cl (by omega), if_neg (by omega), if_neg (nI_pos (by omega)), na_cl (by omega), if_neg (by omega), n3 _ (by omega), n3 _ (by omega), n3 _ (by omega)] at ml
        rw [xl, ml]
        obtain ⟨r, σ', τ', e1, e2, hR'⟩ := q_coat hR (I s (f + 3 * k)) (I s (f + 3 * k + 1)) (I s (f + 3 * k + 2))
        have g12 : σ' 12 s 1 ≠ -1 := by rw [x_coat_12 e1 s]; exact h12
        rw [e1, e2]
        simp only [Option.bind_some]
        rw [show nI k + 1 = nI (k + 1) from (nI_succ k).symm, show nI came + 0 = nI came from Int32.add_zero _, show nI came + 1 = nI (came + 1) from (nI_succ came).symm]
        by_cases neg : r < 0
        · rw [if_pos neg, if_pos neg]
          exact ih (k + 1) came n n' σ' τ' (by omega) (by omega) (by omega) (by omega) (Or.inr ⟨f, by omega, rfl⟩) hR' g12
        · rw [if_neg neg, if_neg neg]
          exact ih (k + 1) (came + 1) n n' σ' τ' (by omega) (by omega) (by omega) (by omega) (Or.inr ⟨f, by omega, rfl⟩) hR' g12
      · refine CP_eq (o1' := some (-12, σ)) (o2' := some (-12, τ)) ?_ ?_ (CP_same hR _)
        · rw [xl, decide_eq_false d]; rfl
        · rw [ml, if_pos (by rw [cond]; exact d)]
theorem q_coats (hR : Rel σ τ) (p1 p2 p3 p4 : Int32) : CP (X_coats p1 p2 p3 p4 σ) (M_coats p1 p2 p3 p4 τ) := by
  obtain ⟨S, I, P, hX, hM, hV⟩ := id hR
  have xb : irB p1 4 = false ∨ irB p2 3 = false ∨ irB p4 9 = false → X_coats p1 p2 p3 p4 σ = some (-2, σ) := by
    intro h
    unfold X_coats
    rw [s_X_isSheet]
    simp only [Option.bind_some, b2_0]
    cases h1 : irB p1 4 with
    | false => rfl
    | true =>
      rw [if_neg (by decide)]
      have h := h.resolve_left (by rw [h1]; decide)
      by_cases a1 : p2 < 0
      · rw [if_pos a1]
      by_cases a2 : 2 < p2
      · rw [if_neg a1, if_pos a2]
      rw [if_neg a1, if_neg a2]
      have g2 : irB p2 3 = true := by
        rcases na_or p2 with q | ⟨k, hk, rfl⟩
        · exact absurd q a1
        · rw [irB_n hk (by omega)]
          exact decide_eq_true (Nat.lt_of_not_le fun q => a2 (nI_lt (a := 2) (by omega) hk))
      have h := h.resolve_left (by rw [g2]; decide)
      rcases irB_f (by omega) h with q | ⟨k, hk, hk7, rfl⟩
      · rw [if_pos q]
      · rw [if_neg (nI_pos hk), if_pos (show 8 < nI k from nI_lt (a := 8) (by omega) hk)]
  have mb : irB p1 4 = false ∨ irB p2 3 = false ∨ irB p4 9 = false → M_coats p1 p2 p3 p4 τ = some (-2, τ) := by
    intro h
    unfold M_coats
    rw [s_M_isSheet]
    simp only [Option.bind_some, b2_0]
    cases h1 : irB p1 4 with
    | false => rfl
    | true =>
      rw [if_neg (by decide), M_in_l p2 2 (by omega)]
      simp only [Option.bind_some, b2_0]
      cases h2 : irB p2 3 with
      | false => rfl
      | true =>
        rw [if_neg (by decide), M_in_l p4 8 (by omega)]
        simp only [Option.bind_some, b2_0]
        have h := (h.resolve_left (by rw [h1]; decide)).resolve_left (by rw [h2]; decide)
        rw [h]
        rfl
  cases h1 : irB p1 4 with
  | false => exact CP_eq (xb (Or.inl h1)) (mb (Or.inl h1)) (CP_same hR _)
  | true =>
    cases h2 : irB p2 3 with
    | false => exact CP_eq (xb (Or.inr (Or.inl h2))) (mb (Or.inr (Or.inl h2))) (CP_same hR _)
    | true =>
      cases h4 : irB p4 9 with
      | false => exact CP_eq (xb (Or.inr (Or.inr h4))) (mb (Or.inr (Or.inr h4))) (CP_same hR _)
      | true =>
        obtain ⟨s, hs, rfl⟩ := irB_t (by omega) h1
        obtain ⟨k, hk, rfl⟩ := irB_t (by omega) h2
        obtain ⟨w, hw, rfl⟩ := irB_t (by omega) h4
        obtain ⟨x1, x2⟩ := hX.2.2.2.2.1 s hs
        obtain ⟨m1, m2⟩ := hM.2.2.2.2.1 s hs
        obtain ⟨w1, w2⟩ := hV.2.2.2.2.1 s hs
        have xs : X_coats (nI s) (nI k) p3 (nI w) σ = if (σ 12 s 1) = -1 then some (-11, σ) else if (σ 12 s 1) = nI k then X_coats_L69 FU p3 (nI w) s 0 0 σ else some (-13, σ) := by
          unfold X_coats
          rw [s_X_isSheet, h1]
          simp only [Option.bind_some]
          rw [if_neg (show ¬ b2 true = 0 by decide), if_neg (nI_pos (by omega)), if_neg (show ¬ 2 < nI k from nI_nlt (a := 2) (by omega) (by decide)), if_neg (nI_pos (by omega)), if_neg (show ¬ 8 < nI w from nI_nlt (a := 8) (by omega) (by decide)), if_neg (nI_pos (by omega)), na_cl (by omega), if_neg (by omega)]
        have ms : M_coats (nI s) (nI k) p3 (nI w) τ = if τ 47 0 s = 0 then some (-11, τ) else if τ 48 0 s = nI k then M_coats_L75 FU (nI s) p3 (nI w) 0 0 τ else some (-13, τ) := by
          unfold M_coats
          rw [s_M_isSheet, h1]
          simp only [Option.bind_some]
          rw [if_neg (show ¬ b2 true = 0 by decide), M_in_l (nI k) 2 (by omega), h2]
          simp only [Option.bind_some]
          rw [if_neg (show ¬ b2 true = 0 by decide), M_in_l (nI w) 8 (by omega), h4]
          simp only [Option.bind_some]
          rw [if_neg (show ¬ b2 true = 0 by decide)]
          simp only [if_neg (nI_pos (show s < 2147483648 by omega)), na_cl (show s < 2147483648 by omega), if_neg (show ¬ 4 ≤ s by omega)]
          by_cases z : τ 47 0 s = 0
          · rw [if_pos z, if_pos z, if_pos z]
          · rw [if_neg z, if_neg z, if_neg z]
        by_cases c : S 7 s = 0
        · refine CP_eq (o1' := some (-11, σ)) (o2' := some (-11, τ)) ?_ ?_ (CP_same hR _)
          · rw [xs, x1, if_pos c, if_pos rfl]
          · rw [ms, m1, if_pos c, if_pos rfl]
        · have x1n : σ 12 s 1 = nI (S 7 s - 1) := by rw [x1, if_neg c]
          have n1 := (m2 c).1
          rw [if_neg (by rw [x1n]; exact srI_n1 c w1), x1n] at xs
          rw [if_neg (by rw [m1, if_neg c]; decide), n1] at ms
          rw [xs, ms]
          by_cases d : nI (S 7 s - 1) = nI k
          · rw [if_pos d, if_pos d]
            exact q_coats_L hs p3 (by omega) w 0 0 FU FU σ τ (by omega) (FU_big (by omega)) (FU_big (by omega)) (Nat.le_refl _) (Or.inl rfl) hR (by rw [x1n]; exact srI_n1 c w1)
          · rw [if_neg d, if_neg d]
            exact CP_same hR (-13)
/-- what film() leaves -/
def fiI (S : Nat → Nat → Nat) (I : Nat → Nat → Int32) (P : Nat → Txt) (s c h n : Nat) : Nat → Nat → Int32 := fun s' j => if s' = s ∧ j < n then b2 (fitS S P c j h) else shI I s s' j
theorem fiI_s {s c h n : Nat} : fiI S I P s c h (n + 1) = upI (fiI S I P s c h n) s n (b2 (fitS S P c n h)) := by
  funext s' j
  unfold upI fiI
  by_cases e : s' = s ∧ j = n
  · obtain ⟨e1, e2⟩ := e
    subst e1; subst e2
    rw [if_pos ⟨rfl, by omega⟩, if_pos ⟨rfl, rfl⟩]
  · rw [if_neg e]
    by_cases d : s' = s ∧ j < n
    · rw [if_pos d, if_pos (by omega)]
    · rw [if_neg d, if_neg (by omega)]
theorem fiI_0 {s c h : Nat} : fiI S I P s c h 0 = shI I s := by
  funext s' j
  unfold fiI
  rw [if_neg (by omega)]
theorem cvI_b2 (b : Bool) : cvI 1 (b2 b) = b2 b := by cases b <;> rfl
theorem b2_nI (b : Bool) (k : Nat) : nI k + b2 b = nI (k + (if b = true then 1 else 0)) := by
  cases b with
  | false => exact Int32.add_zero _
  | true => exact na_add k 1
theorem q_film (hR : Rel σ τ) (p1 p2 p3 p4 : Int32) : CP (X_film p1 p2 p3 p4 σ) (M_film p1 p2 p3 p4 τ) := by
  obtain ⟨S, I, P, hX, hM, hV⟩ := id hR
  obtain ⟨v1, v2, v3, v4⟩ := hV.1
  unfold X_film M_film
  rw [s_X_isSheet, s_M_isSheet]
  simp only [Option.bind_some, b2_0]
  cases h1 : irB p1 4 with
  | false => exact CP_same hR (-2)
  | true =>
    obtain ⟨s, hs, rfl⟩ := irB_t (by omega) h1
    rw [if_neg (show ¬ true = false by decide), if_neg (show ¬ true = false by decide), s_X_isCoat hX.1.1 v1, s_M_isCoat hM.1.1 v1]
    simp only [Option.bind_some, b2_0]
    cases h2 : irB p2 (S 5 0) with
    | false => exact CP_same hR (-2)
    | true =>
      obtain ⟨c, hc, rfl⟩ := irB_t (by omega) h2
      rw [if_neg (show ¬ true = false by decide), if_neg (show ¬ true = false by decide), s_X_isHour', s_M_isHour']
      simp only [Option.bind_some, b2_0]
      cases h3 : irB p3 24 with
      | false => exact CP_same hR (-2)
      | true =>
        obtain ⟨h, hh, rfl⟩ := irB_t (by omega) h3
        rw [if_neg (show ¬ true = false by decide), if_neg (show ¬ true = false by decide), M_in_l p4 40 (by omega)]
        simp only [Option.bind_some, b2_0]
        cases h4 : irB p4 41 with
        | false =>
          refine CP_eq (o1' := some (-2, σ)) (o2' := some (-2, τ)) ?_ (if_pos rfl) (CP_same hR _)
          rcases irB_f (by omega) h4 with q | ⟨k, hk, hk7, rfl⟩
          · rw [if_pos q]
          · rw [if_neg (nI_pos hk), if_pos (show 40 < nI k from nI_lt (a := 40) (by omega) hk)]
        | true =>
          obtain ⟨n, hn, rfl⟩ := irB_t (by omega) h4
          have hV' : SV (shS S s 1 n) := hV.sheet (by omega) (by omega)
          refine CP_mk (r := nI (ctN (fun j => fitS S P c j h) n)) (S := shS S s 1 n) (I := fiI S I P s c h n) (P := P) ?_ ?_ hV'
          · rw [if_neg (nI_pos (by omega)), if_neg (show ¬ 40 < nI n from nI_nlt (a := 40) (by omega) (by decide)), if_neg (nI_pos (by omega)), na_cl (by omega), if_neg (by omega)]
            refine wp_bind (x_become (k := 1) (m := n) hX hs (clampN (by omega)) (by omega)) ?_
            rintro σ6 ⟨hX6, _⟩
            refine loopW (fun m (s' : Int32 × Sg) i => X_film_L55 m (nI s) (nI c) (nI h) (nI n) s'.1 (nI i) s'.2) (fun i s' => s'.1 = nI (ctN (fun j => fitS S P c j h) i) ∧ RX (shS S s 1 n) (fiI S I P s c h i) P s'.2) n _ ?_ ?_ 0 ((0 : Int32), σ6) FU (Nat.zero_le _) ⟨rfl, by rw [fiI_0]; exact hX6⟩ (FU_big (by omega))
            · rintro m i ⟨acc, σ1⟩ hi ⟨e, hX1⟩ k
              have e : acc = nI (ctN (fun j => fitS S P c j h) i) := e
              subst e
              have hX1 : RX (shS S s 1 n) (fiI S I P s c h i) P σ1 := hX1
              show wp (X_film_L55 (m + 1) (nI s) (nI c) (nI h) (nI n) (nI _) (nI i) σ1) _
              have r6 : σ1 0 0 6 = nI (S 5 1) := hX1.1.2.1
              rw [X_film_L55, if_pos (nI_lt hi (by omega)), r6, if_neg (nI_pos (by omega)), na_cl (by omega), if_neg (by omega), if_neg (nI_pos (by omega)), na_cl (by omega), if_neg (by omega)]
              obtain ⟨σ2, e2, f2⟩ := x_fits (m := i) hX1 hV' hM.tp hc (by omega) h
              rw [show X_fitsAt (S 5 1) c (nI i) (nI h) σ1 = some (b2 (fitS S P c i h), σ2) from e2]
              have hX2 := hX1.fr hV' (f2.mo fun g a j h => EX.nx h)
              simp only [Option.bind_some, b2_0]
              obtain ⟨g1, g2⟩ := hX2.2.2.2.2.1 s hs
              rw [shS_7] at g1 g2
              have g3 := (g2 (by omega)).1
              rw [shS_8] at g3
              have fin : ∀ b : Bool, fitS S P c i h = b → wp (X_film_J91 (fun y0 y1 y2 y3 y4 y5 τ => X_film_L55 m y0 y1 y2 y3 y4 y5 τ) (nI s) (nI c) (nI h) (nI n) (nI (ctN (fun j => fitS S P c j h) i)) (nI i) (b2 b) σ2) (fun r => r.1 = nI (ctN (fun j => fitS S P c j h) n) ∧ RX (shS S s 1 n) (fiI S I P s c h n) P r.2) := by
                intro b hb
                unfold X_film_J91
                rw [if_neg (nI_pos (by omega)), na_cl (by omega), if_neg (by omega), s_put g3 (by omega) hi (k := 1) g1 (by omega) (by omega), cvI_b2]
                simp only [Option.bind_some]
                rw [show nI i + 1 = nI (i + 1) from (nI_succ i).symm, b2_nI]
                refine k (_, _) ⟨?_, ?_⟩
                · show nI _ = nI (ctN (fun j => fitS S P c j h) i + (if fitS S P c i h = true then 1 else 0))
                  rw [hb]
                · show RX (shS S s 1 n) (fiI S I P s c h (i + 1)) P (upd3 σ2 13 s i (b2 b))
                  rw [fiI_s, hb]
                  exact hX2.item
              cases hb : fitS S P c i h with
              | false => exact fin false hb
              | true => exact fin true hb
            · rintro m ⟨acc, σ1⟩ ⟨e, hX1⟩
              show wp (X_film_L55 (m + 1) (nI s) (nI c) (nI h) (nI n) acc (nI n) σ1) _
              rw [X_film_L55, if_neg (nI_nlt (Nat.le_refl _) (by omega))]
              exact wp_some ⟨e, hX1⟩
          · rw [if_neg (show ¬ true = false by decide)]
            refine wp_bind (m_sheetOn (k := 0) hM hV hs (by omega) (show n ≤ 40 by omega)) ?_
            rintro ⟨r6, τ6⟩ ⟨_, hM6, _⟩
            refine loopW (fun m (s' : Int32 × Sg) i => M_film_L53 m (nI s) (nI c) (nI h) (nI n) s'.1 (nI i) s'.2) (fun i s' => s'.1 = nI (ctN (fun j => fitS S P c j h) i) ∧ RM (shS S s 1 n) (fiI S I P s c h i) P s'.2) n _ ?_ ?_ 0 ((0 : Int32), τ6) FU (Nat.zero_le _) ⟨rfl, by rw [fiI_0]; exact hM6⟩ (FU_big (by omega))
            · rintro m i ⟨acc, σ1⟩ hi ⟨e, hM1⟩ k
              have e : acc = nI (ctN (fun j => fitS S P c j h) i) := e
              subst e
              have hM1 : RM (shS S s 1 n) (fiI S I P s c h i) P σ1 := hM1
              show wp (M_film_L53 (m + 1) (nI s) (nI c) (nI h) (nI n) (nI _) (nI i) σ1) _
              rw [M_film_L53, if_pos (nI_lt hi (by omega))]
              obtain ⟨σ2, e2, f2⟩ := m_fits (m := i) hM1 hV' hc (by omega) h
              rw [show M_fits (nI c) (nI i) (nI h) σ1 = some (b2 (fitS S P c i h), σ2) from e2]
              have hM2 := hM1.fr (f2.mo fun g a j h => SF.nm h)
              simp only [Option.bind_some, b2_0]
              have fin : ∀ b : Bool, fitS S P c i h = b → wp (M_film_J76 (fun y0 y1 y2 y3 y4 y5 τ => M_film_L53 m y0 y1 y2 y3 y4 y5 τ) (nI s) (nI c) (nI h) (nI n) (nI (ctN (fun j => fitS S P c j h) i)) (nI i) (b2 b) σ2) (fun r => r.1 = nI (ctN (fun j => fitS S P c j h) n) ∧ RM (shS S s 1 n) (fiI S I P s c h n) P r.2) := by
                intro b hb
                unfold M_film_J76
                rw [show (40 : Int32) * nI s + nI i = nI (40 * s + i) by rw [show (40 : Int32) = nI 40 from rfl, na_mul, na_add], if_neg (nI_pos (by omega)), na_cl (by omega), if_neg (by omega), show nI i + 1 = nI (i + 1) from (nI_succ i).symm, b2_nI]
                refine k (_, _) ⟨?_, ?_⟩
                · show nI _ = nI (ctN (fun j => fitS S P c j h) i + (if fitS S P c i h = true then 1 else 0))
                  rw [hb]
                · show RM (shS S s 1 n) (fiI S I P s c h (i + 1)) P (upd3 σ2 50 0 (40 * s + i) (b2 b))
                  rw [fiI_s, hb]
                  exact hM2.item hV' hs (by omega)
              cases hb : fitS S P c i h with
              | false => exact fin false hb
              | true => exact fin true hb
            · rintro m ⟨acc, σ1⟩ ⟨e, hM1⟩
              show wp (M_film_L53 (m + 1) (nI s) (nI c) (nI h) (nI n) acc (nI n) σ1) _
              rw [M_film_L53, if_neg (nI_nlt (Nat.le_refl _) (by omega))]
              exact wp_some ⟨e, hM1⟩
end
