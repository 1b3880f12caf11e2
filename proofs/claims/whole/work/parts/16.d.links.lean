theorem tb_M_added2 : ∀ q ∈ tab_M_added2, ab_bk (ab_mo 106) (ab_mb 106) (ab_ml 106) 1 q.1 q.2 = true := List.all_eq_true.mp (by decide +kernel)
theorem lc_M_added2_J39 {l : Launch} {G : ab_Gt} (hG : ab_GG G) {k5 : Int32 → Sg → Option (Int32 × Sg)} (h5 : ab_KS l G 106 (25) finI 5 (kc_M_added2_5 k5)) : ab_KS l G 106 (25) finI 39 (kc_M_added2_39 (M_added2_J39 k5)) := by
  intro L st σ res h
  unfold kc_M_added2_39 at h
  split at h
  · split at h
    · rename_i hb
      simp only [Bool.and_eq_true, Nat.beq_eq] at hb
      obtain ⟨hb1, hb2⟩ := hb
      subst hb1
      subst hb2
      exact ab_ev_sound (tab := tab_M_added2) (Os := [(79, cp_M_next), (83, cp_M_isSign), (105, cp_M_term2)]) (Ks := [(5, kc_M_added2_5 k5)]) (fin := finI) hG (by omega) rfl (List.forall_mem_cons.mpr ⟨⟨2, by omega, cs_M_next hG⟩, (List.forall_mem_cons.mpr ⟨⟨1, by omega, cs_M_isSign hG⟩, (List.forall_mem_cons.mpr ⟨⟨24, by omega, cs_M_term2 hG⟩, (fun _ h => absurd h List.not_mem_nil)⟩)⟩)⟩) (List.forall_mem_cons.mpr ⟨h5, (fun _ h => absurd h List.not_mem_nil)⟩) tb_M_added2 300 (ab_row tab_M_added2 39) 39 _ _ σ res (ab_row_bk tb_M_added2 39) ((e_M_added2_J39 _ _ _ _ _ _).trans h)
    · cases h
  · cases h
theorem lc_M_added2_J23 {l : Launch} {G : ab_Gt} (hG : ab_GG G) {k5 : Int32 → Sg → Option (Int32 × Sg)} (h5 : ab_KS l G 106 (25) finI 5 (kc_M_added2_5 k5)) : ab_KS l G 106 (25) finI 23 (kc_M_added2_23 (M_added2_J23 k5)) := by
  intro L st σ res h
  unfold kc_M_added2_23 at h
  split at h
  · split at h
    · rename_i hb
      simp only [Bool.and_eq_true, Nat.beq_eq] at hb
      obtain ⟨hb1, hb2⟩ := hb
      subst hb1
      subst hb2
      exact ab_ev_sound (tab := tab_M_added2) (Os := [(79, cp_M_next), (83, cp_M_isSign), (105, cp_M_term2)]) (Ks := [(39, kc_M_added2_39 (M_added2_J39 k5))]) (fin := finI) hG (by omega) rfl (List.forall_mem_cons.mpr ⟨⟨2, by omega, cs_M_next hG⟩, (List.forall_mem_cons.mpr ⟨⟨1, by omega, cs_M_isSign hG⟩, (List.forall_mem_cons.mpr ⟨⟨24, by omega, cs_M_term2 hG⟩, (fun _ h => absurd h List.not_mem_nil)⟩)⟩)⟩) (List.forall_mem_cons.mpr ⟨lc_M_added2_J39 hG h5, (fun _ h => absurd h List.not_mem_nil)⟩) tb_M_added2 300 (ab_row tab_M_added2 23) 23 _ _ σ res (ab_row_bk tb_M_added2 23) ((e_M_added2_J23 _ _ _ _ _).trans h)
    · cases h
  · cases h
theorem lc_M_added2_L5 {l : Launch} {G : ab_Gt} (hG : ab_GG G) : ∀ n : Nat, ab_KS l G 106 (25) finI 5 (kc_M_added2_5 (M_added2_L5 n)) := by
  intro n
  induction n with
  | zero =>
    intro L st σ res h
    unfold kc_M_added2_5 at h
    split at h
    · split at h
      · rename_i hb
        simp only [Bool.and_eq_true, Nat.beq_eq] at hb
        obtain ⟨hb1, hb2⟩ := hb
        subst hb1
        subst hb2
        exact absurd (show none = some res from h) (fun h => by cases h)
      · cases h
    · cases h
  | succ n ih =>
    intro L st σ res h
    unfold kc_M_added2_5 at h
    split at h
    · split at h
      · rename_i hb
        simp only [Bool.and_eq_true, Nat.beq_eq] at hb
        obtain ⟨hb1, hb2⟩ := hb
        subst hb1
        subst hb2
        exact ab_ev_sound (tab := tab_M_added2) (Os := [(79, cp_M_next), (83, cp_M_isSign), (105, cp_M_term2)]) (Ks := [(23, kc_M_added2_23 (M_added2_J23 (fun y0 τ => M_added2_L5 n y0 τ)))]) (fin := finI) hG (by omega) rfl (List.forall_mem_cons.mpr ⟨⟨2, by omega, cs_M_next hG⟩, (List.forall_mem_cons.mpr ⟨⟨1, by omega, cs_M_isSign hG⟩, (List.forall_mem_cons.mpr ⟨⟨24, by omega, cs_M_term2 hG⟩, (fun _ h => absurd h List.not_mem_nil)⟩)⟩)⟩) (List.forall_mem_cons.mpr ⟨lc_M_added2_J23 hG ih, (fun _ h => absurd h List.not_mem_nil)⟩) tb_M_added2 300 (ab_row tab_M_added2 5) 5 _ _ σ res (ab_row_bk tb_M_added2 5) ((e_M_added2_L5  _ _ _ _ _).trans h)
      · cases h
    · cases h
theorem lk_M_added2 {l : Launch} {G : ab_Gt} (hG : ab_GG G) {r : Int32} {σ σ' : Sg} (h : M_added2  σ = some (r, σ')) : ab_CO l G 106 (25) [(vR 30 0)] σ (vI r) σ' := by
  obtain ⟨r0, σ2, hR, hf⟩ := ab_ev_sound (tab := tab_M_added2) (Os := [(79, cp_M_next), (83, cp_M_isSign), (105, cp_M_term2)]) (Ks := [(5, kc_M_added2_5 (M_added2_L5 FU))]) (fin := finI) hG (d := 25) (by omega) rfl (List.forall_mem_cons.mpr ⟨⟨2, by omega, cs_M_next hG⟩, (List.forall_mem_cons.mpr ⟨⟨1, by omega, cs_M_isSign hG⟩, (List.forall_mem_cons.mpr ⟨⟨24, by omega, cs_M_term2 hG⟩, (fun _ h => absurd h List.not_mem_nil)⟩)⟩)⟩) (List.forall_mem_cons.mpr ⟨lc_M_added2_L5 hG FU, (fun _ h => absurd h List.not_mem_nil)⟩) tb_M_added2 300 (ab_row tab_M_added2 0) 0 (ab_ini (ab_ml 106) [(vR 30 0)]) [] σ (r, σ') (ab_row_bk tb_M_added2 0) ((e_M_added2 _).trans h)
  obtain ⟨rfl, rfl⟩ := finI_inv hf
  exact ab_met (by decide) rfl (Nat.le_of_ble_eq_true rfl) hR
theorem cs_M_added2 {l : Launch} {G : ab_Gt} (hG : ab_GG G) {R : Type} : ab_CS (R := R) l G 106 (25) cp_M_added2 := by
  intro as σ k res h
  unfold cp_M_added2 at h
  split at h
  · split at h
    · rename_i hb
      simp only [Bool.and_eq_true, Nat.beq_eq] at hb
      obtain ⟨hb1, hb2⟩ := hb
      subst hb1
      subst hb2
      obtain ⟨q, hq, hk⟩ := Option.bind_eq_some_iff.mp h
      exact ⟨_, _, lk_M_added2 hG hq, rfl, (fun _ => Or.inl ⟨rfl, rfl⟩), hk⟩
    · cases h
  · cases h
theorem tb_M_not2 : ∀ q ∈ tab_M_not2, ab_bk (ab_mo 107) (ab_mb 107) (ab_ml 107) 1 q.1 q.2 = true := List.all_eq_true.mp (by decide +kernel)
theorem lc_M_not2_J93 {l : Launch} {G : ab_Gt} (hG : ab_GG G) : ab_KS l G 107 (26) finI 93 (kc_M_not2_93 (M_not2_J93)) := by
  intro L st σ res h
  unfold kc_M_not2_93 at h
  split at h
  · split at h
    · rename_i hb
      simp only [Bool.and_eq_true, Nat.beq_eq] at hb
      obtain ⟨hb1, hb2⟩ := hb
      subst hb1
      subst hb2
      exact ab_ev_sound (tab := tab_M_not2) (Os := [(79, cp_M_next), (82, cp_M_isWord), (83, cp_M_isSign), (84, cp_M_opens), (101, cp_M_not3), (106, cp_M_added2)]) (Ks := []) (fin := finI) hG (by omega) rfl (List.forall_mem_cons.mpr ⟨⟨2, by omega, cs_M_next hG⟩, (List.forall_mem_cons.mpr ⟨⟨3, by omega, cs_M_isWord hG⟩, (List.forall_mem_cons.mpr ⟨⟨1, by omega, cs_M_isSign hG⟩, (List.forall_mem_cons.mpr ⟨⟨3, by omega, cs_M_opens hG⟩, (List.forall_mem_cons.mpr ⟨⟨20, by omega, cs_M_not3 hG⟩, (List.forall_mem_cons.mpr ⟨⟨25, by omega, cs_M_added2 hG⟩, (fun _ h => absurd h List.not_mem_nil)⟩)⟩)⟩)⟩)⟩)⟩) (fun _ h => absurd h List.not_mem_nil) tb_M_not2 300 (ab_row tab_M_not2 93) 93 _ _ σ res (ab_row_bk tb_M_not2 93) ((e_M_not2_J93  _ _ _ _ _).trans h)
    · cases h
  · cases h
theorem lc_M_not2_J77 {l : Launch} {G : ab_Gt} (hG : ab_GG G) : ab_KS l G 107 (26) finI 77 (kc_M_not2_77 (M_not2_J77)) := by
  intro L st σ res h
  unfold kc_M_not2_77 at h
  split at h
  · split at h
    · rename_i hb
      simp only [Bool.and_eq_true, Nat.beq_eq] at hb
      obtain ⟨hb1, hb2⟩ := hb
      subst hb1
      subst hb2
      exact ab_ev_sound (tab := tab_M_not2) (Os := [(79, cp_M_next), (82, cp_M_isWord), (83, cp_M_isSign), (84, cp_M_opens), (101, cp_M_not3), (106, cp_M_added2)]) (Ks := [(93, kc_M_not2_93 (M_not2_J93))]) (fin := finI) hG (by omega) rfl (List.forall_mem_cons.mpr ⟨⟨2, by omega, cs_M_next hG⟩, (List.forall_mem_cons.mpr ⟨⟨3, by omega, cs_M_isWord hG⟩, (List.forall_mem_cons.mpr ⟨⟨1, by omega, cs_M_isSign hG⟩, (List.forall_mem_cons.mpr ⟨⟨3, by omega, cs_M_opens hG⟩, (List.forall_mem_cons.mpr ⟨⟨20, by omega, cs_M_not3 hG⟩, (List.forall_mem_cons.mpr ⟨⟨25, by omega, cs_M_added2 hG⟩, (fun _ h => absurd h List.not_mem_nil)⟩)⟩)⟩)⟩)⟩)⟩) (List.forall_mem_cons.mpr ⟨lc_M_not2_J93 hG, (fun _ h => absurd h List.not_mem_nil)⟩) tb_M_not2 300 (ab_row tab_M_not2 77) 77 _ _ σ res (ab_row_bk tb_M_not2 77) ((e_M_not2_J77  _ _ _ _).trans h)
    · cases h
  · cases h
theorem lk_M_not2 {l : Launch} {G : ab_Gt} (hG : ab_GG G) {r : Int32} {σ σ' : Sg} (h : M_not2  σ = some (r, σ')) : ab_CO l G 107 (26) [(vR 30 0)] σ (vI r) σ' := by
  obtain ⟨r0, σ2, hR, hf⟩ := ab_ev_sound (tab := tab_M_not2) (Os := [(79, cp_M_next), (82, cp_M_isWord), (83, cp_M_isSign), (84, cp_M_opens), (101, cp_M_not3), (106, cp_M_added2)]) (Ks := [(77, kc_M_not2_77 (M_not2_J77))]) (fin := finI) hG (d := 26) (by omega) rfl (List.forall_mem_cons.mpr ⟨⟨2, by omega, cs_M_next hG⟩, (List.forall_mem_cons.mpr ⟨⟨3, by omega, cs_M_isWord hG⟩, (List.forall_mem_cons.mpr ⟨⟨1, by omega, cs_M_isSign hG⟩, (List.forall_mem_cons.mpr ⟨⟨3, by omega, cs_M_opens hG⟩, (List.forall_mem_cons.mpr ⟨⟨20, by omega, cs_M_not3 hG⟩, (List.forall_mem_cons.mpr ⟨⟨25, by omega, cs_M_added2 hG⟩, (fun _ h => absurd h List.not_mem_nil)⟩)⟩)⟩)⟩)⟩)⟩) (List.forall_mem_cons.mpr ⟨lc_M_not2_J77 hG, (fun _ h => absurd h List.not_mem_nil)⟩) tb_M_not2 300 (ab_row tab_M_not2 0) 0 (ab_ini (ab_ml 107) [(vR 30 0)]) [] σ (r, σ') (ab_row_bk tb_M_not2 0) ((e_M_not2 _).trans h)
  obtain ⟨rfl, rfl⟩ := finI_inv hf
  exact ab_met (by decide) rfl (Nat.le_of_ble_eq_true rfl) hR
theorem cs_M_not2 {l : Launch} {G : ab_Gt} (hG : ab_GG G) {R : Type} : ab_CS (R := R) l G 107 (26) cp_M_not2 := by
  intro as σ k res h
  unfold cp_M_not2 at h
  split at h
  · split at h
    · rename_i hb
      simp only [Bool.and_eq_true, Nat.beq_eq] at hb
      obtain ⟨hb1, hb2⟩ := hb
      subst hb1
      subst hb2
      obtain ⟨q, hq, hk⟩ := Option.bind_eq_some_iff.mp h
      exact ⟨_, _, lk_M_not2 hG hq, rfl, (fun _ => Or.inl ⟨rfl, rfl⟩), hk⟩
    · cases h
  · cases h
theorem tb_M_both2 : ∀ q ∈ tab_M_both2, ab_bk (ab_mo 108) (ab_mb 108) (ab_ml 108) 1 q.1 q.2 = true := List.all_eq_true.mp (by decide +kernel)
theorem lc_M_both2_L5 {l : Launch} {G : ab_Gt} (hG : ab_GG G) : ∀ n : Nat, ab_KS l G 108 (27) finI 5 (kc_M_both2_5 (M_both2_L5 n)) := by
  intro n
  induction n with
  | zero =>
    intro L st σ res h
    unfold kc_M_both2_5 at h
    split at h
    · split at h
      · rename_i hb
        simp only [Bool.and_eq_true, Nat.beq_eq] at hb
        obtain ⟨hb1, hb2⟩ := hb
        subst hb1
        subst hb2
        exact absurd (show none = some res from h) (fun h => by cases h)
      · cases h
    · cases h
  | succ n ih =>
    intro L st σ res h
    unfold kc_M_both2_5 at h
    split at h
    · split at h
      · rename_i hb
        simp only [Bool.and_eq_true, Nat.beq_eq] at hb
        obtain ⟨hb1, hb2⟩ := hb
        subst hb1
        subst hb2
        exact ab_ev_sound (tab := tab_M_both2) (Os := [(79, cp_M_next), (82, cp_M_isWord), (107, cp_M_not2)]) (Ks := [(5, kc_M_both2_5 (M_both2_L5 n))]) (fin := finI) hG (by omega) rfl (List.forall_mem_cons.mpr ⟨⟨2, by omega, cs_M_next hG⟩, (List.forall_mem_cons.mpr ⟨⟨3, by omega, cs_M_isWord hG⟩, (List.forall_mem_cons.mpr ⟨⟨26, by omega, cs_M_not2 hG⟩, (fun _ h => absurd h List.not_mem_nil)⟩)⟩)⟩) (List.forall_mem_cons.mpr ⟨ih, (fun _ h => absurd h List.not_mem_nil)⟩) tb_M_both2 300 (ab_row tab_M_both2 5) 5 _ _ σ res (ab_row_bk tb_M_both2 5) ((e_M_both2_L5  _ _ _ _).trans h)
      · cases h
    · cases h
theorem lk_M_both2 {l : Launch} {G : ab_Gt} (hG : ab_GG G) {r : Int32} {σ σ' : Sg} (h : M_both2  σ = some (r, σ')) : ab_CO l G 108 (27) [(vR 30 0)] σ (vI r) σ' := by
  obtain ⟨r0, σ2, hR, hf⟩ := ab_ev_sound (tab := tab_M_both2) (Os := [(79, cp_M_next), (82, cp_M_isWord), (107, cp_M_not2)]) (Ks := [(5, kc_M_both2_5 (M_both2_L5 FU))]) (fin := finI) hG (d := 27) (by omega) rfl (List.forall_mem_cons.mpr ⟨⟨2, by omega, cs_M_next hG⟩, (List.forall_mem_cons.mpr ⟨⟨3, by omega, cs_M_isWord hG⟩, (List.forall_mem_cons.mpr ⟨⟨26, by omega, cs_M_not2 hG⟩, (fun _ h => absurd h List.not_mem_nil)⟩)⟩)⟩) (List.forall_mem_cons.mpr ⟨lc_M_both2_L5 hG FU, (fun _ h => absurd h List.not_mem_nil)⟩) tb_M_both2 300 (ab_row tab_M_both2 0) 0 (ab_ini (ab_ml 108) [(vR 30 0)]) [] σ (r, σ') (ab_row_bk tb_M_both2 0) ((e_M_both2 _).trans h)
  obtain ⟨rfl, rfl⟩ := finI_inv hf
  exact ab_met (by decide) rfl (Nat.le_of_ble_eq_true rfl) hR
theorem cs_M_both2 {l : Launch} {G : ab_Gt} (hG : ab_GG G) {R : Type} : ab_CS (R := R) l G 108 (27) cp_M_both2 := by
  intro as σ k res h
  unfold cp_M_both2 at h
  split at h
  · split at h
    · rename_i hb
      simp only [Bool.and_eq_true, Nat.beq_eq] at hb
      obtain ⟨hb1, hb2⟩ := hb
      subst hb1
      subst hb2
      obtain ⟨q, hq, hk⟩ := Option.bind_eq_some_iff.mp h
      exact ⟨_, _, lk_M_both2 hG hq, rfl, (fun _ => Or.inl ⟨rfl, rfl⟩), hk⟩
    · cases h
  · cases h
theorem tb_M_either2 : ∀ q ∈ tab_M_either2, ab_bk (ab_mo 109) (ab_mb 109) (ab_ml 109) 1 q.1 q.2 = true := List.all_eq_true.mp (by decide +kernel)
theorem lc_M_either2_L5 {l : Launch} {G : ab_Gt} (hG : ab_GG G) : ∀ n : Nat, ab_KS l G 109 (28) finI 5 (kc_M_either2_5 (M_either2_L5 n)) := by
  intro n
  induction n with
  | zero =>
    intro L st σ res h
    unfold kc_M_either2_5 at h
    split at h
    · split at h
      · rename_i hb
        simp only [Bool.and_eq_true, Nat.beq_eq] at hb
        obtain ⟨hb1, hb2⟩ := hb
        subst hb1
        subst hb2
        exact absurd (show none = some res from h) (fun h => by cases h)
      · cases h
    · cases h
  | succ n ih =>
    intro L st σ res h
    unfold kc_M_either2_5 at h
    split at h
    · split at h
      · rename_i hb
        simp only [Bool.and_eq_true, Nat.beq_eq] at hb
        obtain ⟨hb1, hb2⟩ := hb
        subst hb1
        subst hb2
        exact ab_ev_sound (tab := tab_M_either2) (Os := [(79, cp_M_next), (82, cp_M_isWord), (108, cp_M_both2)]) (Ks := [(5, kc_M_either2_5 (M_either2_L5 n))]) (fin := finI) hG (by omega) rfl (List.forall_mem_cons.mpr ⟨⟨2, by omega, cs_M_next hG⟩, (List.forall_mem_cons.mpr ⟨⟨3, by omega, cs_M_isWord hG⟩, (List.forall_mem_cons.mpr ⟨⟨27, by omega, cs_M_both2 hG⟩, (fun _ h => absurd h List.not_mem_nil)⟩)⟩)⟩) (List.forall_mem_cons.mpr ⟨ih, (fun _ h => absurd h List.not_mem_nil)⟩) tb_M_either2 300 (ab_row tab_M_either2 5) 5 _ _ σ res (ab_row_bk tb_M_either2 5) ((e_M_either2_L5  _ _ _ _).trans h)
      · cases h
    · cases h
theorem lk_M_either2 {l : Launch} {G : ab_Gt} (hG : ab_GG G) {r : Int32} {σ σ' : Sg} (h : M_either2  σ = some (r, σ')) : ab_CO l G 109 (28) [(vR 30 0)] σ (vI r) σ' := by
  obtain ⟨r0, σ2, hR, hf⟩ := ab_ev_sound (tab := tab_M_either2) (Os := [(79, cp_M_next), (82, cp_M_isWord), (108, cp_M_both2)]) (Ks := [(5, kc_M_either2_5 (M_either2_L5 FU))]) (fin := finI) hG (d := 28) (by omega) rfl (List.forall_mem_cons.mpr ⟨⟨2, by omega, cs_M_next hG⟩, (List.forall_mem_cons.mpr ⟨⟨3, by omega, cs_M_isWord hG⟩, (List.forall_mem_cons.mpr ⟨⟨27, by omega, cs_M_both2 hG⟩, (fun _ h => absurd h List.not_mem_nil)⟩)⟩)⟩) (List.forall_mem_cons.mpr ⟨lc_M_either2_L5 hG FU, (fun _ h => absurd h List.not_mem_nil)⟩) tb_M_either2 300 (ab_row tab_M_either2 0) 0 (ab_ini (ab_ml 109) [(vR 30 0)]) [] σ (r, σ') (ab_row_bk tb_M_either2 0) ((e_M_either2 _).trans h)
  obtain ⟨rfl, rfl⟩ := finI_inv hf
  exact ab_met (by decide) rfl (Nat.le_of_ble_eq_true rfl) hR
theorem cs_M_either2 {l : Launch} {G : ab_Gt} (hG : ab_GG G) {R : Type} : ab_CS (R := R) l G 109 (28) cp_M_either2 := by
  intro as σ k res h
  unfold cp_M_either2 at h
  split at h
  · split at h
    · rename_i hb
      simp only [Bool.and_eq_true, Nat.beq_eq] at hb
      obtain ⟨hb1, hb2⟩ := hb
      subst hb1
      subst hb2
      obtain ⟨q, hq, hk⟩ := Option.bind_eq_some_iff.mp h
      exact ⟨_, _, lk_M_either2 hG hq, rfl, (fun _ => Or.inl ⟨rfl, rfl⟩), hk⟩
    · cases h
  · cases h
theorem tb_M_atom1 : ∀ q ∈ tab_M_atom1, ab_bk (ab_mo 110) (ab_mb 110) (ab_ml 110) 1 q.1 q.2 = true := List.all_eq_true.mp (by decide +kernel)
theorem lc_M_atom1_J123 {l : Launch} {G : ab_Gt} (hG : ab_GG G) : ab_KS l G 110 (29) finI 123 (kc_M_atom1_123 (M_atom1_J123)) := by
  intro L st σ res h
  unfold kc_M_atom1_123 at h
  split at h
  · split at h
    · rename_i hb
      simp only [Bool.and_eq_true, Nat.beq_eq] at hb
      obtain ⟨hb1, hb2⟩ := hb
      subst hb1
      subst hb2
      exact ab_ev_sound (tab := tab_M_atom1) (Os := [(79, cp_M_next), (80, cp_M_fail), (83, cp_M_isSign), (84, cp_M_opens), (85, cp_M_name), (104, cp_M_atom2), (109, cp_M_either2)]) (Ks := []) (fin := finI) hG (by omega) rfl (List.forall_mem_cons.mpr ⟨⟨2, by omega, cs_M_next hG⟩, (List.forall_mem_cons.mpr ⟨⟨1, by omega, cs_M_fail hG⟩, (List.forall_mem_cons.mpr ⟨⟨1, by omega, cs_M_isSign hG⟩, (List.forall_mem_cons.mpr ⟨⟨3, by omega, cs_M_opens hG⟩, (List.forall_mem_cons.mpr ⟨⟨4, by omega, cs_M_name hG⟩, (List.forall_mem_cons.mpr ⟨⟨23, by omega, cs_M_atom2 hG⟩, (List.forall_mem_cons.mpr ⟨⟨28, by omega, cs_M_either2 hG⟩, (fun _ h => absurd h List.not_mem_nil)⟩)⟩)⟩)⟩)⟩)⟩)⟩) (fun _ h => absurd h List.not_mem_nil) tb_M_atom1 300 (ab_row tab_M_atom1 123) 123 _ _ σ res (ab_row_bk tb_M_atom1 123) ((e_M_atom1_J123  _ _).trans h)
    · cases h
  · cases h
theorem lc_M_atom1_J71 {l : Launch} {G : ab_Gt} (hG : ab_GG G) : ab_KS l G 110 (29) finI 71 (kc_M_atom1_71 (M_atom1_J71)) := by
  intro L st σ res h
  unfold kc_M_atom1_71 at h
  split at h
  · split at h
    · rename_i hb
      simp only [Bool.and_eq_true, Nat.beq_eq] at hb
      obtain ⟨hb1, hb2⟩ := hb
      subst hb1
      subst hb2
      exact ab_ev_sound (tab := tab_M_atom1) (Os := [(79, cp_M_next), (80, cp_M_fail), (83, cp_M_isSign), (84, cp_M_opens), (85, cp_M_name), (104, cp_M_atom2), (109, cp_M_either2)]) (Ks := []) (fin := finI) hG (by omega) rfl (List.forall_mem_cons.mpr ⟨⟨2, by omega, cs_M_next hG⟩, (List.forall_mem_cons.mpr ⟨⟨1, by omega, cs_M_fail hG⟩, (List.forall_mem_cons.mpr ⟨⟨1, by omega, cs_M_isSign hG⟩, (List.forall_mem_cons.mpr ⟨⟨3, by omega, cs_M_opens hG⟩, (List.forall_mem_cons.mpr ⟨⟨4, by omega, cs_M_name hG⟩, (List.forall_mem_cons.mpr ⟨⟨23, by omega, cs_M_atom2 hG⟩, (List.forall_mem_cons.mpr ⟨⟨28, by omega, cs_M_either2 hG⟩, (fun _ h => absurd h List.not_mem_nil)⟩)⟩)⟩)⟩)⟩)⟩)⟩) (fun _ h => absurd h List.not_mem_nil) tb_M_atom1 300 (ab_row tab_M_atom1 71) 71 _ _ σ res (ab_row_bk tb_M_atom1 71) ((e_M_atom1_J71  _ _).trans h)
    · cases h
  · cases h
theorem lk_M_atom1 {l : Launch} {G : ab_Gt} (hG : ab_GG G) {r : Int32} {σ σ' : Sg} (h : M_atom1  σ = some (r, σ')) : ab_CO l G 110 (29) [(vR 30 0)] σ (vI r) σ' := by
  obtain ⟨r0, σ2, hR, hf⟩ := ab_ev_sound (tab := tab_M_atom1) (Os := [(79, cp_M_next), (80, cp_M_fail), (83, cp_M_isSign), (84, cp_M_opens), (85, cp_M_name), (104, cp_M_atom2), (109, cp_M_either2)]) (Ks := [(71, kc_M_atom1_71 (M_atom1_J71)), (123, kc_M_atom1_123 (M_atom1_J123))]) (fin := finI) hG (d := 29) (by omega) rfl (List.forall_mem_cons.mpr ⟨⟨2, by omega, cs_M_next hG⟩, (List.forall_mem_cons.mpr ⟨⟨1, by omega, cs_M_fail hG⟩, (List.forall_mem_cons.mpr ⟨⟨1, by omega, cs_M_isSign hG⟩, (List.forall_mem_cons.mpr ⟨⟨3, by omega, cs_M_opens hG⟩, (List.forall_mem_cons.mpr ⟨⟨4, by omega, cs_M_name hG⟩, (List.forall_mem_cons.mpr ⟨⟨23, by omega, cs_M_atom2 hG⟩, (List.forall_mem_cons.mpr ⟨⟨28, by omega, cs_M_either2 hG⟩, (fun _ h => absurd h List.not_mem_nil)⟩)⟩)⟩)⟩)⟩)⟩)⟩) (List.forall_mem_cons.mpr ⟨lc_M_atom1_J71 hG, (List.forall_mem_cons.mpr ⟨lc_M_atom1_J123 hG, (fun _ h => absurd h List.not_mem_nil)⟩)⟩) tb_M_atom1 300 (ab_row tab_M_atom1 0) 0 (ab_ini (ab_ml 110) [(vR 30 0)]) [] σ (r, σ') (ab_row_bk tb_M_atom1 0) ((e_M_atom1 _).trans h)
  obtain ⟨rfl, rfl⟩ := finI_inv hf
  exact ab_met (by decide) rfl (Nat.le_of_ble_eq_true rfl) hR
theorem cs_M_atom1 {l : Launch} {G : ab_Gt} (hG : ab_GG G) {R : Type} : ab_CS (R := R) l G 110 (29) cp_M_atom1 := by
  intro as σ k res h
  unfold cp_M_atom1 at h
  split at h
  · split at h
    · rename_i hb
      simp only [Bool.and_eq_true, Nat.beq_eq] at hb
      obtain ⟨hb1, hb2⟩ := hb
      subst hb1
      subst hb2
      obtain ⟨q, hq, hk⟩ := Option.bind_eq_some_iff.mp h
      exact ⟨_, _, lk_M_atom1 hG hq, rfl, (fun _ => Or.inl ⟨rfl, rfl⟩), hk⟩
    · cases h
  · cases h
theorem tb_M_term1 : ∀ q ∈ tab_M_term1, ab_bk (ab_mo 111) (ab_mb 111) (ab_ml 111) 1 q.1 q.2 = true := List.all_eq_true.mp (by decide +kernel)
theorem lc_M_term1_L5 {l : Launch} {G : ab_Gt} (hG : ab_GG G) : ∀ n : Nat, ab_KS l G 111 (30) finI 5 (kc_M_term1_5 (M_term1_L5 n)) := by
  intro n
  induction n with
  | zero =>
    intro L st σ res h
    unfold kc_M_term1_5 at h
    split at h
    · split at h
      · rename_i hb
        simp only [Bool.and_eq_true, Nat.beq_eq] at hb
        obtain ⟨hb1, hb2⟩ := hb
        subst hb1
        subst hb2
        exact absurd (show none = some res from h) (fun h => by cases h)
      · cases h
    · cases h
  | succ n ih =>
    intro L st σ res h
    unfold kc_M_term1_5 at h
    split at h
    · split at h
      · rename_i hb
        simp only [Bool.and_eq_true, Nat.beq_eq] at hb
        obtain ⟨hb1, hb2⟩ := hb
        subst hb1
        subst hb2
        exact ab_ev_sound (tab := tab_M_term1) (Os := [(79, cp_M_next), (83, cp_M_isSign), (110, cp_M_atom1)]) (Ks := [(5, kc_M_term1_5 (M_term1_L5 n))]) (fin := finI) hG (by omega) rfl (List.forall_mem_cons.mpr ⟨⟨2, by omega, cs_M_next hG⟩, (List.forall_mem_cons.mpr ⟨⟨1, by omega, cs_M_isSign hG⟩, (List.forall_mem_cons.mpr ⟨⟨29, by omega, cs_M_atom1 hG⟩, (fun _ h => absurd h List.not_mem_nil)⟩)⟩)⟩) (List.forall_mem_cons.mpr ⟨ih, (fun _ h => absurd h List.not_mem_nil)⟩) tb_M_term1 300 (ab_row tab_M_term1 5) 5 _ _ σ res (ab_row_bk tb_M_term1 5) ((e_M_term1_L5  _ _ _).trans h)
      · cases h
    · cases h
theorem lk_M_term1 {l : Launch} {G : ab_Gt} (hG : ab_GG G) {r : Int32} {σ σ' : Sg} (h : M_term1  σ = some (r, σ')) : ab_CO l G 111 (30) [(vR 30 0)] σ (vI r) σ' := by
  obtain ⟨r0, σ2, hR, hf⟩ := ab_ev_sound (tab := tab_M_term1) (Os := [(79, cp_M_next), (83, cp_M_isSign), (110, cp_M_atom1)]) (Ks := [(5, kc_M_term1_5 (M_term1_L5 FU))]) (fin := finI) hG (d := 30) (by omega) rfl (List.forall_mem_cons.mpr ⟨⟨2, by omega, cs_M_next hG⟩, (List.forall_mem_cons.mpr ⟨⟨1, by omega, cs_M_isSign hG⟩, (List.forall_mem_cons.mpr ⟨⟨29, by omega, cs_M_atom1 hG⟩, (fun _ h => absurd h List.not_mem_nil)⟩)⟩)⟩) (List.forall_mem_cons.mpr ⟨lc_M_term1_L5 hG FU, (fun _ h => absurd h List.not_mem_nil)⟩) tb_M_term1 300 (ab_row tab_M_term1 0) 0 (ab_ini (ab_ml 111) [(vR 30 0)]) [] σ (r, σ') (ab_row_bk tb_M_term1 0) ((e_M_term1 _).trans h)
  obtain ⟨rfl, rfl⟩ := finI_inv hf
  exact ab_met (by decide) rfl (Nat.le_of_ble_eq_true rfl) hR
theorem cs_M_term1 {l : Launch} {G : ab_Gt} (hG : ab_GG G) {R : Type} : ab_CS (R := R) l G 111 (30) cp_M_term1 := by
  intro as σ k res h
  unfold cp_M_term1 at h
  split at h
  · split at h
    · rename_i hb
      simp only [Bool.and_eq_true, Nat.beq_eq] at hb
      obtain ⟨hb1, hb2⟩ := hb
      subst hb1
      subst hb2
      obtain ⟨q, hq, hk⟩ := Option.bind_eq_some_iff.mp h
      exact ⟨_, _, lk_M_term1 hG hq, rfl, (fun _ => Or.inl ⟨rfl, rfl⟩), hk⟩
    · cases h
  · cases h
theorem tb_M_added1 : ∀ q ∈ tab_M_added1, ab_bk (ab_mo 112) (ab_mb 112) (ab_ml 112) 1 q.1 q.2 = true := List.all_eq_true.mp (by decide +kernel)
theorem lc_M_added1_J39 {l : Launch} {G : ab_Gt} (hG : ab_GG G) {k5 : Int32 → Sg → Option (Int32 × Sg)} (h5 : ab_KS l G 112 (31) finI 5 (kc_M_added1_5 k5)) : ab_KS l G 112 (31) finI 39 (kc_M_added1_39 (M_added1_J39 k5)) := by
  intro L st σ res h
  unfold kc_M_added1_39 at h
  split at h
  · split at h
    · rename_i hb
      simp only [Bool.and_eq_true, Nat.beq_eq] at hb
      obtain ⟨hb1, hb2⟩ := hb
      subst hb1
      subst hb2
      exact ab_ev_sound (tab := tab_M_added1) (Os := [(79, cp_M_next), (83, cp_M_isSign), (111, cp_M_term1)]) (Ks := [(5, kc_M_added1_5 k5)]) (fin := finI) hG (by omega) rfl (List.forall_mem_cons.mpr ⟨⟨2, by omega, cs_M_next hG⟩, (List.forall_mem_cons.mpr ⟨⟨1, by omega, cs_M_isSign hG⟩, (List.forall_mem_cons.mpr ⟨⟨30, by omega, cs_M_term1 hG⟩, (fun _ h => absurd h List.not_mem_nil)⟩)⟩)⟩) (List.forall_mem_cons.mpr ⟨h5, (fun _ h => absurd h List.not_mem_nil)⟩) tb_M_added1 300 (ab_row tab_M_added1 39) 39 _ _ σ res (ab_row_bk tb_M_added1 39) ((e_M_added1_J39 _ _ _ _ _ _).trans h)
    · cases h
  · cases h
theorem lc_M_added1_J23 {l : Launch} {G : ab_Gt} (hG : ab_GG G) {k5 : Int32 → Sg → Option (Int32 × Sg)} (h5 : ab_KS l G 112 (31) finI 5 (kc_M_added1_5 k5)) : ab_KS l G 112 (31) finI 23 (kc_M_added1_23 (M_added1_J23 k5)) := by
  intro L st σ res h
  unfold kc_M_added1_23 at h
  split at h
  · split at h
    · rename_i hb
      simp only [Bool.and_eq_true, Nat.beq_eq] at hb
      obtain ⟨hb1, hb2⟩ := hb
      subst hb1
      subst hb2
      exact ab_ev_sound (tab := tab_M_added1) (Os := [(79, cp_M_next), (83, cp_M_isSign), (111, cp_M_term1)]) (Ks := [(39, kc_M_added1_39 (M_added1_J39 k5))]) (fin := finI) hG (by omega) rfl (List.forall_mem_cons.mpr ⟨⟨2, by omega, cs_M_next hG⟩, (List.forall_mem_cons.mpr ⟨⟨1, by omega, cs_M_isSign hG⟩, (List.forall_mem_cons.mpr ⟨⟨30, by omega, cs_M_term1 hG⟩, (fun _ h => absurd h List.not_mem_nil)⟩)⟩)⟩) (List.forall_mem_cons.mpr ⟨lc_M_added1_J39 hG h5, (fun _ h => absurd h List.not_mem_nil)⟩) tb_M_added1 300 (ab_row tab_M_added1 23) 23 _ _ σ res (ab_row_bk tb_M_added1 23) ((e_M_added1_J23 _ _ _ _ _).trans h)
    · cases h
  · cases h
theorem lc_M_added1_L5 {l : Launch} {G : ab_Gt} (hG : ab_GG G) : ∀ n : Nat, ab_KS l G 112 (31) finI 5 (kc_M_added1_5 (M_added1_L5 n)) := by
  intro n
  induction n with
  | zero =>
    intro L st σ res h
    unfold kc_M_added1_5 at h
    split at h
    · split at h
      · rename_i hb
        simp only [Bool.and_eq_true, Nat.beq_eq] at hb
        obtain ⟨hb1, hb2⟩ := hb
        subst hb1
        subst hb2
        exact absurd (show none = some res from h) (fun h => by cases h)
      · cases h
    · cases h
  | succ n ih =>
    intro L st σ res h
    unfold kc_M_added1_5 at h
    split at h
    · split at h
      · rename_i hb
        simp only [Bool.and_eq_true, Nat.beq_eq] at hb
        obtain ⟨hb1, hb2⟩ := hb
        subst hb1
        subst hb2
        exact ab_ev_sound (tab := tab_M_added1) (Os := [(79, cp_M_next), (83, cp_M_isSign), (111, cp_M_term1)]) (Ks := [(23, kc_M_added1_23 (M_added1_J23 (fun y0 τ => M_added1_L5 n y0 τ)))]) (fin := finI) hG (by omega) rfl (List.forall_mem_cons.mpr ⟨⟨2, by omega, cs_M_next hG⟩, (List.forall_mem_cons.mpr ⟨⟨1, by omega, cs_M_isSign hG⟩, (List.forall_mem_cons.mpr ⟨⟨30, by omega, cs_M_term1 hG⟩, (fun _ h => absurd h List.not_mem_nil)⟩)⟩)⟩) (List.forall_mem_cons.mpr ⟨lc_M_added1_J23 hG ih, (fun _ h => absurd h List.not_mem_nil)⟩) tb_M_added1 300 (ab_row tab_M_added1 5) 5 _ _ σ res (ab_row_bk tb_M_added1 5) ((e_M_added1_L5  _ _ _ _ _).trans h)
      · cases h
    · cases h
theorem lk_M_added1 {l : Launch} {G : ab_Gt} (hG : ab_GG G) {r : Int32} {σ σ' : Sg} (h : M_added1  σ = some (r, σ')) : ab_CO l G 112 (31) [(vR 30 0)] σ (vI r) σ' := by
  obtain ⟨r0, σ2, hR, hf⟩ := ab_ev_sound (tab := tab_M_added1) (Os := [(79, cp_M_next), (83, cp_M_isSign), (111, cp_M_term1)]) (Ks := [(5, kc_M_added1_5 (M_added1_L5 FU))]) (fin := finI) hG (d := 31) (by omega) rfl (List.forall_mem_cons.mpr ⟨⟨2, by omega, cs_M_next hG⟩, (List.forall_mem_cons.mpr ⟨⟨1, by omega, cs_M_isSign hG⟩, (List.forall_mem_cons.mpr ⟨⟨30, by omega, cs_M_term1 hG⟩, (fun _ h => absurd h List.not_mem_nil)⟩)⟩)⟩) (List.forall_mem_cons.mpr ⟨lc_M_added1_L5 hG FU, (fun _ h => absurd h List.not_mem_nil)⟩) tb_M_added1 300 (ab_row tab_M_added1 0) 0 (ab_ini (ab_ml 112) [(vR 30 0)]) [] σ (r, σ') (ab_row_bk tb_M_added1 0) ((e_M_added1 _).trans h)
  obtain ⟨rfl, rfl⟩ := finI_inv hf
  exact ab_met (by decide) rfl (Nat.le_of_ble_eq_true rfl) hR
theorem cs_M_added1 {l : Launch} {G : ab_Gt} (hG : ab_GG G) {R : Type} : ab_CS (R := R) l G 112 (31) cp_M_added1 := by
  intro as σ k res h
  unfold cp_M_added1 at h
  split at h
  · split at h
    · rename_i hb
      simp only [Bool.and_eq_true, Nat.beq_eq] at hb
      obtain ⟨hb1, hb2⟩ := hb
      subst hb1
      subst hb2
      obtain ⟨q, hq, hk⟩ := Option.bind_eq_some_iff.mp h
      exact ⟨_, _, lk_M_added1 hG hq, rfl, (fun _ => Or.inl ⟨rfl, rfl⟩), hk⟩
    · cases h
  · cases h
theorem tb_M_not1 : ∀ q ∈ tab_M_not1, ab_bk (ab_mo 113) (ab_mb 113) (ab_ml 113) 1 q.1 q.2 = true := List.all_eq_true.mp (by decide +kernel)
theorem lc_M_not1_J93 {l : Launch} {G : ab_Gt} (hG : ab_GG G) : ab_KS l G 113 (32) finI 93 (kc_M_not1_93 (M_not1_J93)) := by
  intro L st σ res h
  unfold kc_M_not1_93 at h
  split at h
  · split at h
    · rename_i hb
      simp only [Bool.and_eq_true, Nat.beq_eq] at hb
      obtain ⟨hb1, hb2⟩ := hb
      subst hb1
      subst hb2
      exact ab_ev_sound (tab := tab_M_not1) (Os := [(79, cp_M_next), (82, cp_M_isWord), (83, cp_M_isSign), (84, cp_M_opens), (107, cp_M_not2), (112, cp_M_added1)]) (Ks := []) (fin := finI) hG (by omega) rfl (List.forall_mem_cons.mpr ⟨⟨2, by omega, cs_M_next hG⟩, (List.forall_mem_cons.mpr ⟨⟨3, by omega, cs_M_isWord hG⟩, (List.forall_mem_cons.mpr ⟨⟨1, by omega, cs_M_isSign hG⟩, (List.forall_mem_cons.mpr ⟨⟨3, by omega, cs_M_opens hG⟩, (List.forall_mem_cons.mpr ⟨⟨26, by omega, cs_M_not2 hG⟩, (List.forall_mem_cons.mpr ⟨⟨31, by omega, cs_M_added1 hG⟩, (fun _ h => absurd h List.not_mem_nil)⟩)⟩)⟩)⟩)⟩)⟩) (fun _ h => absurd h List.not_mem_nil) tb_M_not1 300 (ab_row tab_M_not1 93) 93 _ _ σ res (ab_row_bk tb_M_not1 93) ((e_M_not1_J93  _ _ _ _ _).trans h)
    · cases h
  · cases h
theorem lc_M_not1_J77 {l : Launch} {G : ab_Gt} (hG : ab_GG G) : ab_KS l G 113 (32) finI 77 (kc_M_not1_77 (M_not1_J77)) := by
  intro L st σ res h
  unfold kc_M_not1_77 at h
  split at h
  · split at h
    · rename_i hb
      simp only [Bool.and_eq_true, Nat.beq_eq] at hb
      obtain ⟨hb1, hb2⟩ := hb
      subst hb1
      subst hb2
      exact ab_ev_sound (tab := tab_M_not1) (Os := [(79, cp_M_next), (82, cp_M_isWord), (83, cp_M_isSign), (84, cp_M_opens), (107, cp_M_not2), (112, cp_M_added1)]) (Ks := [(93, kc_M_not1_93 (M_not1_J93))]) (fin := finI) hG (by omega) rfl (List.forall_mem_cons.mpr ⟨⟨2, by omega, cs_M_next hG⟩, (List.forall_mem_cons.mpr ⟨⟨3, by omega, cs_M_isWord hG⟩, (List.forall_mem_cons.mpr ⟨⟨1, by omega, cs_M_isSign hG⟩, (List.forall_mem_cons.mpr ⟨⟨3, by omega, cs_M_opens hG⟩, (List.forall_mem_cons.mpr ⟨⟨26, by omega, cs_M_not2 hG⟩, (List.forall_mem_cons.mpr ⟨⟨31, by omega, cs_M_added1 hG⟩, (fun _ h => absurd h List.not_mem_nil)⟩)⟩)⟩)⟩)⟩)⟩) (List.forall_mem_cons.mpr ⟨lc_M_not1_J93 hG, (fun _ h => absurd h List.not_mem_nil)⟩) tb_M_not1 300 (ab_row tab_M_not1 77) 77 _ _ σ res (ab_row_bk tb_M_not1 77) ((e_M_not1_J77  _ _ _ _).trans h)
    · cases h
  · cases h
theorem lk_M_not1 {l : Launch} {G : ab_Gt} (hG : ab_GG G) {r : Int32} {σ σ' : Sg} (h : M_not1  σ = some (r, σ')) : ab_CO l G 113 (32) [(vR 30 0)] σ (vI r) σ' := by
  obtain ⟨r0, σ2, hR, hf⟩ := ab_ev_sound (tab := tab_M_not1) (Os := [(79, cp_M_next), (82, cp_M_isWord), (83, cp_M_isSign), (84, cp_M_opens), (107, cp_M_not2), (112, cp_M_added1)]) (Ks := [(77, kc_M_not1_77 (M_not1_J77))]) (fin := finI) hG (d := 32) (by omega) rfl (List.forall_mem_cons.mpr ⟨⟨2, by omega, cs_M_next hG⟩, (List.forall_mem_cons.mpr ⟨⟨3, by omega, cs_M_isWord hG⟩, (List.forall_mem_cons.mpr ⟨⟨1, by omega, cs_M_isSign hG⟩, (List.forall_mem_cons.mpr ⟨⟨3, by omega, cs_M_opens hG⟩, (List.forall_mem_cons.mpr ⟨⟨26, by omega, cs_M_not2 hG⟩, (List.forall_mem_cons.mpr ⟨⟨31, by omega, cs_M_added1 hG⟩, (fun _ h => absurd h List.not_mem_nil)⟩)⟩)⟩)⟩)⟩)⟩) (List.forall_mem_cons.mpr ⟨lc_M_not1_J77 hG, (fun _ h => absurd h List.not_mem_nil)⟩) tb_M_not1 300 (ab_row tab_M_not1 0) 0 (ab_ini (ab_ml 113) [(vR 30 0)]) [] σ (r, σ') (ab_row_bk tb_M_not1 0) ((e_M_not1 _).trans h)
  obtain ⟨rfl, rfl⟩ := finI_inv hf
  exact ab_met (by decide) rfl (Nat.le_of_ble_eq_true rfl) hR
theorem cs_M_not1 {l : Launch} {G : ab_Gt} (hG : ab_GG G) {R : Type} : ab_CS (R := R) l G 113 (32) cp_M_not1 := by
  intro as σ k res h
  unfold cp_M_not1 at h
  split at h
  · split at h
    · rename_i hb
      simp only [Bool.and_eq_true, Nat.beq_eq] at hb
      obtain ⟨hb1, hb2⟩ := hb
      subst hb1
      subst hb2
      obtain ⟨q, hq, hk⟩ := Option.bind_eq_some_iff.mp h
      exact ⟨_, _, lk_M_not1 hG hq, rfl, (fun _ => Or.inl ⟨rfl, rfl⟩), hk⟩
    · cases h
  · cases h
theorem tb_M_both1 : ∀ q ∈ tab_M_both1, ab_bk (ab_mo 114) (ab_mb 114) (ab_ml 114) 1 q.1 q.2 = true := List.all_eq_true.mp (by decide +kernel)
theorem lc_M_both1_L5 {l : Launch} {G : ab_Gt} (hG : ab_GG G) : ∀ n : Nat, ab_KS l G 114 (33) finI 5 (kc_M_both1_5 (M_both1_L5 n)) := by
  intro n
  induction n with
  | zero =>
    intro L st σ res h
    unfold kc_M_both1_5 at h
    split at h
    · split at h
      · rename_i hb
        simp only [Bool.and_eq_true, Nat.beq_eq] at hb
        obtain ⟨hb1, hb2⟩ := hb
        subst hb1
        subst hb2
        exact absurd (show none = some res from h) (fun h => by cases h)
      · cases h
    · cases h
  | succ n ih =>
    intro L st σ res h
    unfold kc_M_both1_5 at h
    split at h
    · split at h
      · rename_i hb
        simp only [Bool.and_eq_true, Nat.beq_eq] at hb
        obtain ⟨hb1, hb2⟩ := hb
        subst hb1
        subst hb2
        exact ab_ev_sound (tab := tab_M_both1) (Os := [(79, cp_M_next), (82, cp_M_isWord), (113, cp_M_not1)]) (Ks := [(5, kc_M_both1_5 (M_both1_L5 n))]) (fin := finI) hG (by omega) rfl (List.forall_mem_cons.mpr ⟨⟨2, by omega, cs_M_next hG⟩, (List.forall_mem_cons.mpr ⟨⟨3, by omega, cs_M_isWord hG⟩, (List.forall_mem_cons.mpr ⟨⟨32, by omega, cs_M_not1 hG⟩, (fun _ h => absurd h List.not_mem_nil)⟩)⟩)⟩) (List.forall_mem_cons.mpr ⟨ih, (fun _ h => absurd h List.not_mem_nil)⟩) tb_M_both1 300 (ab_row tab_M_both1 5) 5 _ _ σ res (ab_row_bk tb_M_both1 5) ((e_M_both1_L5  _ _ _ _).trans h)
      · cases h
    · cases h
theorem lk_M_both1 {l : Launch} {G : ab_Gt} (hG : ab_GG G) {r : Int32} {σ σ' : Sg} (h : M_both1  σ = some (r, σ')) : ab_CO l G 114 (33) [(vR 30 0)] σ (vI r) σ' := by
  obtain ⟨r0, σ2, hR, hf⟩ := ab_ev_sound (tab := tab_M_both1) (Os := [(79, cp_M_next), (82, cp_M_isWord), (113, cp_M_not1)]) (Ks := [(5, kc_M_both1_5 (M_both1_L5 FU))]) (fin := finI) hG (d := 33) (by omega) rfl (List.forall_mem_cons.mpr ⟨⟨2, by omega, cs_M_next hG⟩, (List.forall_mem_cons.mpr ⟨⟨3, by omega, cs_M_isWord hG⟩, (List.forall_mem_cons.mpr ⟨⟨32, by omega, cs_M_not1 hG⟩, (fun _ h => absurd h List.not_mem_nil)⟩)⟩)⟩) (List.forall_mem_cons.mpr ⟨lc_M_both1_L5 hG FU, (fun _ h => absurd h List.not_mem_nil)⟩) tb_M_both1 300 (ab_row tab_M_both1 0) 0 (ab_ini (ab_ml 114) [(vR 30 0)]) [] σ (r, σ') (ab_row_bk tb_M_both1 0) ((e_M_both1 _).trans h)
  obtain ⟨rfl, rfl⟩ := finI_inv hf
  exact ab_met (by decide) rfl (Nat.le_of_ble_eq_true rfl) hR
theorem cs_M_both1 {l : Launch} {G : ab_Gt} (hG : ab_GG G) {R : Type} : ab_CS (R := R) l G 114 (33) cp_M_both1 := by
  intro as σ k res h
  unfold cp_M_both1 at h
  split at h
  · split at h
    · rename_i hb
      simp only [Bool.and_eq_true, Nat.beq_eq] at hb
      obtain ⟨hb1, hb2⟩ := hb
      subst hb1
      subst hb2
      obtain ⟨q, hq, hk⟩ := Option.bind_eq_some_iff.mp h
      exact ⟨_, _, lk_M_both1 hG hq, rfl, (fun _ => Or.inl ⟨rfl, rfl⟩), hk⟩
    · cases h
  · cases h
theorem tb_M_either1 : ∀ q ∈ tab_M_either1, ab_bk (ab_mo 115) (ab_mb 115) (ab_ml 115) 1 q.1 q.2 = true := List.all_eq_true.mp (by decide +kernel)
theorem lc_M_either1_L5 {l : Launch} {G : ab_Gt} (hG : ab_GG G) : ∀ n : Nat, ab_KS l G 115 (34) finI 5 (kc_M_either1_5 (M_either1_L5 n)) := by
  intro n
  induction n with
  | zero =>
    intro L st σ res h
    unfold kc_M_either1_5 at h
    split at h
    · split at h
      · rename_i hb
        simp only [Bool.and_eq_true, Nat.beq_eq] at hb
        obtain ⟨hb1, hb2⟩ := hb
        subst hb1
        subst hb2
        exact absurd (show none = some res from h) (fun h => by cases h)
      · cases h
    · cases h
  | succ n ih =>
    intro L st σ res h
    unfold kc_M_either1_5 at h
    split at h
    · split at h
      · rename_i hb
        simp only [Bool.and_eq_true, Nat.beq_eq] at hb
        obtain ⟨hb1, hb2⟩ := hb
        subst hb1
        subst hb2
        exact ab_ev_sound (tab := tab_M_either1) (Os := [(79, cp_M_next), (82, cp_M_isWord), (114, cp_M_both1)]) (Ks := [(5, kc_M_either1_5 (M_either1_L5 n))]) (fin := finI) hG (by omega) rfl (List.forall_mem_cons.mpr ⟨⟨2, by omega, cs_M_next hG⟩, (List.forall_mem_cons.mpr ⟨⟨3, by omega, cs_M_isWord hG⟩, (List.forall_mem_cons.mpr ⟨⟨33, by omega, cs_M_both1 hG⟩, (fun _ h => absurd h List.not_mem_nil)⟩)⟩)⟩) (List.forall_mem_cons.mpr ⟨ih, (fun _ h => absurd h List.not_mem_nil)⟩) tb_M_either1 300 (ab_row tab_M_either1 5) 5 _ _ σ res (ab_row_bk tb_M_either1 5) ((e_M_either1_L5  _ _ _ _).trans h)
      · cases h
    · cases h
theorem lk_M_either1 {l : Launch} {G : ab_Gt} (hG : ab_GG G) {r : Int32} {σ σ' : Sg} (h : M_either1  σ = some (r, σ')) : ab_CO l G 115 (34) [(vR 30 0)] σ (vI r) σ' := by
  obtain ⟨r0, σ2, hR, hf⟩ := ab_ev_sound (tab := tab_M_either1) (Os := [(79, cp_M_next), (82, cp_M_isWord), (114, cp_M_both1)]) (Ks := [(5, kc_M_either1_5 (M_either1_L5 FU))]) (fin := finI) hG (d := 34) (by omega) rfl (List.forall_mem_cons.mpr ⟨⟨2, by omega, cs_M_next hG⟩, (List.forall_mem_cons.mpr ⟨⟨3, by omega, cs_M_isWord hG⟩, (List.forall_mem_cons.mpr ⟨⟨33, by omega, cs_M_both1 hG⟩, (fun _ h => absurd h List.not_mem_nil)⟩)⟩)⟩) (List.forall_mem_cons.mpr ⟨lc_M_either1_L5 hG FU, (fun _ h => absurd h List.not_mem_nil)⟩) tb_M_either1 300 (ab_row tab_M_either1 0) 0 (ab_ini (ab_ml 115) [(vR 30 0)]) [] σ (r, σ') (ab_row_bk tb_M_either1 0) ((e_M_either1 _).trans h)
  obtain ⟨rfl, rfl⟩ := finI_inv hf
  exact ab_met (by decide) rfl (Nat.le_of_ble_eq_true rfl) hR
theorem cs_M_either1 {l : Launch} {G : ab_Gt} (hG : ab_GG G) {R : Type} : ab_CS (R := R) l G 115 (34) cp_M_either1 := by
  intro as σ k res h
  unfold cp_M_either1 at h
  split at h
  · split at h
    · rename_i hb
      simp only [Bool.and_eq_true, Nat.beq_eq] at hb
      obtain ⟨hb1, hb2⟩ := hb
      subst hb1
      subst hb2
      obtain ⟨q, hq, hk⟩ := Option.bind_eq_some_iff.mp h
      exact ⟨_, _, lk_M_either1 hG hq, rfl, (fun _ => Or.inl ⟨rfl, rfl⟩), hk⟩
    · cases h
  · cases h
theorem tb_M_atom0 : ∀ q ∈ tab_M_atom0, ab_bk (ab_mo 116) (ab_mb 116) (ab_ml 116) 1 q.1 q.2 = true := List.all_eq_true.mp (by decide +kernel)
theorem lc_M_atom0_J123 {l : Launch} {G : ab_Gt} (hG : ab_GG G) : ab_KS l G 116 (35) finI 123 (kc_M_atom0_123 (M_atom0_J123)) := by
  intro L st σ res h
  unfold kc_M_atom0_123 at h
  split at h
  · split at h
    · rename_i hb
      simp only [Bool.and_eq_true, Nat.beq_eq] at hb
      obtain ⟨hb1, hb2⟩ := hb
      subst hb1
      subst hb2
      exact ab_ev_sound (tab := tab_M_atom0) (Os := [(79, cp_M_next), (80, cp_M_fail), (83, cp_M_isSign), (84, cp_M_opens), (85, cp_M_name), (110, cp_M_atom1), (115, cp_M_either1)]) (Ks := []) (fin := finI) hG (by omega) rfl (List.forall_mem_cons.mpr ⟨⟨2, by omega, cs_M_next hG⟩, (List.forall_mem_cons.mpr ⟨⟨1, by omega, cs_M_fail hG⟩, (List.forall_mem_cons.mpr ⟨⟨1, by omega, cs_M_isSign hG⟩, (List.forall_mem_cons.mpr ⟨⟨3, by omega, cs_M_opens hG⟩, (List.forall_mem_cons.mpr ⟨⟨4, by omega, cs_M_name hG⟩, (List.forall_mem_cons.mpr ⟨⟨29, by omega, cs_M_atom1 hG⟩, (List.forall_mem_cons.mpr ⟨⟨34, by omega, cs_M_either1 hG⟩, (fun _ h => absurd h List.not_mem_nil)⟩)⟩)⟩)⟩)⟩)⟩)⟩) (fun _ h => absurd h List.not_mem_nil) tb_M_atom0 300 (ab_row tab_M_atom0 123) 123 _ _ σ res (ab_row_bk tb_M_atom0 123) ((e_M_atom0_J123  _ _).trans h)
    · cases h
  · cases h
theorem lc_M_atom0_J71 {l : Launch} {G : ab_Gt} (hG : ab_GG G) : ab_KS l G 116 (35) finI 71 (kc_M_atom0_71 (M_atom0_J71)) := by
  intro L st σ res h
  unfold kc_M_atom0_71 at h
  split at h
  · split at h
    · rename_i hb
      simp only [Bool.and_eq_true, Nat.beq_eq] at hb
      obtain ⟨hb1, hb2⟩ := hb
      subst hb1
      subst hb2
      exact ab_ev_sound (tab := tab_M_atom0) (Os := [(79, cp_M_next), (80, cp_M_fail), (83, cp_M_isSign), (84, cp_M_opens), (85, cp_M_name), (110, cp_M_atom1), (115, cp_M_either1)]) (Ks := []) (fin := finI) hG (by omega) rfl (List.forall_mem_cons.mpr ⟨⟨2, by omega, cs_M_next hG⟩, (List.forall_mem_cons.mpr ⟨⟨1, by omega, cs_M_fail hG⟩, (List.forall_mem_cons.mpr ⟨⟨1, by omega, cs_M_isSign hG⟩, (List.forall_mem_cons.mpr ⟨⟨3, by omega, cs_M_opens hG⟩, (List.forall_mem_cons.mpr ⟨⟨4, by omega, cs_M_name hG⟩, (List.forall_mem_cons.mpr ⟨⟨29, by omega, cs_M_atom1 hG⟩, (List.forall_mem_cons.mpr ⟨⟨34, by omega, cs_M_either1 hG⟩, (fun _ h => absurd h List.not_mem_nil)⟩)⟩)⟩)⟩)⟩)⟩)⟩) (fun _ h => absurd h List.not_mem_nil) tb_M_atom0 300 (ab_row tab_M_atom0 71) 71 _ _ σ res (ab_row_bk tb_M_atom0 71) ((e_M_atom0_J71  _ _).trans h)
    · cases h
  · cases h
theorem lk_M_atom0 {l : Launch} {G : ab_Gt} (hG : ab_GG G) {r : Int32} {σ σ' : Sg} (h : M_atom0  σ = some (r, σ')) : ab_CO l G 116 (35) [(vR 30 0)] σ (vI r) σ' := by
  obtain ⟨r0, σ2, hR, hf⟩ := ab_ev_sound (tab := tab_M_atom0) (Os := [(79, cp_M_next), (80, cp_M_fail), (83, cp_M_isSign), (84, cp_M_opens), (85, cp_M_name), (110, cp_M_atom1), (115, cp_M_either1)]) (Ks := [(71, kc_M_atom0_71 (M_atom0_J71)), (123, kc_M_atom0_123 (M_atom0_J123))]) (fin := finI) hG (d := 35) (by omega) rfl (List.forall_mem_cons.mpr ⟨⟨2, by omega, cs_M_next hG⟩, (List.forall_mem_cons.mpr ⟨⟨1, by omega, cs_M_fail hG⟩, (List.forall_mem_cons.mpr ⟨⟨1, by omega, cs_M_isSign hG⟩, (List.forall_mem_cons.mpr ⟨⟨3, by omega, cs_M_opens hG⟩, (List.forall_mem_cons.mpr ⟨⟨4, by omega, cs_M_name hG⟩, (List.forall_mem_cons.mpr ⟨⟨29, by omega, cs_M_atom1 hG⟩, (List.forall_mem_cons.mpr ⟨⟨34, by omega, cs_M_either1 hG⟩, (fun _ h => absurd h List.not_mem_nil)⟩)⟩)⟩)⟩)⟩)⟩)⟩) (List.forall_mem_cons.mpr ⟨lc_M_atom0_J71 hG, (List.forall_mem_cons.mpr ⟨lc_M_atom0_J123 hG, (fun _ h => absurd h List.not_mem_nil)⟩)⟩) tb_M_atom0 300 (ab_row tab_M_atom0 0) 0 (ab_ini (ab_ml 116) [(vR 30 0)]) [] σ (r, σ') (ab_row_bk tb_M_atom0 0) ((e_M_atom0 _).trans h)
  obtain ⟨rfl, rfl⟩ := finI_inv hf
  exact ab_met (by decide) rfl (Nat.le_of_ble_eq_true rfl) hR
theorem cs_M_atom0 {l : Launch} {G : ab_Gt} (hG : ab_GG G) {R : Type} : ab_CS (R := R) l G 116 (35) cp_M_atom0 := by
  intro as σ k res h
  unfold cp_M_atom0 at h
  split at h
  · split at h
    · rename_i hb
      simp only [Bool.and_eq_true, Nat.beq_eq] at hb
      obtain ⟨hb1, hb2⟩ := hb
      subst hb1
      subst hb2
      obtain ⟨q, hq, hk⟩ := Option.bind_eq_some_iff.mp h
      exact ⟨_, _, lk_M_atom0 hG hq, rfl, (fun _ => Or.inl ⟨rfl, rfl⟩), hk⟩
    · cases h
  · cases h
theorem tb_M_term0 : ∀ q ∈ tab_M_term0, ab_bk (ab_mo 117) (ab_mb 117) (ab_ml 117) 1 q.1 q.2 = true := List.all_eq_true.mp (by decide +kernel)
theorem lc_M_term0_L5 {l : Launch} {G : ab_Gt} (hG : ab_GG G) : ∀ n : Nat, ab_KS l G 117 (36) finI 5 (kc_M_term0_5 (M_term0_L5 n)) := by
  intro n
  induction n with
  | zero =>
    intro L st σ res h
    unfold kc_M_term0_5 at h
    split at h
    · split at h
      · rename_i hb
        simp only [Bool.and_eq_true, Nat.beq_eq] at hb
        obtain ⟨hb1, hb2⟩ := hb
        subst hb1
        subst hb2
        exact absurd (show none = some res from h) (fun h => by cases h)
      · cases h
    · cases h
  | succ n ih =>
    intro L st σ res h
    unfold kc_M_term0_5 at h
    split at h
    · split at h
      · rename_i hb
        simp only [Bool.and_eq_true, Nat.beq_eq] at hb
        obtain ⟨hb1, hb2⟩ := hb
        subst hb1
        subst hb2
        exact ab_ev_sound (tab := tab_M_term0) (Os := [(79, cp_M_next), (83, cp_M_isSign), (116, cp_M_atom0)]) (Ks := [(5, kc_M_term0_5 (M_term0_L5 n))]) (fin := finI) hG (by omega) rfl (List.forall_mem_cons.mpr ⟨⟨2, by omega, cs_M_next hG⟩, (List.forall_mem_cons.mpr ⟨⟨1, by omega, cs_M_isSign hG⟩, (List.forall_mem_cons.mpr ⟨⟨35, by omega, cs_M_atom0 hG⟩, (fun _ h => absurd h List.not_mem_nil)⟩)⟩)⟩) (List.forall_mem_cons.mpr ⟨ih, (fun _ h => absurd h List.not_mem_nil)⟩) tb_M_term0 300 (ab_row tab_M_term0 5) 5 _ _ σ res (ab_row_bk tb_M_term0 5) ((e_M_term0_L5  _ _ _).trans h)
      · cases h
    · cases h
theorem lk_M_term0 {l : Launch} {G : ab_Gt} (hG : ab_GG G) {r : Int32} {σ σ' : Sg} (h : M_term0  σ = some (r, σ')) : ab_CO l G 117 (36) [(vR 30 0)] σ (vI r) σ' := by
  obtain ⟨r0, σ2, hR, hf⟩ := ab_ev_sound (tab := tab_M_term0) (Os := [(79, cp_M_next), (83, cp_M_isSign), (116, cp_M_atom0)]) (Ks := [(5, kc_M_term0_5 (M_term0_L5 FU))]) (fin := finI) hG (d := 36) (by omega) rfl (List.forall_mem_cons.mpr ⟨⟨2, by omega, cs_M_next hG⟩, (List.forall_mem_cons.mpr ⟨⟨1, by omega, cs_M_isSign hG⟩, (List.forall_mem_cons.mpr ⟨⟨35, by omega, cs_M_atom0 hG⟩, (fun _ h => absurd h List.not_mem_nil)⟩)⟩)⟩) (List.forall_mem_cons.mpr ⟨lc_M_term0_L5 hG FU, (fun _ h => absurd h List.not_mem_nil)⟩) tb_M_term0 300 (ab_row tab_M_term0 0) 0 (ab_ini (ab_ml 117) [(vR 30 0)]) [] σ (r, σ') (ab_row_bk tb_M_term0 0) ((e_M_term0 _).trans h)
  obtain ⟨rfl, rfl⟩ := finI_inv hf
  exact ab_met (by decide) rfl (Nat.le_of_ble_eq_true rfl) hR
theorem cs_M_term0 {l : Launch} {G : ab_Gt} (hG : ab_GG G) {R : Type} : ab_CS (R := R) l G 117 (36) cp_M_term0 := by
  intro as σ k res h
  unfold cp_M_term0 at h
  split at h
  · split at h
    · rename_i hb
      simp only [Bool.and_eq_true, Nat.beq_eq] at hb
      obtain ⟨hb1, hb2⟩ := hb
      subst hb1
      subst hb2
      obtain ⟨q, hq, hk⟩ := Option.bind_eq_some_iff.mp h
      exact ⟨_, _, lk_M_term0 hG hq, rfl, (fun _ => Or.inl ⟨rfl, rfl⟩), hk⟩
    · cases h
  · cases h
theorem tb_M_added0 : ∀ q ∈ tab_M_added0, ab_bk (ab_mo 118) (ab_mb 118) (ab_ml 118) 1 q.1 q.2 = true := List.all_eq_true.mp (by decide +kernel)
theorem lc_M_added0_J39 {l : Launch} {G : ab_Gt} (hG : ab_GG G) {k5 : Int32 → Sg → Option (Int32 × Sg)} (h5 : ab_KS l G 118 (37) finI 5 (kc_M_added0_5 k5)) : ab_KS l G 118 (37) finI 39 (kc_M_added0_39 (M_added0_J39 k5)) := by
  intro L st σ res h
  unfold kc_M_added0_39 at h
  split at h
  · split at h
    · rename_i hb
      simp only [Bool.and_eq_true, Nat.beq_eq] at hb
      obtain ⟨hb1, hb2⟩ := hb
      subst hb1
      subst hb2
      exact ab_ev_sound (tab := tab_M_added0) (Os := [(79, cp_M_next), (83, cp_M_isSign), (117, cp_M_term0)]) (Ks := [(5, kc_M_added0_5 k5)]) (fin := finI) hG (by omega) rfl (List.forall_mem_cons.mpr ⟨⟨2, by omega, cs_M_next hG⟩, (List.forall_mem_cons.mpr ⟨⟨1, by omega, cs_M_isSign hG⟩, (List.forall_mem_cons.mpr ⟨⟨36, by omega, cs_M_term0 hG⟩, (fun _ h => absurd h List.not_mem_nil)⟩)⟩)⟩) (List.forall_mem_cons.mpr ⟨h5, (fun _ h => absurd h List.not_mem_nil)⟩) tb_M_added0 300 (ab_row tab_M_added0 39) 39 _ _ σ res (ab_row_bk tb_M_added0 39) ((e_M_added0_J39 _ _ _ _ _ _).trans h)
    · cases h
  · cases h
theorem lc_M_added0_J23 {l : Launch} {G : ab_Gt} (hG : ab_GG G) {k5 : Int32 → Sg → Option (Int32 × Sg)} (h5 : ab_KS l G 118 (37) finI 5 (kc_M_added0_5 k5)) : ab_KS l G 118 (37) finI 23 (kc_M_added0_23 (M_added0_J23 k5)) := by
  intro L st σ res h
  unfold kc_M_added0_23 at h
  split at h
  · split at h
    · rename_i hb
      simp only [Bool.and_eq_true, Nat.beq_eq] at hb
      obtain ⟨hb1, hb2⟩ := hb
      subst hb1
      subst hb2
      exact ab_ev_sound (tab := tab_M_added0) (Os := [(79, cp_M_next), (83, cp_M_isSign), (117, cp_M_term0)]) (Ks := [(39, kc_M_added0_39 (M_added0_J39 k5))]) (fin := finI) hG (by omega) rfl (List.forall_mem_cons.mpr ⟨⟨2, by omega, cs_M_next hG⟩, (List.forall_mem_cons.mpr ⟨⟨1, by omega, cs_M_isSign hG⟩, (List.forall_mem_cons.mpr ⟨⟨36, by omega, cs_M_term0 hG⟩, (fun _ h => absurd h List.not_mem_nil)⟩)⟩)⟩) (List.forall_mem_cons.mpr ⟨lc_M_added0_J39 hG h5, (fun _ h => absurd h List.not_mem_nil)⟩) tb_M_added0 300 (ab_row tab_M_added0 23) 23 _ _ σ res (ab_row_bk tb_M_added0 23) ((e_M_added0_J23 _ _ _ _ _).trans h)
    · cases h
  · cases h
theorem lc_M_added0_L5 {l : Launch} {G : ab_Gt} (hG : ab_GG G) : ∀ n : Nat, ab_KS l G 118 (37) finI 5 (kc_M_added0_5 (M_added0_L5 n)) := by
  intro n
  induction n with
  | zero =>
    intro L st σ res h
    unfold kc_M_added0_5 at h
    split at h
    · split at h
      · rename_i hb
        simp only [Bool.and_eq_true, Nat.beq_eq] at hb
        obtain ⟨hb1, hb2⟩ := hb
        subst hb1
        subst hb2
        exact absurd (show none = some res from h) (fun h => by cases h)
      · cases h
    · cases h
  | succ n ih =>
    intro L st σ res h
    unfold kc_M_added0_5 at h
    split at h
    · split at h
      · rename_i hb
        simp only [Bool.and_eq_true, Nat.beq_eq] at hb
        obtain ⟨hb1, hb2⟩ := hb
        subst hb1
        subst hb2
        exact ab_ev_sound (tab := tab_M_added0) (Os := [(79, cp_M_next), (83, cp_M_isSign), (117, cp_M_term0)]) (Ks := [(23, kc_M_added0_23 (M_added0_J23 (fun y0 τ => M_added0_L5 n y0 τ)))]) (fin := finI) hG (by omega) rfl (List.forall_mem_cons.mpr ⟨⟨2, by omega, cs_M_next hG⟩, (List.forall_mem_cons.mpr ⟨⟨1, by omega, cs_M_isSign hG⟩, (List.forall_mem_cons.mpr ⟨⟨36, by omega, cs_M_term0 hG⟩, (fun _ h => absurd h List.not_mem_nil)⟩)⟩)⟩) (List.forall_mem_cons.mpr ⟨lc_M_added0_J23 hG ih, (fun _ h => absurd h List.not_mem_nil)⟩) tb_M_added0 300 (ab_row tab_M_added0 5) 5 _ _ σ res (ab_row_bk tb_M_added0 5) ((e_M_added0_L5  _ _ _ _ _).trans h)
      · cases h
    · cases h
theorem lk_M_added0 {l : Launch} {G : ab_Gt} (hG : ab_GG G) {r : Int32} {σ σ' : Sg} (h : M_added0  σ = some (r, σ')) : ab_CO l G 118 (37) [(vR 30 0)] σ (vI r) σ' := by
  obtain ⟨r0, σ2, hR, hf⟩ := ab_ev_sound (tab := tab_M_added0) (Os := [(79, cp_M_next), (83, cp_M_isSign), (117, cp_M_term0)]) (Ks := [(5, kc_M_added0_5 (M_added0_L5 FU))]) (fin := finI) hG (d := 37) (by omega) rfl (List.forall_mem_cons.mpr ⟨⟨2, by omega, cs_M_next hG⟩, (List.forall_mem_cons.mpr ⟨⟨1, by omega, cs_M_isSign hG⟩, (List.forall_mem_cons.mpr ⟨⟨36, by omega, cs_M_term0 hG⟩, (fun _ h => absurd h List.not_mem_nil)⟩)⟩)⟩) (List.forall_mem_cons.mpr ⟨lc_M_added0_L5 hG FU, (fun _ h => absurd h List.not_mem_nil)⟩) tb_M_added0 300 (ab_row tab_M_added0 0) 0 (ab_ini (ab_ml 118) [(vR 30 0)]) [] σ (r, σ') (ab_row_bk tb_M_added0 0) ((e_M_added0 _).trans h)
  obtain ⟨rfl, rfl⟩ := finI_inv hf
  exact ab_met (by decide) rfl (Nat.le_of_ble_eq_true rfl) hR
theorem cs_M_added0 {l : Launch} {G : ab_Gt} (hG : ab_GG G) {R : Type} : ab_CS (R := R) l G 118 (37) cp_M_added0 := by
  intro as σ k res h
  unfold cp_M_added0 at h
  split at h
  · split at h
    · rename_i hb
      simp only [Bool.and_eq_true, Nat.beq_eq] at hb
      obtain ⟨hb1, hb2⟩ := hb
      subst hb1
      subst hb2
      obtain ⟨q, hq, hk⟩ := Option.bind_eq_some_iff.mp h
      exact ⟨_, _, lk_M_added0 hG hq, rfl, (fun _ => Or.inl ⟨rfl, rfl⟩), hk⟩
    · cases h
  · cases h
theorem tb_M_not0 : ∀ q ∈ tab_M_not0, ab_bk (ab_mo 119) (ab_mb 119) (ab_ml 119) 1 q.1 q.2 = true := List.all_eq_true.mp (by decide +kernel)
theorem lc_M_not0_J93 {l : Launch} {G : ab_Gt} (hG : ab_GG G) : ab_KS l G 119 (38) finI 93 (kc_M_not0_93 (M_not0_J93)) := by
  intro L st σ res h
  unfold kc_M_not0_93 at h
  split at h
  · split at h
    · rename_i hb
      simp only [Bool.and_eq_true, Nat.beq_eq] at hb
      obtain ⟨hb1, hb2⟩ := hb
      subst hb1
      subst hb2
      exact ab_ev_sound (tab := tab_M_not0) (Os := [(79, cp_M_next), (82, cp_M_isWord), (83, cp_M_isSign), (84, cp_M_opens), (113, cp_M_not1), (118, cp_M_added0)]) (Ks := []) (fin := finI) hG (by omega) rfl (List.forall_mem_cons.mpr ⟨⟨2, by omega, cs_M_next hG⟩, (List.forall_mem_cons.mpr ⟨⟨3, by omega, cs_M_isWord hG⟩, (List.forall_mem_cons.mpr ⟨⟨1, by omega, cs_M_isSign hG⟩, (List.forall_mem_cons.mpr ⟨⟨3, by omega, cs_M_opens hG⟩, (List.forall_mem_cons.mpr ⟨⟨32, by omega, cs_M_not1 hG⟩, (List.forall_mem_cons.mpr ⟨⟨37, by omega, cs_M_added0 hG⟩, (fun _ h => absurd h List.not_mem_nil)⟩)⟩)⟩)⟩)⟩)⟩) (fun _ h => absurd h List.not_mem_nil) tb_M_not0 300 (ab_row tab_M_not0 93) 93 _ _ σ res (ab_row_bk tb_M_not0 93) ((e_M_not0_J93  _ _ _ _ _).trans h)
    · cases h
  · cases h
theorem lc_M_not0_J77 {l : Launch} {G : ab_Gt} (hG : ab_GG G) : ab_KS l G 119 (38) finI 77 (kc_M_not0_77 (M_not0_J77)) := by
  intro L st σ res h
  unfold kc_M_not0_77 at h
  split at h
  · split at h
    · rename_i hb
      simp only [Bool.and_eq_true, Nat.beq_eq] at hb
      obtain ⟨hb1, hb2⟩ := hb
      subst hb1
      subst hb2
      exact ab_ev_sound (tab := tab_M_not0) (Os := [(79, cp_M_next), (82, cp_M_isWord), (83, cp_M_isSign), (84, cp_M_opens), (113, cp_M_not1), (118, cp_M_added0)]) (Ks := [(93, kc_M_not0_93 (M_not0_J93))]) (fin := finI) hG (by omega) rfl (List.forall_mem_cons.mpr ⟨⟨2, by omega, cs_M_next hG⟩, (List.forall_mem_cons.mpr ⟨⟨3, by omega, cs_M_isWord hG⟩, (List.forall_mem_cons.mpr ⟨⟨1, by omega, cs_M_isSign hG⟩, (List.forall_mem_cons.mpr ⟨⟨3, by omega, cs_M_opens hG⟩, (List.forall_mem_cons.mpr ⟨⟨32, by omega, cs_M_not1 hG⟩, (List.forall_mem_cons.mpr ⟨⟨37, by omega, cs_M_added0 hG⟩, (fun _ h => absurd h List.not_mem_nil)⟩)⟩)⟩)⟩)⟩)⟩) (List.forall_mem_cons.mpr ⟨lc_M_not0_J93 hG, (fun _ h => absurd h List.not_mem_nil)⟩) tb_M_not0 300 (ab_row tab_M_not0 77) 77 _ _ σ res (ab_row_bk tb_M_not0 77) ((e_M_not0_J77  _ _ _ _).trans h)
    · cases h
  · cases h
theorem lk_M_not0 {l : Launch} {G : ab_Gt} (hG : ab_GG G) {r : Int32} {σ σ' : Sg} (h : M_not0  σ = some (r, σ')) : ab_CO l G 119 (38) [(vR 30 0)] σ (vI r) σ' := by
  obtain ⟨r0, σ2, hR, hf⟩ := ab_ev_sound (tab := tab_M_not0) (Os := [(79, cp_M_next), (82, cp_M_isWord), (83, cp_M_isSign), (84, cp_M_opens), (113, cp_M_not1), (118, cp_M_added0)]) (Ks := [(77, kc_M_not0_77 (M_not0_J77))]) (fin := finI) hG (d := 38) (by omega) rfl (List.forall_mem_cons.mpr ⟨⟨2, by omega, cs_M_next hG⟩, (List.forall_mem_cons.mpr ⟨⟨3, by omega, cs_M_isWord hG⟩, (List.forall_mem_cons.mpr ⟨⟨1, by omega, cs_M_isSign hG⟩, (List.forall_mem_cons.mpr ⟨⟨3, by omega, cs_M_opens hG⟩, (List.forall_mem_cons.mpr ⟨⟨32, by omega, cs_M_not1 hG⟩, (List.forall_mem_cons.mpr ⟨⟨37, by omega, cs_M_added0 hG⟩, (fun _ h => absurd h List.not_mem_nil)⟩)⟩)⟩)⟩)⟩)⟩) (List.forall_mem_cons.mpr ⟨lc_M_not0_J77 hG, (fun _ h => absurd h List.not_mem_nil)⟩) tb_M_not0 300 (ab_row tab_M_not0 0) 0 (ab_ini (ab_ml 119) [(vR 30 0)]) [] σ (r, σ') (ab_row_bk tb_M_not0 0) ((e_M_not0 _).trans h)
  obtain ⟨rfl, rfl⟩ := finI_inv hf
  exact ab_met (by decide) rfl (Nat.le_of_ble_eq_true rfl) hR
theorem cs_M_not0 {l : Launch} {G : ab_Gt} (hG : ab_GG G) {R : Type} : ab_CS (R := R) l G 119 (38) cp_M_not0 := by
  intro as σ k res h
  unfold cp_M_not0 at h
  split at h
  · split at h
    · rename_i hb
      simp only [Bool.and_eq_true, Nat.beq_eq] at hb
      obtain ⟨hb1, hb2⟩ := hb
      subst hb1
      subst hb2
      obtain ⟨q, hq, hk⟩ := Option.bind_eq_some_iff.mp h
      exact ⟨_, _, lk_M_not0 hG hq, rfl, (fun _ => Or.inl ⟨rfl, rfl⟩), hk⟩
    · cases h
  · cases h
theorem tb_M_both0 : ∀ q ∈ tab_M_both0, ab_bk (ab_mo 120) (ab_mb 120) (ab_ml 120) 1 q.1 q.2 = true := List.all_eq_true.mp (by decide +kernel)
theorem lc_M_both0_L5 {l : Launch} {G : ab_Gt} (hG : ab_GG G) : ∀ n : Nat, ab_KS l G 120 (39) finI 5 (kc_M_both0_5 (M_both0_L5 n)) := by
  intro n
  induction n with
  | zero =>
    intro L st σ res h
    unfold kc_M_both0_5 at h
    split at h
    · split at h
      · rename_i hb
        simp only [Bool.and_eq_true, Nat.beq_eq] at hb
        obtain ⟨hb1, hb2⟩ := hb
        subst hb1
        subst hb2
        exact absurd (show none = some res from h) (fun h => by cases h)
      · cases h
    · cases h
  | succ n ih =>
    intro L st σ res h
    unfold kc_M_both0_5 at h
    split at h
    · split at h
      · rename_i hb
        simp only [Bool.and_eq_true, Nat.beq_eq] at hb
        obtain ⟨hb1, hb2⟩ := hb
        subst hb1
        subst hb2
        exact ab_ev_sound (tab := tab_M_both0) (Os := [(79, cp_M_next), (82, cp_M_isWord), (119, cp_M_not0)]) (Ks := [(5, kc_M_both0_5 (M_both0_L5 n))]) (fin := finI) hG (by omega) rfl (List.forall_mem_cons.mpr ⟨⟨2, by omega, cs_M_next hG⟩, (List.forall_mem_cons.mpr ⟨⟨3, by omega, cs_M_isWord hG⟩, (List.forall_mem_cons.mpr ⟨⟨38, by omega, cs_M_not0 hG⟩, (fun _ h => absurd h List.not_mem_nil)⟩)⟩)⟩) (List.forall_mem_cons.mpr ⟨ih, (fun _ h => absurd h List.not_mem_nil)⟩) tb_M_both0 300 (ab_row tab_M_both0 5) 5 _ _ σ res (ab_row_bk tb_M_both0 5) ((e_M_both0_L5  _ _ _ _).trans h)
      · cases h
    · cases h
theorem lk_M_both0 {l : Launch} {G : ab_Gt} (hG : ab_GG G) {r : Int32} {σ σ' : Sg} (h : M_both0  σ = some (r, σ')) : ab_CO l G 120 (39) [(vR 30 0)] σ (vI r) σ' := by
  obtain ⟨r0, σ2, hR, hf⟩ := ab_ev_sound (tab := tab_M_both0) (Os := [(79, cp_M_next), (82, cp_M_isWord), (119, cp_M_not0)]) (Ks := [(5, kc_M_both0_5 (M_both0_L5 FU))]) (fin := finI) hG (d := 39) (by omega) rfl (List.forall_mem_cons.mpr ⟨⟨2, by omega, cs_M_next hG⟩, (List.forall_mem_cons.mpr ⟨⟨3, by omega, cs_M_isWord hG⟩, (List.forall_mem_cons.mpr ⟨⟨38, by omega, cs_M_not0 hG⟩, (fun _ h => absurd h List.not_mem_nil)⟩)⟩)⟩) (List.forall_mem_cons.mpr ⟨lc_M_both0_L5 hG FU, (fun _ h => absurd h List.not_mem_nil)⟩) tb_M_both0 300 (ab_row tab_M_both0 0) 0 (ab_ini (ab_ml 120) [(vR 30 0)]) [] σ (r, σ') (ab_row_bk tb_M_both0 0) ((e_M_both0 _).trans h)
  obtain ⟨rfl, rfl⟩ := finI_inv hf
  exact ab_met (by decide) rfl (Nat.le_of_ble_eq_true rfl) hR
theorem cs_M_both0 {l : Launch} {G : ab_Gt} (hG : ab_GG G) {R : Type} : ab_CS (R := R) l G 120 (39) cp_M_both0 := by
  intro as σ k res h
  unfold cp_M_both0 at h
  split at h
  · split at h
    · rename_i hb
      simp only [Bool.and_eq_true, Nat.beq_eq] at hb
      obtain ⟨hb1, hb2⟩ := hb
      subst hb1
      subst hb2
      obtain ⟨q, hq, hk⟩ := Option.bind_eq_some_iff.mp h
      exact ⟨_, _, lk_M_both0 hG hq, rfl, (fun _ => Or.inl ⟨rfl, rfl⟩), hk⟩
    · cases h
  · cases h
theorem tb_M_either0 : ∀ q ∈ tab_M_either0, ab_bk (ab_mo 121) (ab_mb 121) (ab_ml 121) 1 q.1 q.2 = true := List.all_eq_true.mp (by decide +kernel)
theorem lc_M_either0_L5 {l : Launch} {G : ab_Gt} (hG : ab_GG G) : ∀ n : Nat, ab_KS l G 121 (40) finI 5 (kc_M_either0_5 (M_either0_L5 n)) := by
  intro n
  induction n with
  | zero =>
    intro L st σ res h
    unfold kc_M_either0_5 at h
    split at h
    · split at h
      · rename_i hb
        simp only [Bool.and_eq_true, Nat.beq_eq] at hb
        obtain ⟨hb1, hb2⟩ := hb
        subst hb1
        subst hb2
        exact absurd (show none = some res from h) (fun h => by cases h)
      · cases h
    · cases h
  | succ n ih =>
    intro L st σ res h
    unfold kc_M_either0_5 at h
    split at h
    · split at h
      · rename_i hb
        simp only [Bool.and_eq_true, Nat.beq_eq] at hb
        obtain ⟨hb1, hb2⟩ := hb
        subst hb1
        subst hb2
        exact ab_ev_sound (tab := tab_M_either0) (Os := [(79, cp_M_next), (82, cp_M_isWord), (120, cp_M_both0)]) (Ks := [(5, kc_M_either0_5 (M_either0_L5 n))]) (fin := finI) hG (by omega) rfl (List.forall_mem_cons.mpr ⟨⟨2, by omega, cs_M_next hG⟩, (List.forall_mem_cons.mpr ⟨⟨3, by omega, cs_M_isWord hG⟩, (List.forall_mem_cons.mpr ⟨⟨39, by omega, cs_M_both0 hG⟩, (fun _ h => absurd h List.not_mem_nil)⟩)⟩)⟩) (List.forall_mem_cons.mpr ⟨ih, (fun _ h => absurd h List.not_mem_nil)⟩) tb_M_either0 300 (ab_row tab_M_either0 5) 5 _ _ σ res (ab_row_bk tb_M_either0 5) ((e_M_either0_L5  _ _ _ _).trans h)
      · cases h
    · cases h
theorem lk_M_either0 {l : Launch} {G : ab_Gt} (hG : ab_GG G) {r : Int32} {σ σ' : Sg} (h : M_either0  σ = some (r, σ')) : ab_CO l G 121 (40) [(vR 30 0)] σ (vI r) σ' := by
  obtain ⟨r0, σ2, hR, hf⟩ := ab_ev_sound (tab := tab_M_either0) (Os := [(79, cp_M_next), (82, cp_M_isWord), (120, cp_M_both0)]) (Ks := [(5, kc_M_either0_5 (M_either0_L5 FU))]) (fin := finI) hG (d := 40) (by omega) rfl (List.forall_mem_cons.mpr ⟨⟨2, by omega, cs_M_next hG⟩, (List.forall_mem_cons.mpr ⟨⟨3, by omega, cs_M_isWord hG⟩, (List.forall_mem_cons.mpr ⟨⟨39, by omega, cs_M_both0 hG⟩, (fun _ h => absurd h List.not_mem_nil)⟩)⟩)⟩) (List.forall_mem_cons.mpr ⟨lc_M_either0_L5 hG FU, (fun _ h => absurd h List.not_mem_nil)⟩) tb_M_either0 300 (ab_row tab_M_either0 0) 0 (ab_ini (ab_ml 121) [(vR 30 0)]) [] σ (r, σ') (ab_row_bk tb_M_either0 0) ((e_M_either0 _).trans h)
  obtain ⟨rfl, rfl⟩ := finI_inv hf
  exact ab_met (by decide) rfl (Nat.le_of_ble_eq_true rfl) hR
theorem cs_M_either0 {l : Launch} {G : ab_Gt} (hG : ab_GG G) {R : Type} : ab_CS (R := R) l G 121 (40) cp_M_either0 := by
  intro as σ k res h
  unfold cp_M_either0 at h
  split at h
  · split at h
    · rename_i hb
      simp only [Bool.and_eq_true, Nat.beq_eq] at hb
      obtain ⟨hb1, hb2⟩ := hb
      subst hb1
      subst hb2
      obtain ⟨q, hq, hk⟩ := Option.bind_eq_some_iff.mp h
      exact ⟨_, _, lk_M_either0 hG hq, rfl, (fun _ => Or.inl ⟨rfl, rfl⟩), hk⟩
    · cases h
  · cases h
theorem tb_M_part : ∀ q ∈ tab_M_part, ab_bk (ab_mo 122) (ab_mb 122) (ab_ml 122) 1 q.1 q.2 = true := List.all_eq_true.mp (by decide +kernel)
theorem lc_M_part_J48 {l : Launch} {G : ab_Gt} (hG : ab_GG G) : ab_KS l G 122 (41) finI 48 (kc_M_part_48 (M_part_J48)) := by
  intro L st σ res h
  unfold kc_M_part_48 at h
  split at h
  · split at h
    · rename_i hb
      simp only [Bool.and_eq_true, Nat.beq_eq] at hb
      obtain ⟨hb1, hb2⟩ := hb
      subst hb1
      subst hb2
      exact ab_ev_sound (tab := tab_M_part) (Os := [(79, cp_M_next), (80, cp_M_fail), (83, cp_M_isSign), (121, cp_M_either0)]) (Ks := []) (fin := finI) hG (by omega) rfl (List.forall_mem_cons.mpr ⟨⟨2, by omega, cs_M_next hG⟩, (List.forall_mem_cons.mpr ⟨⟨1, by omega, cs_M_fail hG⟩, (List.forall_mem_cons.mpr ⟨⟨1, by omega, cs_M_isSign hG⟩, (List.forall_mem_cons.mpr ⟨⟨40, by omega, cs_M_either0 hG⟩, (fun _ h => absurd h List.not_mem_nil)⟩)⟩)⟩)⟩) (fun _ h => absurd h List.not_mem_nil) tb_M_part 300 (ab_row tab_M_part 48) 48 _ _ σ res (ab_row_bk tb_M_part 48) ((e_M_part_J48  _ _ _).trans h)
    · cases h
  · cases h
theorem lc_M_part_J34 {l : Launch} {G : ab_Gt} (hG : ab_GG G) : ab_KS l G 122 (41) finI 34 (kc_M_part_34 (M_part_J34)) := by
  intro L st σ res h
  unfold kc_M_part_34 at h
  split at h
  · split at h
    · rename_i hb
      simp only [Bool.and_eq_true, Nat.beq_eq] at hb
      obtain ⟨hb1, hb2⟩ := hb
      subst hb1
      subst hb2
      exact ab_ev_sound (tab := tab_M_part) (Os := [(79, cp_M_next), (80, cp_M_fail), (83, cp_M_isSign), (121, cp_M_either0)]) (Ks := [(48, kc_M_part_48 (M_part_J48))]) (fin := finI) hG (by omega) rfl (List.forall_mem_cons.mpr ⟨⟨2, by omega, cs_M_next hG⟩, (List.forall_mem_cons.mpr ⟨⟨1, by omega, cs_M_fail hG⟩, (List.forall_mem_cons.mpr ⟨⟨1, by omega, cs_M_isSign hG⟩, (List.forall_mem_cons.mpr ⟨⟨40, by omega, cs_M_either0 hG⟩, (fun _ h => absurd h List.not_mem_nil)⟩)⟩)⟩)⟩) (List.forall_mem_cons.mpr ⟨lc_M_part_J48 hG, (fun _ h => absurd h List.not_mem_nil)⟩) tb_M_part 300 (ab_row tab_M_part 34) 34 _ _ σ res (ab_row_bk tb_M_part 34) ((e_M_part_J34  _ _ _ _).trans h)
    · cases h
  · cases h
theorem lc_M_part_J19 {l : Launch} {G : ab_Gt} (hG : ab_GG G) : ab_KS l G 122 (41) finI 19 (kc_M_part_19 (M_part_J19)) := by
  intro L st σ res h
  unfold kc_M_part_19 at h
  split at h
  · split at h
    · rename_i hb
      simp only [Bool.and_eq_true, Nat.beq_eq] at hb
      obtain ⟨hb1, hb2⟩ := hb
      subst hb1
      subst hb2
      exact ab_ev_sound (tab := tab_M_part) (Os := [(79, cp_M_next), (80, cp_M_fail), (83, cp_M_isSign), (121, cp_M_either0)]) (Ks := [(34, kc_M_part_34 (M_part_J34))]) (fin := finI) hG (by omega) rfl (List.forall_mem_cons.mpr ⟨⟨2, by omega, cs_M_next hG⟩, (List.forall_mem_cons.mpr ⟨⟨1, by omega, cs_M_fail hG⟩, (List.forall_mem_cons.mpr ⟨⟨1, by omega, cs_M_isSign hG⟩, (List.forall_mem_cons.mpr ⟨⟨40, by omega, cs_M_either0 hG⟩, (fun _ h => absurd h List.not_mem_nil)⟩)⟩)⟩)⟩) (List.forall_mem_cons.mpr ⟨lc_M_part_J34 hG, (fun _ h => absurd h List.not_mem_nil)⟩) tb_M_part 300 (ab_row tab_M_part 19) 19 _ _ σ res (ab_row_bk tb_M_part 19) ((e_M_part_J19  _ _ _).trans h)
    · cases h
  · cases h
theorem lc_M_part_J8 {l : Launch} {G : ab_Gt} (hG : ab_GG G) : ab_KS l G 122 (41) finI 8 (kc_M_part_8 (M_part_J8)) := by
  intro L st σ res h
  unfold kc_M_part_8 at h
  split at h
  · split at h
    · rename_i hb
      simp only [Bool.and_eq_true, Nat.beq_eq] at hb
      obtain ⟨hb1, hb2⟩ := hb
      subst hb1
      subst hb2
      exact ab_ev_sound (tab := tab_M_part) (Os := [(79, cp_M_next), (80, cp_M_fail), (83, cp_M_isSign), (121, cp_M_either0)]) (Ks := [(19, kc_M_part_19 (M_part_J19))]) (fin := finI) hG (by omega) rfl (List.forall_mem_cons.mpr ⟨⟨2, by omega, cs_M_next hG⟩, (List.forall_mem_cons.mpr ⟨⟨1, by omega, cs_M_fail hG⟩, (List.forall_mem_cons.mpr ⟨⟨1, by omega, cs_M_isSign hG⟩, (List.forall_mem_cons.mpr ⟨⟨40, by omega, cs_M_either0 hG⟩, (fun _ h => absurd h List.not_mem_nil)⟩)⟩)⟩)⟩) (List.forall_mem_cons.mpr ⟨lc_M_part_J19 hG, (fun _ h => absurd h List.not_mem_nil)⟩) tb_M_part 300 (ab_row tab_M_part 8) 8 _ _ σ res (ab_row_bk tb_M_part 8) ((e_M_part_J8  _ _ _).trans h)
    · cases h
  · cases h
theorem lk_M_part {l : Launch} {G : ab_Gt} (hG : ab_GG G) {p1 : Int32} {r : Int32} {σ σ' : Sg} (h : M_part p1 σ = some (r, σ')) : ab_CO l G 122 (41) [(vR 30 0), (.inl p1)] σ (vI r) σ' := by
  obtain ⟨r0, σ2, hR, hf⟩ := ab_ev_sound (tab := tab_M_part) (Os := [(79, cp_M_next), (80, cp_M_fail), (83, cp_M_isSign), (121, cp_M_either0)]) (Ks := [(8, kc_M_part_8 (M_part_J8))]) (fin := finI) hG (d := 41) (by omega) rfl (List.forall_mem_cons.mpr ⟨⟨2, by omega, cs_M_next hG⟩, (List.forall_mem_cons.mpr ⟨⟨1, by omega, cs_M_fail hG⟩, (List.forall_mem_cons.mpr ⟨⟨1, by omega, cs_M_isSign hG⟩, (List.forall_mem_cons.mpr ⟨⟨40, by omega, cs_M_either0 hG⟩, (fun _ h => absurd h List.not_mem_nil)⟩)⟩)⟩)⟩) (List.forall_mem_cons.mpr ⟨lc_M_part_J8 hG, (fun _ h => absurd h List.not_mem_nil)⟩) tb_M_part 300 (ab_row tab_M_part 0) 0 (ab_ini (ab_ml 122) [(vR 30 0), (.inl p1)]) [] σ (r, σ') (ab_row_bk tb_M_part 0) ((e_M_part _ _).trans h)
  obtain ⟨rfl, rfl⟩ := finI_inv hf
  exact ab_met (by decide) rfl (Nat.le_of_ble_eq_true rfl) hR
theorem cs_M_part {l : Launch} {G : ab_Gt} (hG : ab_GG G) {R : Type} : ab_CS (R := R) l G 122 (41) cp_M_part := by
  intro as σ k res h
  unfold cp_M_part at h
  split at h
  · split at h
    · rename_i hb
      simp only [Bool.and_eq_true, Nat.beq_eq] at hb
      obtain ⟨hb1, hb2⟩ := hb
      subst hb1
      subst hb2
      obtain ⟨q, hq, hk⟩ := Option.bind_eq_some_iff.mp h
      exact ⟨_, _, lk_M_part hG hq, rfl, (fun _ => Or.inl ⟨rfl, rfl⟩), hk⟩
    · cases h
  · cases h
theorem tb_M_read : ∀ q ∈ tab_M_read, ab_bk (ab_mo 123) (ab_mb 123) (ab_ml 123) 1 q.1 q.2 = true := List.all_eq_true.mp (by decide +kernel)
theorem lc_M_read_J146 {l : Launch} {G : ab_Gt} (hG : ab_GG G) : ab_KS l G 123 (42) finI 146 (kc_M_read_146 (M_read_J146)) := by
  intro L st σ res h
  unfold kc_M_read_146 at h
  split at h
  · exact ab_ev_sound (tab := tab_M_read) (Os := [(79, cp_M_next), (80, cp_M_fail), (82, cp_M_isWord), (122, cp_M_part)]) (Ks := []) (fin := finI) hG (by omega) rfl (List.forall_mem_cons.mpr ⟨⟨2, by omega, cs_M_next hG⟩, (List.forall_mem_cons.mpr ⟨⟨1, by omega, cs_M_fail hG⟩, (List.forall_mem_cons.mpr ⟨⟨3, by omega, cs_M_isWord hG⟩, (List.forall_mem_cons.mpr ⟨⟨41, by omega, cs_M_part hG⟩, (fun _ h => absurd h List.not_mem_nil)⟩)⟩)⟩)⟩) (fun _ h => absurd h List.not_mem_nil) tb_M_read 300 (ab_row tab_M_read 146) 146 _ _ σ res (ab_row_bk tb_M_read 146) ((e_M_read_J146  _ _ _ _ _ _ _).trans h)
  · cases h
theorem lc_M_read_J126 {l : Launch} {G : ab_Gt} (hG : ab_GG G) : ab_KS l G 123 (42) finI 126 (kc_M_read_126 (M_read_J126)) := by
  intro L st σ res h
  unfold kc_M_read_126 at h
  split at h
  · split at h
    · rename_i hb
      simp only [Bool.and_eq_true, Nat.beq_eq] at hb
      obtain ⟨hb1, hb2⟩ := hb
      subst hb1
      subst hb2
      exact ab_ev_sound (tab := tab_M_read) (Os := [(79, cp_M_next), (80, cp_M_fail), (82, cp_M_isWord), (122, cp_M_part)]) (Ks := [(146, kc_M_read_146 (M_read_J146))]) (fin := finI) hG (by omega) rfl (List.forall_mem_cons.mpr ⟨⟨2, by omega, cs_M_next hG⟩, (List.forall_mem_cons.mpr ⟨⟨1, by omega, cs_M_fail hG⟩, (List.forall_mem_cons.mpr ⟨⟨3, by omega, cs_M_isWord hG⟩, (List.forall_mem_cons.mpr ⟨⟨41, by omega, cs_M_part hG⟩, (fun _ h => absurd h List.not_mem_nil)⟩)⟩)⟩)⟩) (List.forall_mem_cons.mpr ⟨lc_M_read_J146 hG, (fun _ h => absurd h List.not_mem_nil)⟩) tb_M_read 300 (ab_row tab_M_read 126) 126 _ _ σ res (ab_row_bk tb_M_read 126) ((e_M_read_J126  _ _ _ _ _ _ _).trans h)
    · cases h
  · cases h
theorem lc_M_read_J92 {l : Launch} {G : ab_Gt} (hG : ab_GG G) : ab_KS l G 123 (42) finI 92 (kc_M_read_92 (M_read_J92)) := by
  intro L st σ res h
  unfold kc_M_read_92 at h
  split at h
  · split at h
    · rename_i hb
      simp only [Bool.and_eq_true, Nat.beq_eq] at hb
      obtain ⟨hb1, hb2⟩ := hb
      subst hb1
      subst hb2
      exact ab_ev_sound (tab := tab_M_read) (Os := [(79, cp_M_next), (80, cp_M_fail), (82, cp_M_isWord), (122, cp_M_part)]) (Ks := [(126, kc_M_read_126 (M_read_J126))]) (fin := finI) hG (by omega) rfl (List.forall_mem_cons.mpr ⟨⟨2, by omega, cs_M_next hG⟩, (List.forall_mem_cons.mpr ⟨⟨1, by omega, cs_M_fail hG⟩, (List.forall_mem_cons.mpr ⟨⟨3, by omega, cs_M_isWord hG⟩, (List.forall_mem_cons.mpr ⟨⟨41, by omega, cs_M_part hG⟩, (fun _ h => absurd h List.not_mem_nil)⟩)⟩)⟩)⟩) (List.forall_mem_cons.mpr ⟨lc_M_read_J126 hG, (fun _ h => absurd h List.not_mem_nil)⟩) tb_M_read 300 (ab_row tab_M_read 92) 92 _ _ σ res (ab_row_bk tb_M_read 92) ((e_M_read_J92  _ _ _ _ _ _ _).trans h)
    · cases h
  · cases h
theorem lk_M_read {l : Launch} {G : ab_Gt} (hG : ab_GG G) {p1 : Int32} {p2 : Int32} {r : Int32} {σ σ' : Sg} (h : M_read p1 p2 σ = some (r, σ')) : ab_CO l G 123 (42) [(vR 30 0), (.inl p1), (.inl p2)] σ (vI r) σ' := by
  obtain ⟨r0, σ2, hR, hf⟩ := ab_ev_sound (tab := tab_M_read) (Os := [(79, cp_M_next), (80, cp_M_fail), (82, cp_M_isWord), (122, cp_M_part)]) (Ks := [(92, kc_M_read_92 (M_read_J92))]) (fin := finI) hG (d := 42) (by omega) rfl (List.forall_mem_cons.mpr ⟨⟨2, by omega, cs_M_next hG⟩, (List.forall_mem_cons.mpr ⟨⟨1, by omega, cs_M_fail hG⟩, (List.forall_mem_cons.mpr ⟨⟨3, by omega, cs_M_isWord hG⟩, (List.forall_mem_cons.mpr ⟨⟨41, by omega, cs_M_part hG⟩, (fun _ h => absurd h List.not_mem_nil)⟩)⟩)⟩)⟩) (List.forall_mem_cons.mpr ⟨lc_M_read_J92 hG, (fun _ h => absurd h List.not_mem_nil)⟩) tb_M_read 300 (ab_row tab_M_read 0) 0 (ab_ini (ab_ml 123) [(vR 30 0), (.inl p1), (.inl p2)]) [] σ (r, σ') (ab_row_bk tb_M_read 0) ((e_M_read _ _ _).trans h)
  obtain ⟨rfl, rfl⟩ := finI_inv hf
  exact ab_met (by decide) rfl (Nat.le_of_ble_eq_true rfl) hR
theorem cs_M_read {l : Launch} {G : ab_Gt} (hG : ab_GG G) {R : Type} : ab_CS (R := R) l G 123 (42) cp_M_read := by
  intro as σ k res h
  unfold cp_M_read at h
  split at h
  · split at h
    · rename_i hb
      simp only [Bool.and_eq_true, Nat.beq_eq] at hb
      obtain ⟨hb1, hb2⟩ := hb
      subst hb1
      subst hb2
      obtain ⟨q, hq, hk⟩ := Option.bind_eq_some_iff.mp h
      exact ⟨_, _, lk_M_read hG hq, rfl, (fun _ => Or.inl ⟨rfl, rfl⟩), hk⟩
    · cases h
  · cases h
theorem tb_M_says : ∀ q ∈ tab_M_says, ab_bk (ab_mo 127) (ab_mb 127) (ab_ml 127) 1 q.1 q.2 = true := List.all_eq_true.mp (by decide +kernel)
theorem lk_M_says {l : Launch} {G : ab_Gt} (hG : ab_GG G) {p1 : Int32} {p2 : Int32} {p3 : Int32} {p4 : Int32} {r : Int32} {σ σ' : Sg} (h : M_says p1 p2 p3 p4 σ = some (r, σ')) : ab_CO l G 127 (43) [(vR 30 0), (.inl p1), (.inl p2), (.inl p3), (.inl p4)] σ (vI r) σ' := by
  obtain ⟨r0, σ2, hR, hf⟩ := ab_ev_sound (tab := tab_M_says) (Os := [(66, cp_M_within), (123, cp_M_read), (126, cp_M_offOf)]) (Ks := []) (fin := finI) hG (d := 43) (by omega) rfl (List.forall_mem_cons.mpr ⟨⟨1, by omega, cs_M_within hG⟩, (List.forall_mem_cons.mpr ⟨⟨42, by omega, cs_M_read hG⟩, (List.forall_mem_cons.mpr ⟨⟨1, by omega, cs_M_offOf hG⟩, (fun _ h => absurd h List.not_mem_nil)⟩)⟩)⟩) (fun _ h => absurd h List.not_mem_nil) tb_M_says 300 (ab_row tab_M_says 0) 0 (ab_ini (ab_ml 127) [(vR 30 0), (.inl p1), (.inl p2), (.inl p3), (.inl p4)]) [] σ (r, σ') (ab_row_bk tb_M_says 0) ((e_M_says _ _ _ _ _).trans h)
  obtain ⟨rfl, rfl⟩ := finI_inv hf
  exact ab_met (by decide) rfl (Nat.le_of_ble_eq_true rfl) hR
theorem cs_M_says {l : Launch} {G : ab_Gt} (hG : ab_GG G) {R : Type} : ab_CS (R := R) l G 127 (43) cp_M_says := by
  intro as σ k res h
  unfold cp_M_says at h
  split at h
  · split at h
    · rename_i hb
      simp only [Bool.and_eq_true, Nat.beq_eq] at hb
      obtain ⟨hb1, hb2⟩ := hb
      subst hb1
      subst hb2
      obtain ⟨q, hq, hk⟩ := Option.bind_eq_some_iff.mp h
      exact ⟨_, _, lk_M_says hG hq, rfl, (fun _ => Or.inl ⟨rfl, rfl⟩), hk⟩
    · cases h
  · cases h
theorem tb_M_fits : ∀ q ∈ tab_M_fits, ab_bk (ab_mo 128) (ab_mb 128) (ab_ml 128) 3 q.1 q.2 = true := List.all_eq_true.mp (by decide +kernel)
theorem lc_M_fits_J101 {l : Launch} {G : ab_Gt} (hG : ab_GG G) : ab_KS l G 128 (44) finI 101 (kc_M_fits_101 (M_fits_J101)) := by
  intro L st σ res h
  unfold kc_M_fits_101 at h
  split at h
  · exact ab_ev_sound (tab := tab_M_fits) (Os := [(126, cp_M_offOf), (127, cp_M_says)]) (Ks := []) (fin := finI) hG (by omega) rfl (List.forall_mem_cons.mpr ⟨⟨1, by omega, cs_M_offOf hG⟩, (List.forall_mem_cons.mpr ⟨⟨43, by omega, cs_M_says hG⟩, (fun _ h => absurd h List.not_mem_nil)⟩)⟩) (fun _ h => absurd h List.not_mem_nil) tb_M_fits 300 (ab_row tab_M_fits 101) 101 _ _ σ res (ab_row_bk tb_M_fits 101) ((e_M_fits_J101  _ _ _ _ _ _ _ _ _).trans h)
  · cases h
theorem lc_M_fits_J62 {l : Launch} {G : ab_Gt} (hG : ab_GG G) : ab_KS l G 128 (44) finI 62 (kc_M_fits_62 (M_fits_J62)) := by
  intro L st σ res h
  unfold kc_M_fits_62 at h
  split at h
  · exact ab_ev_sound (tab := tab_M_fits) (Os := [(126, cp_M_offOf), (127, cp_M_says)]) (Ks := []) (fin := finI) hG (by omega) rfl (List.forall_mem_cons.mpr ⟨⟨1, by omega, cs_M_offOf hG⟩, (List.forall_mem_cons.mpr ⟨⟨43, by omega, cs_M_says hG⟩, (fun _ h => absurd h List.not_mem_nil)⟩)⟩) (fun _ h => absurd h List.not_mem_nil) tb_M_fits 300 (ab_row tab_M_fits 62) 62 _ _ σ res (ab_row_bk tb_M_fits 62) ((e_M_fits_J62  _ _ _ _ _ _ _ _ _).trans h)
  · cases h
theorem lc_M_fits_J48 {l : Launch} {G : ab_Gt} (hG : ab_GG G) : ab_KS l G 128 (44) finI 48 (kc_M_fits_48 (M_fits_J48)) := by
  intro L st σ res h
  unfold kc_M_fits_48 at h
  split at h
  · split at h
    · rename_i hb
      simp only [Bool.and_eq_true, Nat.beq_eq] at hb
      obtain ⟨hb1, hb2⟩ := hb
      subst hb1
      subst hb2
      exact ab_ev_sound (tab := tab_M_fits) (Os := [(126, cp_M_offOf), (127, cp_M_says)]) (Ks := [(62, kc_M_fits_62 (M_fits_J62)), (101, kc_M_fits_101 (M_fits_J101))]) (fin := finI) hG (by omega) rfl (List.forall_mem_cons.mpr ⟨⟨1, by omega, cs_M_offOf hG⟩, (List.forall_mem_cons.mpr ⟨⟨43, by omega, cs_M_says hG⟩, (fun _ h => absurd h List.not_mem_nil)⟩)⟩) (List.forall_mem_cons.mpr ⟨lc_M_fits_J62 hG, (List.forall_mem_cons.mpr ⟨lc_M_fits_J101 hG, (fun _ h => absurd h List.not_mem_nil)⟩)⟩) tb_M_fits 300 (ab_row tab_M_fits 48) 48 _ _ σ res (ab_row_bk tb_M_fits 48) ((e_M_fits_J48  _ _ _ _ _ _ _ _ _).trans h)
    · cases h
  · cases h
theorem lk_M_fits {l : Launch} {G : ab_Gt} (hG : ab_GG G) {p1 : Int32} {p2 : Int32} {p3 : Int32} {r : Int32} {σ σ' : Sg} (h : M_fits p1 p2 p3 σ = some (r, σ')) : ab_CO l G 128 (44) [(vR 30 0), (.inl p1), (.inl p2), (.inl p3)] σ (vI r) σ' := by
  obtain ⟨r0, σ2, hR, hf⟩ := ab_ev_sound (tab := tab_M_fits) (Os := [(126, cp_M_offOf), (127, cp_M_says)]) (Ks := [(48, kc_M_fits_48 (M_fits_J48))]) (fin := finI) hG (d := 44) (by omega) rfl (List.forall_mem_cons.mpr ⟨⟨1, by omega, cs_M_offOf hG⟩, (List.forall_mem_cons.mpr ⟨⟨43, by omega, cs_M_says hG⟩, (fun _ h => absurd h List.not_mem_nil)⟩)⟩) (List.forall_mem_cons.mpr ⟨lc_M_fits_J48 hG, (fun _ h => absurd h List.not_mem_nil)⟩) tb_M_fits 300 (ab_row tab_M_fits 0) 0 (ab_ini (ab_ml 128) [(vR 30 0), (.inl p1), (.inl p2), (.inl p3)]) [] σ (r, σ') (ab_row_bk tb_M_fits 0) ((e_M_fits _ _ _ _).trans h)
  obtain ⟨rfl, rfl⟩ := finI_inv hf
  exact ab_met (by decide) rfl (Nat.le_of_ble_eq_true rfl) hR
theorem cs_M_fits {l : Launch} {G : ab_Gt} (hG : ab_GG G) {R : Type} : ab_CS (R := R) l G 128 (44) cp_M_fits := by
  intro as σ k res h
  unfold cp_M_fits at h
  split at h
  · split at h
    · rename_i hb
      simp only [Bool.and_eq_true, Nat.beq_eq] at hb
      obtain ⟨hb1, hb2⟩ := hb
      subst hb1
      subst hb2
      obtain ⟨q, hq, hk⟩ := Option.bind_eq_some_iff.mp h
      exact ⟨_, _, lk_M_fits hG hq, rfl, (fun _ => Or.inl ⟨rfl, rfl⟩), hk⟩
    · cases h
  · cases h
theorem tb_M_rightAt : ∀ q ∈ tab_M_rightAt, ab_bk (ab_mo 132) (ab_mb 132) (ab_ml 132) 1 q.1 q.2 = true := List.all_eq_true.mp (by decide +kernel)
theorem lc_M_rightAt_L5 {l : Launch} {G : ab_Gt} (hG : ab_GG G) : ∀ n : Nat, ab_KS l G 132 (45) finI 5 (kc_M_rightAt_5 (M_rightAt_L5 n)) := by
  intro n
  induction n with
  | zero =>
    intro L st σ res h
    unfold kc_M_rightAt_5 at h
    split at h
    · split at h
      · rename_i hb
        simp only [Bool.and_eq_true, Nat.beq_eq] at hb
        obtain ⟨hb1, hb2⟩ := hb
        subst hb1
        subst hb2
        exact absurd (show none = some res from h) (fun h => by cases h)
      · cases h
    · cases h
  | succ n ih =>
    intro L st σ res h
    unfold kc_M_rightAt_5 at h
    split at h
    · split at h
      · rename_i hb
        simp only [Bool.and_eq_true, Nat.beq_eq] at hb
        obtain ⟨hb1, hb2⟩ := hb
        subst hb1
        subst hb2
        exact ab_ev_sound (tab := tab_M_rightAt) (Os := [(128, cp_M_fits)]) (Ks := [(5, kc_M_rightAt_5 (M_rightAt_L5 n))]) (fin := finI) hG (by omega) rfl (List.forall_mem_cons.mpr ⟨⟨44, by omega, cs_M_fits hG⟩, (fun _ h => absurd h List.not_mem_nil)⟩) (List.forall_mem_cons.mpr ⟨ih, (fun _ h => absurd h List.not_mem_nil)⟩) tb_M_rightAt 300 (ab_row tab_M_rightAt 5) 5 _ _ σ res (ab_row_bk tb_M_rightAt 5) ((e_M_rightAt_L5  _ _ _ _ _ _).trans h)
      · cases h
    · cases h
theorem lk_M_rightAt {l : Launch} {G : ab_Gt} (hG : ab_GG G) {p1 : Int32} {p2 : Int32} {r : Int32} {σ σ' : Sg} (h : M_rightAt p1 p2 σ = some (r, σ')) : ab_CO l G 132 (45) [(vR 30 0), (.inl p1), (.inl p2)] σ (vI r) σ' := by
  obtain ⟨r0, σ2, hR, hf⟩ := ab_ev_sound (tab := tab_M_rightAt) (Os := [(128, cp_M_fits)]) (Ks := [(5, kc_M_rightAt_5 (M_rightAt_L5 FU))]) (fin := finI) hG (d := 45) (by omega) rfl (List.forall_mem_cons.mpr ⟨⟨44, by omega, cs_M_fits hG⟩, (fun _ h => absurd h List.not_mem_nil)⟩) (List.forall_mem_cons.mpr ⟨lc_M_rightAt_L5 hG FU, (fun _ h => absurd h List.not_mem_nil)⟩) tb_M_rightAt 300 (ab_row tab_M_rightAt 0) 0 (ab_ini (ab_ml 132) [(vR 30 0), (.inl p1), (.inl p2)]) [] σ (r, σ') (ab_row_bk tb_M_rightAt 0) ((e_M_rightAt _ _ _).trans h)
  obtain ⟨rfl, rfl⟩ := finI_inv hf
  exact ab_met (by decide) rfl (Nat.le_of_ble_eq_true rfl) hR
theorem cs_M_rightAt {l : Launch} {G : ab_Gt} (hG : ab_GG G) {R : Type} : ab_CS (R := R) l G 132 (45) cp_M_rightAt := by
  intro as σ k res h
  unfold cp_M_rightAt at h
  split at h
  · split at h
    · rename_i hb
      simp only [Bool.and_eq_true, Nat.beq_eq] at hb
      obtain ⟨hb1, hb2⟩ := hb
      subst hb1
      subst hb2
      obtain ⟨q, hq, hk⟩ := Option.bind_eq_some_iff.mp h
      exact ⟨_, _, lk_M_rightAt hG hq, rfl, (fun _ => Or.inl ⟨rfl, rfl⟩), hk⟩
    · cases h
  · cases h
theorem tb_M_hoursBy : ∀ q ∈ tab_M_hoursBy, ab_bk (ab_mo 133) (ab_mb 133) (ab_ml 133) 1 q.1 q.2 = true := List.all_eq_true.mp (by decide +kernel)
theorem lc_M_hoursBy_L5 {l : Launch} {G : ab_Gt} (hG : ab_GG G) : ∀ n : Nat, ab_KS l G 133 (45) finI 5 (kc_M_hoursBy_5 (M_hoursBy_L5 n)) := by
  intro n
  induction n with
  | zero =>
    intro L st σ res h
    unfold kc_M_hoursBy_5 at h
    split at h
    · split at h
      · rename_i hb
        simp only [Bool.and_eq_true, Nat.beq_eq] at hb
        obtain ⟨hb1, hb2⟩ := hb
        subst hb1
        subst hb2
        exact absurd (show none = some res from h) (fun h => by cases h)
      · cases h
    · cases h
  | succ n ih =>
    intro L st σ res h
    unfold kc_M_hoursBy_5 at h
    split at h
    · split at h
      · rename_i hb
        simp only [Bool.and_eq_true, Nat.beq_eq] at hb
        obtain ⟨hb1, hb2⟩ := hb
        subst hb1
        subst hb2
        exact ab_ev_sound (tab := tab_M_hoursBy) (Os := [(128, cp_M_fits)]) (Ks := [(5, kc_M_hoursBy_5 (M_hoursBy_L5 n))]) (fin := finI) hG (by omega) rfl (List.forall_mem_cons.mpr ⟨⟨44, by omega, cs_M_fits hG⟩, (fun _ h => absurd h List.not_mem_nil)⟩) (List.forall_mem_cons.mpr ⟨ih, (fun _ h => absurd h List.not_mem_nil)⟩) tb_M_hoursBy 300 (ab_row tab_M_hoursBy 5) 5 _ _ σ res (ab_row_bk tb_M_hoursBy 5) ((e_M_hoursBy_L5  _ _ _ _ _ _).trans h)
      · cases h
    · cases h
theorem lk_M_hoursBy {l : Launch} {G : ab_Gt} (hG : ab_GG G) {p1 : Int32} {p2 : Int32} {r : Int32} {σ σ' : Sg} (h : M_hoursBy p1 p2 σ = some (r, σ')) : ab_CO l G 133 (45) [(vR 30 0), (.inl p1), (.inl p2)] σ (vI r) σ' := by
  obtain ⟨r0, σ2, hR, hf⟩ := ab_ev_sound (tab := tab_M_hoursBy) (Os := [(128, cp_M_fits)]) (Ks := [(5, kc_M_hoursBy_5 (M_hoursBy_L5 FU))]) (fin := finI) hG (d := 45) (by omega) rfl (List.forall_mem_cons.mpr ⟨⟨44, by omega, cs_M_fits hG⟩, (fun _ h => absurd h List.not_mem_nil)⟩) (List.forall_mem_cons.mpr ⟨lc_M_hoursBy_L5 hG FU, (fun _ h => absurd h List.not_mem_nil)⟩) tb_M_hoursBy 300 (ab_row tab_M_hoursBy 0) 0 (ab_ini (ab_ml 133) [(vR 30 0), (.inl p1), (.inl p2)]) [] σ (r, σ') (ab_row_bk tb_M_hoursBy 0) ((e_M_hoursBy _ _ _).trans h)
  obtain ⟨rfl, rfl⟩ := finI_inv hf
  exact ab_met (by decide) rfl (Nat.le_of_ble_eq_true rfl) hR
theorem cs_M_hoursBy {l : Launch} {G : ab_Gt} (hG : ab_GG G) {R : Type} : ab_CS (R := R) l G 133 (45) cp_M_hoursBy := by
  intro as σ k res h
  unfold cp_M_hoursBy at h
  split at h
  · split at h
    · rename_i hb
      simp only [Bool.and_eq_true, Nat.beq_eq] at hb
      obtain ⟨hb1, hb2⟩ := hb
      subst hb1
      subst hb2
      obtain ⟨q, hq, hk⟩ := Option.bind_eq_some_iff.mp h
      exact ⟨_, _, lk_M_hoursBy hG hq, rfl, (fun _ => Or.inl ⟨rfl, rfl⟩), hk⟩
    · cases h
  · cases h
theorem tb_M_hoursOf : ∀ q ∈ tab_M_hoursOf, ab_bk (ab_mo 134) (ab_mb 134) (ab_ml 134) 1 q.1 q.2 = true := List.all_eq_true.mp (by decide +kernel)
theorem lc_M_hoursOf_L4 {l : Launch} {G : ab_Gt} (hG : ab_GG G) : ∀ n : Nat, ab_KS l G 134 (46) finI 4 (kc_M_hoursOf_4 (M_hoursOf_L4 n)) := by
  intro n
  induction n with
  | zero =>
    intro L st σ res h
    unfold kc_M_hoursOf_4 at h
    split at h
    · split at h
      · rename_i hb
        simp only [Bool.and_eq_true, Nat.beq_eq] at hb
        obtain ⟨hb1, hb2⟩ := hb
        subst hb1
        subst hb2
        exact absurd (show none = some res from h) (fun h => by cases h)
      · cases h
    · cases h
  | succ n ih =>
    intro L st σ res h
    unfold kc_M_hoursOf_4 at h
    split at h
    · split at h
      · rename_i hb
        simp only [Bool.and_eq_true, Nat.beq_eq] at hb
        obtain ⟨hb1, hb2⟩ := hb
        subst hb1
        subst hb2
        exact ab_ev_sound (tab := tab_M_hoursOf) (Os := [(133, cp_M_hoursBy)]) (Ks := [(4, kc_M_hoursOf_4 (M_hoursOf_L4 n))]) (fin := finI) hG (by omega) rfl (List.forall_mem_cons.mpr ⟨⟨45, by omega, cs_M_hoursBy hG⟩, (fun _ h => absurd h List.not_mem_nil)⟩) (List.forall_mem_cons.mpr ⟨ih, (fun _ h => absurd h List.not_mem_nil)⟩) tb_M_hoursOf 300 (ab_row tab_M_hoursOf 4) 4 _ _ σ res (ab_row_bk tb_M_hoursOf 4) ((e_M_hoursOf_L4  _ _ _ _ _).trans h)
      · cases h
    · cases h
theorem lk_M_hoursOf {l : Launch} {G : ab_Gt} (hG : ab_GG G) {p1 : Int32} {r : Int32} {σ σ' : Sg} (h : M_hoursOf p1 σ = some (r, σ')) : ab_CO l G 134 (46) [(vR 30 0), (.inl p1)] σ (vI r) σ' := by
  obtain ⟨r0, σ2, hR, hf⟩ := ab_ev_sound (tab := tab_M_hoursOf) (Os := [(133, cp_M_hoursBy)]) (Ks := [(4, kc_M_hoursOf_4 (M_hoursOf_L4 FU))]) (fin := finI) hG (d := 46) (by omega) rfl (List.forall_mem_cons.mpr ⟨⟨45, by omega, cs_M_hoursBy hG⟩, (fun _ h => absurd h List.not_mem_nil)⟩) (List.forall_mem_cons.mpr ⟨lc_M_hoursOf_L4 hG FU, (fun _ h => absurd h List.not_mem_nil)⟩) tb_M_hoursOf 300 (ab_row tab_M_hoursOf 0) 0 (ab_ini (ab_ml 134) [(vR 30 0), (.inl p1)]) [] σ (r, σ') (ab_row_bk tb_M_hoursOf 0) ((e_M_hoursOf _ _).trans h)
  obtain ⟨rfl, rfl⟩ := finI_inv hf
  exact ab_met (by decide) rfl (Nat.le_of_ble_eq_true rfl) hR
theorem cs_M_hoursOf {l : Launch} {G : ab_Gt} (hG : ab_GG G) {R : Type} : ab_CS (R := R) l G 134 (46) cp_M_hoursOf := by
  intro as σ k res h
  unfold cp_M_hoursOf at h
  split at h
  · split at h
    · rename_i hb
      simp only [Bool.and_eq_true, Nat.beq_eq] at hb
      obtain ⟨hb1, hb2⟩ := hb
      subst hb1
      subst hb2
      obtain ⟨q, hq, hk⟩ := Option.bind_eq_some_iff.mp h
      exact ⟨_, _, lk_M_hoursOf hG hq, rfl, (fun _ => Or.inl ⟨rfl, rfl⟩), hk⟩
    · cases h
  · cases h
theorem tb_M_told : ∀ q ∈ tab_M_told, ab_bk (ab_mo 76) (ab_mb 76) (ab_ml 76) 1 q.1 q.2 = true := List.all_eq_true.mp (by decide +kernel)
theorem lk_M_told {l : Launch} {G : ab_Gt} (hG : ab_GG G) {p1 : Int32} {p2 : Int32} {r : Int32} {σ σ' : Sg} (h : M_told p1 p2 σ = some (r, σ')) : ab_CO l G 76 (47) [(vR 30 0), (.inl p1), (.inl p2)] σ (vI r) σ' := by
  obtain ⟨r0, σ2, hR, hf⟩ := ab_ev_sound (tab := tab_M_told) (Os := [(65, cp_M_in), (70, cp_M_isOf), (71, cp_M_placeOf), (132, cp_M_rightAt), (134, cp_M_hoursOf)]) (Ks := []) (fin := finI) hG (d := 47) (by omega) rfl (List.forall_mem_cons.mpr ⟨⟨1, by omega, cs_M_in hG⟩, (List.forall_mem_cons.mpr ⟨⟨3, by omega, cs_M_isOf hG⟩, (List.forall_mem_cons.mpr ⟨⟨1, by omega, cs_M_placeOf hG⟩, (List.forall_mem_cons.mpr ⟨⟨45, by omega, cs_M_rightAt hG⟩, (List.forall_mem_cons.mpr ⟨⟨46, by omega, cs_M_hoursOf hG⟩, (fun _ h => absurd h List.not_mem_nil)⟩)⟩)⟩)⟩)⟩) (fun _ h => absurd h List.not_mem_nil) tb_M_told 300 (ab_row tab_M_told 0) 0 (ab_ini (ab_ml 76) [(vR 30 0), (.inl p1), (.inl p2)]) [] σ (r, σ') (ab_row_bk tb_M_told 0) ((e_M_told _ _ _).trans h)
  obtain ⟨rfl, rfl⟩ := finI_inv hf
  exact ab_met (by decide) rfl (Nat.le_of_ble_eq_true rfl) hR
theorem cs_M_told {l : Launch} {G : ab_Gt} (hG : ab_GG G) {R : Type} : ab_CS (R := R) l G 76 (47) cp_M_told := by
  intro as σ k res h
  unfold cp_M_told at h
  split at h
  · split at h
    · rename_i hb
      simp only [Bool.and_eq_true, Nat.beq_eq] at hb
      obtain ⟨hb1, hb2⟩ := hb
      subst hb1
      subst hb2
      obtain ⟨q, hq, hk⟩ := Option.bind_eq_some_iff.mp h
      exact ⟨_, _, lk_M_told hG hq, rfl, (fun _ => Or.inl ⟨rfl, rfl⟩), hk⟩
    · cases h
  · cases h
theorem tb_M_set : ∀ q ∈ tab_M_set, ab_bk (ab_mo 73) (ab_mb 73) (ab_ml 73) 1 q.1 q.2 = true := List.all_eq_true.mp (by decide +kernel)
theorem lk_M_set {l : Launch} {G : ab_Gt} (hG : ab_GG G) {p1 : Int32} {p2 : Int32} {p3 : Int32} {r : Int32} {σ σ' : Sg} (h : M_set p1 p2 p3 σ = some (r, σ')) : ab_CO l G 73 (48) [(vR 30 0), (.inl p1), (.inl p2), (.inl p3)] σ (vI r) σ' := by
  obtain ⟨r0, σ2, hR, hf⟩ := ab_ev_sound (tab := tab_M_set) (Os := [(65, cp_M_in), (70, cp_M_isOf), (72, cp_M_mostOf), (74, cp_M_lays), (76, cp_M_told)]) (Ks := []) (fin := finI) hG (d := 48) (by omega) rfl (List.forall_mem_cons.mpr ⟨⟨1, by omega, cs_M_in hG⟩, (List.forall_mem_cons.mpr ⟨⟨3, by omega, cs_M_isOf hG⟩, (List.forall_mem_cons.mpr ⟨⟨1, by omega, cs_M_mostOf hG⟩, (List.forall_mem_cons.mpr ⟨⟨2, by omega, cs_M_lays hG⟩, (List.forall_mem_cons.mpr ⟨⟨47, by omega, cs_M_told hG⟩, (fun _ h => absurd h List.not_mem_nil)⟩)⟩)⟩)⟩)⟩) (fun _ h => absurd h List.not_mem_nil) tb_M_set 300 (ab_row tab_M_set 0) 0 (ab_ini (ab_ml 73) [(vR 30 0), (.inl p1), (.inl p2), (.inl p3)]) [] σ (r, σ') (ab_row_bk tb_M_set 0) ((e_M_set _ _ _ _).trans h)
  obtain ⟨rfl, rfl⟩ := finI_inv hf
  exact ab_met (by decide) rfl (Nat.le_of_ble_eq_true rfl) hR
theorem cs_M_set {l : Launch} {G : ab_Gt} (hG : ab_GG G) {R : Type} : ab_CS (R := R) l G 73 (48) cp_M_set := by
  intro as σ k res h
  unfold cp_M_set at h
  split at h
  · split at h
    · rename_i hb
      simp only [Bool.and_eq_true, Nat.beq_eq] at hb
      obtain ⟨hb1, hb2⟩ := hb
      subst hb1
      subst hb2
      obtain ⟨q, hq, hk⟩ := Option.bind_eq_some_iff.mp h
      exact ⟨_, _, lk_M_set hG hq, rfl, (fun _ => Or.inl ⟨rfl, rfl⟩), hk⟩
    · cases h
  · cases h
theorem tb_M_coat : ∀ q ∈ tab_M_coat, ab_bk (ab_mo 75) (ab_mb 75) (ab_ml 75) 1 q.1 q.2 = true := List.all_eq_true.mp (by decide +kernel)
theorem lk_M_coat {l : Launch} {G : ab_Gt} (hG : ab_GG G) {p1 : Int32} {p2 : Int32} {p3 : Int32} {r : Int32} {σ σ' : Sg} (h : M_coat p1 p2 p3 σ = some (r, σ')) : ab_CO l G 75 (2) [(vR 30 0), (.inl p1), (.inl p2), (.inl p3)] σ (vI r) σ' := by
  obtain ⟨r0, σ2, hR, hf⟩ := ab_ev_sound (tab := tab_M_coat) (Os := [(65, cp_M_in)]) (Ks := []) (fin := finI) hG (d := 2) (by omega) rfl (List.forall_mem_cons.mpr ⟨⟨1, by omega, cs_M_in hG⟩, (fun _ h => absurd h List.not_mem_nil)⟩) (fun _ h => absurd h List.not_mem_nil) tb_M_coat 300 (ab_row tab_M_coat 0) 0 (ab_ini (ab_ml 75) [(vR 30 0), (.inl p1), (.inl p2), (.inl p3)]) [] σ (r, σ') (ab_row_bk tb_M_coat 0) ((e_M_coat _ _ _ _).trans h)
  obtain ⟨rfl, rfl⟩ := finI_inv hf
  exact ab_met (by decide) rfl (Nat.le_of_ble_eq_true rfl) hR
theorem cs_M_coat {l : Launch} {G : ab_Gt} (hG : ab_GG G) {R : Type} : ab_CS (R := R) l G 75 (2) cp_M_coat := by
  intro as σ k res h
  unfold cp_M_coat at h
  split at h
  · split at h
    · rename_i hb
      simp only [Bool.and_eq_true, Nat.beq_eq] at hb
      obtain ⟨hb1, hb2⟩ := hb
      subst hb1
      subst hb2
      obtain ⟨q, hq, hk⟩ := Option.bind_eq_some_iff.mp h
      exact ⟨_, _, lk_M_coat hG hq, rfl, (fun _ => Or.inl ⟨rfl, rfl⟩), hk⟩
    · cases h
  · cases h
theorem tb_M_feed : ∀ q ∈ tab_M_feed, ab_bk (ab_mo 77) (ab_mb 77) (ab_ml 77) 1 q.1 q.2 = true := List.all_eq_true.mp (by decide +kernel)
theorem lk_M_feed {l : Launch} {G : ab_Gt} (hG : ab_GG G) {p1 : Int32} {r : Int32} {σ σ' : Sg} (h : M_feed p1 σ = some (r, σ')) : ab_CO l G 77 (2) [(vR 30 0), (.inl p1)] σ (vI r) σ' := by
  obtain ⟨r0, σ2, hR, hf⟩ := ab_ev_sound (tab := tab_M_feed) (Os := [(65, cp_M_in)]) (Ks := []) (fin := finI) hG (d := 2) (by omega) rfl (List.forall_mem_cons.mpr ⟨⟨1, by omega, cs_M_in hG⟩, (fun _ h => absurd h List.not_mem_nil)⟩) (fun _ h => absurd h List.not_mem_nil) tb_M_feed 300 (ab_row tab_M_feed 0) 0 (ab_ini (ab_ml 77) [(vR 30 0), (.inl p1)]) [] σ (r, σ') (ab_row_bk tb_M_feed 0) ((e_M_feed _ _).trans h)
  obtain ⟨rfl, rfl⟩ := finI_inv hf
  exact ab_met (by decide) rfl (Nat.le_of_ble_eq_true rfl) hR
theorem cs_M_feed {l : Launch} {G : ab_Gt} (hG : ab_GG G) {R : Type} : ab_CS (R := R) l G 77 (2) cp_M_feed := by
  intro as σ k res h
  unfold cp_M_feed at h
  split at h
  · split at h
    · rename_i hb
      simp only [Bool.and_eq_true, Nat.beq_eq] at hb
      obtain ⟨hb1, hb2⟩ := hb
      subst hb1
      subst hb2
      obtain ⟨q, hq, hk⟩ := Option.bind_eq_some_iff.mp h
      exact ⟨_, _, lk_M_feed hG hq, rfl, (fun _ => Or.inl ⟨rfl, rfl⟩), hk⟩
    · cases h
  · cases h
theorem tb_M_text : ∀ q ∈ tab_M_text, ab_bk (ab_mo 124) (ab_mb 124) (ab_ml 124) 1 q.1 q.2 = true := List.all_eq_true.mp (by decide +kernel)
theorem lc_M_text_L14 {l : Launch} {G : ab_Gt} (hG : ab_GG G) : ∀ n : Nat, ab_KS l G 124 (43) finI 14 (kc_M_text_14 (M_text_L14 n)) := by
  intro n
  induction n with
  | zero =>
    intro L st σ res h
    unfold kc_M_text_14 at h
    split at h
    · split at h
      · rename_i hb
        simp only [Bool.and_eq_true, Nat.beq_eq] at hb
        obtain ⟨hb1, hb2⟩ := hb
        subst hb1
        subst hb2
        exact absurd (show none = some res from h) (fun h => by cases h)
      · cases h
    · cases h
  | succ n ih =>
    intro L st σ res h
    unfold kc_M_text_14 at h
    split at h
    · split at h
      · rename_i hb
        simp only [Bool.and_eq_true, Nat.beq_eq] at hb
        obtain ⟨hb1, hb2⟩ := hb
        subst hb1
        subst hb2
        exact ab_ev_sound (tab := tab_M_text) (Os := [(123, cp_M_read)]) (Ks := [(14, kc_M_text_14 (M_text_L14 n))]) (fin := finI) hG (by omega) rfl (List.forall_mem_cons.mpr ⟨⟨42, by omega, cs_M_read hG⟩, (fun _ h => absurd h List.not_mem_nil)⟩) (List.forall_mem_cons.mpr ⟨ih, (fun _ h => absurd h List.not_mem_nil)⟩) tb_M_text 300 (ab_row tab_M_text 14) 14 _ _ σ res (ab_row_bk tb_M_text 14) ((e_M_text_L14  _ _ _).trans h)
      · cases h
    · cases h
theorem lk_M_text {l : Launch} {G : ab_Gt} (hG : ab_GG G) {r : Int32} {σ σ' : Sg} (h : M_text  σ = some (r, σ')) : ab_CO l G 124 (43) [(vR 30 0)] σ (vI r) σ' := by
  obtain ⟨r0, σ2, hR, hf⟩ := ab_ev_sound (tab := tab_M_text) (Os := [(123, cp_M_read)]) (Ks := [(14, kc_M_text_14 (M_text_L14 FU))]) (fin := finI) hG (d := 43) (by omega) rfl (List.forall_mem_cons.mpr ⟨⟨42, by omega, cs_M_read hG⟩, (fun _ h => absurd h List.not_mem_nil)⟩) (List.forall_mem_cons.mpr ⟨lc_M_text_L14 hG FU, (fun _ h => absurd h List.not_mem_nil)⟩) tb_M_text 300 (ab_row tab_M_text 0) 0 (ab_ini (ab_ml 124) [(vR 30 0)]) [] σ (r, σ') (ab_row_bk tb_M_text 0) ((e_M_text _).trans h)
  obtain ⟨rfl, rfl⟩ := finI_inv hf
  exact ab_met (by decide) rfl (Nat.le_of_ble_eq_true rfl) hR
theorem cs_M_text {l : Launch} {G : ab_Gt} (hG : ab_GG G) {R : Type} : ab_CS (R := R) l G 124 (43) cp_M_text := by
  intro as σ k res h
  unfold cp_M_text at h
  split at h
  · split at h
    · rename_i hb
      simp only [Bool.and_eq_true, Nat.beq_eq] at hb
      obtain ⟨hb1, hb2⟩ := hb
      subst hb1
      subst hb2
      obtain ⟨q, hq, hk⟩ := Option.bind_eq_some_iff.mp h
      exact ⟨_, _, lk_M_text hG hq, rfl, (fun _ => Or.inl ⟨rfl, rfl⟩), hk⟩
    · cases h
  · cases h
theorem tb_M_force : ∀ q ∈ tab_M_force, ab_bk (ab_mo 125) (ab_mb 125) (ab_ml 125) 1 q.1 q.2 = true := List.all_eq_true.mp (by decide +kernel)
theorem lk_M_force {l : Launch} {G : ab_Gt} (hG : ab_GG G) {p1 : Int32} {r : Int32} {σ σ' : Sg} (h : M_force p1 σ = some (r, σ')) : ab_CO l G 125 (2) [(vR 30 0), (.inl p1)] σ (vI r) σ' := by
  obtain ⟨r0, σ2, hR, hf⟩ := ab_ev_sound (tab := tab_M_force) (Os := [(65, cp_M_in)]) (Ks := []) (fin := finI) hG (d := 2) (by omega) rfl (List.forall_mem_cons.mpr ⟨⟨1, by omega, cs_M_in hG⟩, (fun _ h => absurd h List.not_mem_nil)⟩) (fun _ h => absurd h List.not_mem_nil) tb_M_force 300 (ab_row tab_M_force 0) 0 (ab_ini (ab_ml 125) [(vR 30 0), (.inl p1)]) [] σ (r, σ') (ab_row_bk tb_M_force 0) ((e_M_force _ _).trans h)
  obtain ⟨rfl, rfl⟩ := finI_inv hf
  exact ab_met (by decide) rfl (Nat.le_of_ble_eq_true rfl) hR
theorem cs_M_force {l : Launch} {G : ab_Gt} (hG : ab_GG G) {R : Type} : ab_CS (R := R) l G 125 (2) cp_M_force := by
  intro as σ k res h
  unfold cp_M_force at h
  split at h
  · split at h
    · rename_i hb
      simp only [Bool.and_eq_true, Nat.beq_eq] at hb
      obtain ⟨hb1, hb2⟩ := hb
      subst hb1
      subst hb2
      obtain ⟨q, hq, hk⟩ := Option.bind_eq_some_iff.mp h
      exact ⟨_, _, lk_M_force hG hq, rfl, (fun _ => Or.inl ⟨rfl, rfl⟩), hk⟩
    · cases h
  · cases h
theorem tb_M_fineOf : ∀ q ∈ tab_M_fineOf, ab_bk (ab_mo 129) (ab_mb 129) (ab_ml 129) 1 q.1 q.2 = true := List.all_eq_true.mp (by decide +kernel)
theorem lk_M_fineOf {l : Launch} {G : ab_Gt} (hG : ab_GG G) {p1 : Int32} {p2 : Int32} {p3 : Int32} {r : Int32} {σ σ' : Sg} (h : M_fineOf p1 p2 p3 σ = some (r, σ')) : ab_CO l G 129 (44) [(vR 30 0), (.inl p1), (.inl p2), (.inl p3)] σ (vI r) σ' := by
  obtain ⟨r0, σ2, hR, hf⟩ := ab_ev_sound (tab := tab_M_fineOf) (Os := [(66, cp_M_within), (127, cp_M_says)]) (Ks := []) (fin := finI) hG (d := 44) (by omega) rfl (List.forall_mem_cons.mpr ⟨⟨1, by omega, cs_M_within hG⟩, (List.forall_mem_cons.mpr ⟨⟨43, by omega, cs_M_says hG⟩, (fun _ h => absurd h List.not_mem_nil)⟩)⟩) (fun _ h => absurd h List.not_mem_nil) tb_M_fineOf 300 (ab_row tab_M_fineOf 0) 0 (ab_ini (ab_ml 129) [(vR 30 0), (.inl p1), (.inl p2), (.inl p3)]) [] σ (r, σ') (ab_row_bk tb_M_fineOf 0) ((e_M_fineOf _ _ _ _).trans h)
  obtain ⟨rfl, rfl⟩ := finI_inv hf
  exact ab_met (by decide) rfl (Nat.le_of_ble_eq_true rfl) hR
theorem cs_M_fineOf {l : Launch} {G : ab_Gt} (hG : ab_GG G) {R : Type} : ab_CS (R := R) l G 129 (44) cp_M_fineOf := by
  intro as σ k res h
  unfold cp_M_fineOf at h
  split at h
  · split at h
    · rename_i hb
      simp only [Bool.and_eq_true, Nat.beq_eq] at hb
      obtain ⟨hb1, hb2⟩ := hb
      subst hb1
      subst hb2
      obtain ⟨q, hq, hk⟩ := Option.bind_eq_some_iff.mp h
      exact ⟨_, _, lk_M_fineOf hG hq, rfl, (fun _ => Or.inl ⟨rfl, rfl⟩), hk⟩
    · cases h
  · cases h
theorem tb_M_costOf : ∀ q ∈ tab_M_costOf, ab_bk (ab_mo 130) (ab_mb 130) (ab_ml 130) 1 q.1 q.2 = true := List.all_eq_true.mp (by decide +kernel)
theorem lc_M_costOf_J47 {l : Launch} {G : ab_Gt} (hG : ab_GG G) : ab_KS l G 130 (44) finI 47 (kc_M_costOf_47 (M_costOf_J47)) := by
  intro L st σ res h
  unfold kc_M_costOf_47 at h
  split at h
  · split at h
    · rename_i hb
      simp only [Bool.and_eq_true, Nat.beq_eq] at hb
      obtain ⟨hb1, hb2⟩ := hb
      subst hb1
      subst hb2
      exact ab_ev_sound (tab := tab_M_costOf) (Os := [(66, cp_M_within), (127, cp_M_says)]) (Ks := []) (fin := finI) hG (by omega) rfl (List.forall_mem_cons.mpr ⟨⟨1, by omega, cs_M_within hG⟩, (List.forall_mem_cons.mpr ⟨⟨43, by omega, cs_M_says hG⟩, (fun _ h => absurd h List.not_mem_nil)⟩)⟩) (fun _ h => absurd h List.not_mem_nil) tb_M_costOf 300 (ab_row tab_M_costOf 47) 47 _ _ σ res (ab_row_bk tb_M_costOf 47) ((e_M_costOf_J47  _ _ _ _ _ _).trans h)
    · cases h
  · cases h
theorem lk_M_costOf {l : Launch} {G : ab_Gt} (hG : ab_GG G) {p1 : Int32} {p2 : Int32} {p3 : Int32} {r : Int32} {σ σ' : Sg} (h : M_costOf p1 p2 p3 σ = some (r, σ')) : ab_CO l G 130 (44) [(vR 30 0), (.inl p1), (.inl p2), (.inl p3)] σ (vI r) σ' := by
  obtain ⟨r0, σ2, hR, hf⟩ := ab_ev_sound (tab := tab_M_costOf) (Os := [(66, cp_M_within), (127, cp_M_says)]) (Ks := [(47, kc_M_costOf_47 (M_costOf_J47))]) (fin := finI) hG (d := 44) (by omega) rfl (List.forall_mem_cons.mpr ⟨⟨1, by omega, cs_M_within hG⟩, (List.forall_mem_cons.mpr ⟨⟨43, by omega, cs_M_says hG⟩, (fun _ h => absurd h List.not_mem_nil)⟩)⟩) (List.forall_mem_cons.mpr ⟨lc_M_costOf_J47 hG, (fun _ h => absurd h List.not_mem_nil)⟩) tb_M_costOf 300 (ab_row tab_M_costOf 0) 0 (ab_ini (ab_ml 130) [(vR 30 0), (.inl p1), (.inl p2), (.inl p3)]) [] σ (r, σ') (ab_row_bk tb_M_costOf 0) ((e_M_costOf _ _ _ _).trans h)
  obtain ⟨rfl, rfl⟩ := finI_inv hf
  exact ab_met (by decide) rfl (Nat.le_of_ble_eq_true rfl) hR
theorem cs_M_costOf {l : Launch} {G : ab_Gt} (hG : ab_GG G) {R : Type} : ab_CS (R := R) l G 130 (44) cp_M_costOf := by
  intro as σ k res h
  unfold cp_M_costOf at h
  split at h
  · split at h
    · rename_i hb
      simp only [Bool.and_eq_true, Nat.beq_eq] at hb
      obtain ⟨hb1, hb2⟩ := hb
      subst hb1
      subst hb2
      obtain ⟨q, hq, hk⟩ := Option.bind_eq_some_iff.mp h
      exact ⟨_, _, lk_M_costOf hG hq, rfl, (fun _ => Or.inl ⟨rfl, rfl⟩), hk⟩
    · cases h
  · cases h
theorem tb_M_asks : ∀ q ∈ tab_M_asks, ab_bk (ab_mo 131) (ab_mb 131) (ab_ml 131) 1 q.1 q.2 = true := List.all_eq_true.mp (by decide +kernel)
theorem lc_M_asks_J13 {l : Launch} {G : ab_Gt} (hG : ab_GG G) : ab_KS l G 131 (45) finI 13 (kc_M_asks_13 (M_asks_J13)) := by
  intro L st σ res h
  unfold kc_M_asks_13 at h
  split at h
  · split at h
    · rename_i hb
      simp only [Bool.and_eq_true, Nat.beq_eq] at hb
      obtain ⟨hb1, hb2⟩ := hb
      subst hb1
      subst hb2
      exact ab_ev_sound (tab := tab_M_asks) (Os := [(65, cp_M_in), (67, cp_M_isCoat), (68, cp_M_isHour), (126, cp_M_offOf), (128, cp_M_fits), (129, cp_M_fineOf), (130, cp_M_costOf)]) (Ks := []) (fin := finI) hG (by omega) rfl (List.forall_mem_cons.mpr ⟨⟨1, by omega, cs_M_in hG⟩, (List.forall_mem_cons.mpr ⟨⟨2, by omega, cs_M_isCoat hG⟩, (List.forall_mem_cons.mpr ⟨⟨2, by omega, cs_M_isHour hG⟩, (List.forall_mem_cons.mpr ⟨⟨1, by omega, cs_M_offOf hG⟩, (List.forall_mem_cons.mpr ⟨⟨44, by omega, cs_M_fits hG⟩, (List.forall_mem_cons.mpr ⟨⟨44, by omega, cs_M_fineOf hG⟩, (List.forall_mem_cons.mpr ⟨⟨44, by omega, cs_M_costOf hG⟩, (fun _ h => absurd h List.not_mem_nil)⟩)⟩)⟩)⟩)⟩)⟩)⟩) (fun _ h => absurd h List.not_mem_nil) tb_M_asks 300 (ab_row tab_M_asks 13) 13 _ _ σ res (ab_row_bk tb_M_asks 13) ((e_M_asks_J13  _ _ _ _ _ _).trans h)
    · cases h
  · cases h
theorem lk_M_asks {l : Launch} {G : ab_Gt} (hG : ab_GG G) {p1 : Int32} {p2 : Int32} {p3 : Int32} {r : Int32} {σ σ' : Sg} (h : M_asks p1 p2 p3 σ = some (r, σ')) : ab_CO l G 131 (45) [(vR 30 0), (.inl p1), (.inl p2), (.inl p3)] σ (vI r) σ' := by
  obtain ⟨r0, σ2, hR, hf⟩ := ab_ev_sound (tab := tab_M_asks) (Os := [(65, cp_M_in), (67, cp_M_isCoat), (68, cp_M_isHour), (126, cp_M_offOf), (128, cp_M_fits), (129, cp_M_fineOf), (130, cp_M_costOf)]) (Ks := [(13, kc_M_asks_13 (M_asks_J13))]) (fin := finI) hG (d := 45) (by omega) rfl (List.forall_mem_cons.mpr ⟨⟨1, by omega, cs_M_in hG⟩, (List.forall_mem_cons.mpr ⟨⟨2, by omega, cs_M_isCoat hG⟩, (List.forall_mem_cons.mpr ⟨⟨2, by omega, cs_M_isHour hG⟩, (List.forall_mem_cons.mpr ⟨⟨1, by omega, cs_M_offOf hG⟩, (List.forall_mem_cons.mpr ⟨⟨44, by omega, cs_M_fits hG⟩, (List.forall_mem_cons.mpr ⟨⟨44, by omega, cs_M_fineOf hG⟩, (List.forall_mem_cons.mpr ⟨⟨44, by omega, cs_M_costOf hG⟩, (fun _ h => absurd h List.not_mem_nil)⟩)⟩)⟩)⟩)⟩)⟩)⟩) (List.forall_mem_cons.mpr ⟨lc_M_asks_J13 hG, (fun _ h => absurd h List.not_mem_nil)⟩) tb_M_asks 300 (ab_row tab_M_asks 0) 0 (ab_ini (ab_ml 131) [(vR 30 0), (.inl p1), (.inl p2), (.inl p3)]) [] σ (r, σ') (ab_row_bk tb_M_asks 0) ((e_M_asks _ _ _ _).trans h)
  obtain ⟨rfl, rfl⟩ := finI_inv hf
  exact ab_met (by decide) rfl (Nat.le_of_ble_eq_true rfl) hR
theorem cs_M_asks {l : Launch} {G : ab_Gt} (hG : ab_GG G) {R : Type} : ab_CS (R := R) l G 131 (45) cp_M_asks := by
  intro as σ k res h
  unfold cp_M_asks at h
  split at h
  · split at h
    · rename_i hb
      simp only [Bool.and_eq_true, Nat.beq_eq] at hb
      obtain ⟨hb1, hb2⟩ := hb
      subst hb1
      subst hb2
      obtain ⟨q, hq, hk⟩ := Option.bind_eq_some_iff.mp h
      exact ⟨_, _, lk_M_asks hG hq, rfl, (fun _ => Or.inl ⟨rfl, rfl⟩), hk⟩
    · cases h
  · cases h
theorem tb_M_pushed : ∀ q ∈ tab_M_pushed, ab_bk (ab_mo 135) (ab_mb 135) (ab_ml 135) 0 q.1 q.2 = true := List.all_eq_true.mp (by decide +kernel)
theorem lc_M_pushed_L3 {l : Launch} {G : ab_Gt} (hG : ab_GG G) : ∀ n : Nat, ab_KS l G 135 (2) finV 3 (kc_M_pushed_3 (M_pushed_L3 n)) := by
  intro n
  induction n with
  | zero =>
    intro L st σ res h
    unfold kc_M_pushed_3 at h
    split at h
    · split at h
      · rename_i hb
        simp only [Bool.and_eq_true, Nat.beq_eq] at hb
        obtain ⟨hb1, hb2⟩ := hb
        subst hb1
        subst hb2
        exact absurd (show none = some res from h) (fun h => by cases h)
      · cases h
    · cases h
  | succ n ih =>
    intro L st σ res h
    unfold kc_M_pushed_3 at h
    split at h
    · split at h
      · rename_i hb
        simp only [Bool.and_eq_true, Nat.beq_eq] at hb
        obtain ⟨hb1, hb2⟩ := hb
        subst hb1
        subst hb2
        exact ab_ev_sound (tab := tab_M_pushed) (Os := [(66, cp_M_within)]) (Ks := [(3, kc_M_pushed_3 (M_pushed_L3 n))]) (fin := finV) hG (by omega) rfl (List.forall_mem_cons.mpr ⟨⟨1, by omega, cs_M_within hG⟩, (fun _ h => absurd h List.not_mem_nil)⟩) (List.forall_mem_cons.mpr ⟨ih, (fun _ h => absurd h List.not_mem_nil)⟩) tb_M_pushed 300 (ab_row tab_M_pushed 3) 3 _ _ σ res (ab_row_bk tb_M_pushed 3) ((e_M_pushed_L3  _ _ _ _ _ _).trans h)
      · cases h
    · cases h
theorem lk_M_pushed {l : Launch} {G : ab_Gt} (hG : ab_GG G) {p1 : Int32} {p2 : Int32} {p3 : Int32} {σ σ' : Sg} (h : M_pushed p1 p2 p3 σ = some σ') : ab_CO l G 135 (2) [(vR 30 0), (.inl p1), (.inl p2), (.inl p3)] σ vU σ' := by
  obtain ⟨r0, σ2, hR, hf⟩ := ab_ev_sound (tab := tab_M_pushed) (Os := [(66, cp_M_within)]) (Ks := [(3, kc_M_pushed_3 (M_pushed_L3 FU))]) (fin := finV) hG (d := 2) (by omega) rfl (List.forall_mem_cons.mpr ⟨⟨1, by omega, cs_M_within hG⟩, (fun _ h => absurd h List.not_mem_nil)⟩) (List.forall_mem_cons.mpr ⟨lc_M_pushed_L3 hG FU, (fun _ h => absurd h List.not_mem_nil)⟩) tb_M_pushed 300 (ab_row tab_M_pushed 0) 0 (ab_ini (ab_ml 135) [(vR 30 0), (.inl p1), (.inl p2), (.inl p3)]) [] σ σ' (ab_row_bk tb_M_pushed 0) ((e_M_pushed _ _ _ _).trans h)
  obtain ⟨rfl, rfl⟩ := finV_inv hf
  exact ab_met (by decide) rfl (Nat.le_of_ble_eq_true rfl) hR
theorem cs_M_pushed {l : Launch} {G : ab_Gt} (hG : ab_GG G) {R : Type} : ab_CS (R := R) l G 135 (2) cp_M_pushed := by
  intro as σ k res h
  unfold cp_M_pushed at h
  split at h
  · split at h
    · rename_i hb
      simp only [Bool.and_eq_true, Nat.beq_eq] at hb
      obtain ⟨hb1, hb2⟩ := hb
      subst hb1
      subst hb2
      obtain ⟨q, hq, hk⟩ := Option.bind_eq_some_iff.mp h
      exact ⟨_, _, lk_M_pushed hG hq, rfl, (fun _ => Or.inl ⟨rfl, rfl⟩), hk⟩
    · cases h
  · cases h
theorem tb_M_push : ∀ q ∈ tab_M_push, ab_bk (ab_mo 136) (ab_mb 136) (ab_ml 136) 1 q.1 q.2 = true := List.all_eq_true.mp (by decide +kernel)
theorem lk_M_push {l : Launch} {G : ab_Gt} (hG : ab_GG G) {p1 : Int32} {p2 : Int32} {p3 : Int32} {r : Int32} {σ σ' : Sg} (h : M_push p1 p2 p3 σ = some (r, σ')) : ab_CO l G 136 (3) [(vR 30 0), (.inl p1), (.inl p2), (.inl p3)] σ (vI r) σ' := by
  obtain ⟨r0, σ2, hR, hf⟩ := ab_ev_sound (tab := tab_M_push) (Os := [(65, cp_M_in), (68, cp_M_isHour), (69, cp_M_isOne), (135, cp_M_pushed)]) (Ks := []) (fin := finI) hG (d := 3) (by omega) rfl (List.forall_mem_cons.mpr ⟨⟨1, by omega, cs_M_in hG⟩, (List.forall_mem_cons.mpr ⟨⟨2, by omega, cs_M_isHour hG⟩, (List.forall_mem_cons.mpr ⟨⟨2, by omega, cs_M_isOne hG⟩, (List.forall_mem_cons.mpr ⟨⟨2, by omega, cs_M_pushed hG⟩, (fun _ h => absurd h List.not_mem_nil)⟩)⟩)⟩)⟩) (fun _ h => absurd h List.not_mem_nil) tb_M_push 300 (ab_row tab_M_push 0) 0 (ab_ini (ab_ml 136) [(vR 30 0), (.inl p1), (.inl p2), (.inl p3)]) [] σ (r, σ') (ab_row_bk tb_M_push 0) ((e_M_push _ _ _ _).trans h)
  obtain ⟨rfl, rfl⟩ := finI_inv hf
  exact ab_met (by decide) rfl (Nat.le_of_ble_eq_true rfl) hR
theorem cs_M_push {l : Launch} {G : ab_Gt} (hG : ab_GG G) {R : Type} : ab_CS (R := R) l G 136 (3) cp_M_push := by
  intro as σ k res h
  unfold cp_M_push at h
  split at h
  · split at h
    · rename_i hb
      simp only [Bool.and_eq_true, Nat.beq_eq] at hb
      obtain ⟨hb1, hb2⟩ := hb
      subst hb1
      subst hb2
      obtain ⟨q, hq, hk⟩ := Option.bind_eq_some_iff.mp h
      exact ⟨_, _, lk_M_push hG hq, rfl, (fun _ => Or.inl ⟨rfl, rfl⟩), hk⟩
    · cases h
  · cases h
theorem tb_M_planBad : ∀ q ∈ tab_M_planBad, ab_bk (ab_mo 137) (ab_mb 137) (ab_ml 137) 1 q.1 q.2 = true := List.all_eq_true.mp (by decide +kernel)
theorem lc_M_planBad_L28 {l : Launch} {G : ab_Gt} (hG : ab_GG G) : ∀ n : Nat, ab_KS l G 137 (3) finI 28 (kc_M_planBad_28 (M_planBad_L28 n)) := by
  intro n
  induction n with
  | zero =>
    intro L st σ res h
    unfold kc_M_planBad_28 at h
    split at h
    · split at h
      · rename_i hb
        simp only [Bool.and_eq_true, Nat.beq_eq] at hb
        obtain ⟨hb1, hb2⟩ := hb
        subst hb1
        subst hb2
        exact absurd (show none = some res from h) (fun h => by cases h)
      · cases h
    · cases h
  | succ n ih =>
    intro L st σ res h
    unfold kc_M_planBad_28 at h
    split at h
    · split at h
      · rename_i hb
        simp only [Bool.and_eq_true, Nat.beq_eq] at hb
        obtain ⟨hb1, hb2⟩ := hb
        subst hb1
        subst hb2
        exact ab_ev_sound (tab := tab_M_planBad) (Os := [(67, cp_M_isCoat)]) (Ks := [(28, kc_M_planBad_28 (M_planBad_L28 n))]) (fin := finI) hG (by omega) rfl (List.forall_mem_cons.mpr ⟨⟨2, by omega, cs_M_isCoat hG⟩, (fun _ h => absurd h List.not_mem_nil)⟩) (List.forall_mem_cons.mpr ⟨ih, (fun _ h => absurd h List.not_mem_nil)⟩) tb_M_planBad 300 (ab_row tab_M_planBad 28) 28 _ _ σ res (ab_row_bk tb_M_planBad 28) ((e_M_planBad_L28  _ _ _ _ _).trans h)
      · cases h
    · cases h
theorem lk_M_planBad {l : Launch} {G : ab_Gt} (hG : ab_GG G) {p1 : Int32} {r : Int32} {σ σ' : Sg} (h : M_planBad p1 σ = some (r, σ')) : ab_CO l G 137 (3) [(vR 30 0), (.inl p1)] σ (vI r) σ' := by
  obtain ⟨r0, σ2, hR, hf⟩ := ab_ev_sound (tab := tab_M_planBad) (Os := [(67, cp_M_isCoat)]) (Ks := [(28, kc_M_planBad_28 (M_planBad_L28 FU))]) (fin := finI) hG (d := 3) (by omega) rfl (List.forall_mem_cons.mpr ⟨⟨2, by omega, cs_M_isCoat hG⟩, (fun _ h => absurd h List.not_mem_nil)⟩) (List.forall_mem_cons.mpr ⟨lc_M_planBad_L28 hG FU, (fun _ h => absurd h List.not_mem_nil)⟩) tb_M_planBad 300 (ab_row tab_M_planBad 0) 0 (ab_ini (ab_ml 137) [(vR 30 0), (.inl p1)]) [] σ (r, σ') (ab_row_bk tb_M_planBad 0) ((e_M_planBad _ _).trans h)
  obtain ⟨rfl, rfl⟩ := finI_inv hf
  exact ab_met (by decide) rfl (Nat.le_of_ble_eq_true rfl) hR
theorem cs_M_planBad {l : Launch} {G : ab_Gt} (hG : ab_GG G) {R : Type} : ab_CS (R := R) l G 137 (3) cp_M_planBad := by
  intro as σ k res h
  unfold cp_M_planBad at h
  split at h
  · split at h
    · rename_i hb
      simp only [Bool.and_eq_true, Nat.beq_eq] at hb
      obtain ⟨hb1, hb2⟩ := hb
      subst hb1
      subst hb2
      obtain ⟨q, hq, hk⟩ := Option.bind_eq_some_iff.mp h
      exact ⟨_, _, lk_M_planBad hG hq, rfl, (fun _ => Or.inl ⟨rfl, rfl⟩), hk⟩
    · cases h
  · cases h
theorem tb_M_wornAt : ∀ q ∈ tab_M_wornAt, ab_bk (ab_mo 138) (ab_mb 138) (ab_ml 138) 1 q.1 q.2 = true := List.all_eq_true.mp (by decide +kernel)
theorem lk_M_wornAt {l : Launch} {G : ab_Gt} (hG : ab_GG G) {p1 : Int32} {p2 : Int32} {r : Int32} {σ σ' : Sg} (h : M_wornAt p1 p2 σ = some (r, σ')) : ab_CO l G 138 (1) [(vR 30 0), (.inl p1), (.inl p2)] σ (vI r) σ' := by
  obtain ⟨r0, σ2, hR, hf⟩ := ab_ev_sound (tab := tab_M_wornAt) (Os := []) (Ks := []) (fin := finI) hG (d := 1) (by omega) rfl (fun _ h => absurd h List.not_mem_nil) (fun _ h => absurd h List.not_mem_nil) tb_M_wornAt 300 (ab_row tab_M_wornAt 0) 0 (ab_ini (ab_ml 138) [(vR 30 0), (.inl p1), (.inl p2)]) [] σ (r, σ') (ab_row_bk tb_M_wornAt 0) ((e_M_wornAt _ _ _).trans h)
  obtain ⟨rfl, rfl⟩ := finI_inv hf
  exact ab_met (by decide) rfl (Nat.le_of_ble_eq_true rfl) hR
theorem cs_M_wornAt {l : Launch} {G : ab_Gt} (hG : ab_GG G) {R : Type} : ab_CS (R := R) l G 138 (1) cp_M_wornAt := by
  intro as σ k res h
  unfold cp_M_wornAt at h
  split at h
  · split at h
    · rename_i hb
      simp only [Bool.and_eq_true, Nat.beq_eq] at hb
      obtain ⟨hb1, hb2⟩ := hb
      subst hb1
      subst hb2
      obtain ⟨q, hq, hk⟩ := Option.bind_eq_some_iff.mp h
      exact ⟨_, _, lk_M_wornAt hG hq, rfl, (fun _ => Or.inl ⟨rfl, rfl⟩), hk⟩
    · cases h
  · cases h
theorem tb_M_planned : ∀ q ∈ tab_M_planned, ab_bk (ab_mo 139) (ab_mb 139) (ab_ml 139) 1 q.1 q.2 = true := List.all_eq_true.mp (by decide +kernel)
theorem lc_M_planned_J76 {l : Launch} {G : ab_Gt} (hG : ab_GG G) {k15 : Int32 → Int32 → Int32 → Int32 → Int32 → Int32 → Int32 → Int32 → Sg → Option (Int32 × Sg)} (h15 : ab_KS l G 139 (45) finI 15 (kc_M_planned_15 k15)) : ab_KS l G 139 (45) finI 76 (kc_M_planned_76 (M_planned_J76 k15)) := by
  intro L st σ res h
  unfold kc_M_planned_76 at h
  split at h
  · split at h
    · rename_i hb
      simp only [Bool.and_eq_true, Nat.beq_eq] at hb
      obtain ⟨hb1, hb2⟩ := hb
      subst hb1
      subst hb2
      exact ab_ev_sound (tab := tab_M_planned) (Os := [(128, cp_M_fits), (129, cp_M_fineOf), (130, cp_M_costOf), (138, cp_M_wornAt)]) (Ks := [(15, kc_M_planned_15 k15)]) (fin := finI) hG (by omega) rfl (List.forall_mem_cons.mpr ⟨⟨44, by omega, cs_M_fits hG⟩, (List.forall_mem_cons.mpr ⟨⟨44, by omega, cs_M_fineOf hG⟩, (List.forall_mem_cons.mpr ⟨⟨44, by omega, cs_M_costOf hG⟩, (List.forall_mem_cons.mpr ⟨⟨1, by omega, cs_M_wornAt hG⟩, (fun _ h => absurd h List.not_mem_nil)⟩)⟩)⟩)⟩) (List.forall_mem_cons.mpr ⟨h15, (fun _ h => absurd h List.not_mem_nil)⟩) tb_M_planned 300 (ab_row tab_M_planned 76) 76 _ _ σ res (ab_row_bk tb_M_planned 76) ((e_M_planned_J76 _ _ _ _ _ _ _ _ _ _ _ _).trans h)
    · cases h
  · cases h
theorem lc_M_planned_L15 {l : Launch} {G : ab_Gt} (hG : ab_GG G) : ∀ n : Nat, ab_KS l G 139 (45) finI 15 (kc_M_planned_15 (M_planned_L15 n)) := by
  intro n
  induction n with
  | zero =>
    intro L st σ res h
    unfold kc_M_planned_15 at h
    split at h
    · split at h
      · rename_i hb
        simp only [Bool.and_eq_true, Nat.beq_eq] at hb
        obtain ⟨hb1, hb2⟩ := hb
        subst hb1
        subst hb2
        exact absurd (show none = some res from h) (fun h => by cases h)
      · cases h
    · cases h
  | succ n ih =>
    intro L st σ res h
    unfold kc_M_planned_15 at h
    split at h
    · split at h
      · rename_i hb
        simp only [Bool.and_eq_true, Nat.beq_eq] at hb
        obtain ⟨hb1, hb2⟩ := hb
        subst hb1
        subst hb2
        exact ab_ev_sound (tab := tab_M_planned) (Os := [(128, cp_M_fits), (129, cp_M_fineOf), (130, cp_M_costOf), (138, cp_M_wornAt)]) (Ks := [(76, kc_M_planned_76 (M_planned_J76 (fun y0 y1 y2 y3 y4 y5 y6 y7 τ => M_planned_L15 n y0 y1 y2 y3 y4 y5 y6 y7 τ)))]) (fin := finI) hG (by omega) rfl (List.forall_mem_cons.mpr ⟨⟨44, by omega, cs_M_fits hG⟩, (List.forall_mem_cons.mpr ⟨⟨44, by omega, cs_M_fineOf hG⟩, (List.forall_mem_cons.mpr ⟨⟨44, by omega, cs_M_costOf hG⟩, (List.forall_mem_cons.mpr ⟨⟨1, by omega, cs_M_wornAt hG⟩, (fun _ h => absurd h List.not_mem_nil)⟩)⟩)⟩)⟩) (List.forall_mem_cons.mpr ⟨lc_M_planned_J76 hG ih, (fun _ h => absurd h List.not_mem_nil)⟩) tb_M_planned 300 (ab_row tab_M_planned 15) 15 _ _ σ res (ab_row_bk tb_M_planned 15) ((e_M_planned_L15  _ _ _ _ _ _ _ _ _ _ _ _).trans h)
      · cases h
    · cases h
theorem lk_M_planned {l : Launch} {G : ab_Gt} (hG : ab_GG G) {p1 : Int32} {p2 : Int32} {p3 : Int32} {r : Int32} {σ σ' : Sg} (h : M_planned p1 p2 p3 σ = some (r, σ')) : ab_CO l G 139 (45) [(vR 30 0), (.inl p1), (.inl p2), (.inl p3)] σ (vI r) σ' := by
  obtain ⟨r0, σ2, hR, hf⟩ := ab_ev_sound (tab := tab_M_planned) (Os := [(128, cp_M_fits), (129, cp_M_fineOf), (130, cp_M_costOf), (138, cp_M_wornAt)]) (Ks := [(15, kc_M_planned_15 (M_planned_L15 FU))]) (fin := finI) hG (d := 45) (by omega) rfl (List.forall_mem_cons.mpr ⟨⟨44, by omega, cs_M_fits hG⟩, (List.forall_mem_cons.mpr ⟨⟨44, by omega, cs_M_fineOf hG⟩, (List.forall_mem_cons.mpr ⟨⟨44, by omega, cs_M_costOf hG⟩, (List.forall_mem_cons.mpr ⟨⟨1, by omega, cs_M_wornAt hG⟩, (fun _ h => absurd h List.not_mem_nil)⟩)⟩)⟩)⟩) (List.forall_mem_cons.mpr ⟨lc_M_planned_L15 hG FU, (fun _ h => absurd h List.not_mem_nil)⟩) tb_M_planned 300 (ab_row tab_M_planned 0) 0 (ab_ini (ab_ml 139) [(vR 30 0), (.inl p1), (.inl p2), (.inl p3)]) [] σ (r, σ') (ab_row_bk tb_M_planned 0) ((e_M_planned _ _ _ _).trans h)
  obtain ⟨rfl, rfl⟩ := finI_inv hf
  exact ab_met (by decide) rfl (Nat.le_of_ble_eq_true rfl) hR
theorem cs_M_planned {l : Launch} {G : ab_Gt} (hG : ab_GG G) {R : Type} : ab_CS (R := R) l G 139 (45) cp_M_planned := by
  intro as σ k res h
  unfold cp_M_planned at h
  split at h
  · split at h
    · rename_i hb
      simp only [Bool.and_eq_true, Nat.beq_eq] at hb
      obtain ⟨hb1, hb2⟩ := hb
      subst hb1
      subst hb2
      obtain ⟨q, hq, hk⟩ := Option.bind_eq_some_iff.mp h
      exact ⟨_, _, lk_M_planned hG hq, rfl, (fun _ => Or.inl ⟨rfl, rfl⟩), hk⟩
    · cases h
  · cases h
theorem tb_M_isSheet : ∀ q ∈ tab_M_isSheet, ab_bk (ab_mo 170) (ab_mb 170) (ab_ml 170) 3 q.1 q.2 = true := List.all_eq_true.mp (by decide +kernel)
theorem lk_M_isSheet {l : Launch} {G : ab_Gt} (hG : ab_GG G) {p0 : Int32} {r : Int32} {σ σ' : Sg} (h : M_isSheet p0 σ = some (r, σ')) : ab_CO l G 170 (2) [(.inl p0)] σ (vI r) σ' := by
  obtain ⟨r0, σ2, hR, hf⟩ := ab_ev_sound (tab := tab_M_isSheet) (Os := [(65, cp_M_in)]) (Ks := []) (fin := finI) hG (d := 2) (by omega) rfl (List.forall_mem_cons.mpr ⟨⟨1, by omega, cs_M_in hG⟩, (fun _ h => absurd h List.not_mem_nil)⟩) (fun _ h => absurd h List.not_mem_nil) tb_M_isSheet 300 (ab_row tab_M_isSheet 0) 0 (ab_ini (ab_ml 170) [(.inl p0)]) [] σ (r, σ') (ab_row_bk tb_M_isSheet 0) ((e_M_isSheet _ _).trans h)
  obtain ⟨rfl, rfl⟩ := finI_inv hf
  exact ab_met (by decide) rfl (Nat.le_of_ble_eq_true rfl) hR
theorem cs_M_isSheet {l : Launch} {G : ab_Gt} (hG : ab_GG G) {R : Type} : ab_CS (R := R) l G 170 (2) cp_M_isSheet := by
  intro as σ k res h
  unfold cp_M_isSheet at h
  split at h
  · obtain ⟨q, hq, hk⟩ := Option.bind_eq_some_iff.mp h
    exact ⟨_, _, lk_M_isSheet hG hq, rfl, (fun h => by cases h), hk⟩
  · cases h
theorem tb_M_plan : ∀ q ∈ tab_M_plan, ab_bk (ab_mo 140) (ab_mb 140) (ab_ml 140) 1 q.1 q.2 = true := List.all_eq_true.mp (by decide +kernel)
theorem lk_M_plan {l : Launch} {G : ab_Gt} (hG : ab_GG G) {p1 : Int32} {p2 : Int32} {p3 : Int32} {r : Int32} {σ σ' : Sg} (h : M_plan p1 p2 p3 σ = some (r, σ')) : ab_CO l G 140 (46) [(vR 30 0), (.inl p1), (.inl p2), (.inl p3)] σ (vI r) σ' := by
  obtain ⟨r0, σ2, hR, hf⟩ := ab_ev_sound (tab := tab_M_plan) (Os := [(65, cp_M_in), (69, cp_M_isOne), (137, cp_M_planBad), (139, cp_M_planned), (170, cp_M_isSheet)]) (Ks := []) (fin := finI) hG (d := 46) (by omega) rfl (List.forall_mem_cons.mpr ⟨⟨1, by omega, cs_M_in hG⟩, (List.forall_mem_cons.mpr ⟨⟨2, by omega, cs_M_isOne hG⟩, (List.forall_mem_cons.mpr ⟨⟨3, by omega, cs_M_planBad hG⟩, (List.forall_mem_cons.mpr ⟨⟨45, by omega, cs_M_planned hG⟩, (List.forall_mem_cons.mpr ⟨⟨2, by omega, cs_M_isSheet hG⟩, (fun _ h => absurd h List.not_mem_nil)⟩)⟩)⟩)⟩)⟩) (fun _ h => absurd h List.not_mem_nil) tb_M_plan 300 (ab_row tab_M_plan 0) 0 (ab_ini (ab_ml 140) [(vR 30 0), (.inl p1), (.inl p2), (.inl p3)]) [] σ (r, σ') (ab_row_bk tb_M_plan 0) ((e_M_plan _ _ _ _).trans h)
  obtain ⟨rfl, rfl⟩ := finI_inv hf
  exact ab_met (by decide) rfl (Nat.le_of_ble_eq_true rfl) hR
theorem cs_M_plan {l : Launch} {G : ab_Gt} (hG : ab_GG G) {R : Type} : ab_CS (R := R) l G 140 (46) cp_M_plan := by
  intro as σ k res h
  unfold cp_M_plan at h
  split at h
  · split at h
    · rename_i hb
      simp only [Bool.and_eq_true, Nat.beq_eq] at hb
      obtain ⟨hb1, hb2⟩ := hb
      subst hb1
      subst hb2
      obtain ⟨q, hq, hk⟩ := Option.bind_eq_some_iff.mp h
      exact ⟨_, _, lk_M_plan hG hq, rfl, (fun _ => Or.inl ⟨rfl, rfl⟩), hk⟩
    · cases h
  · cases h
theorem tb_M_wear : ∀ q ∈ tab_M_wear, ab_bk (ab_mo 141) (ab_mb 141) (ab_ml 141) 1 q.1 q.2 = true := List.all_eq_true.mp (by decide +kernel)
theorem lc_M_wear_L41 {l : Launch} {G : ab_Gt} (hG : ab_GG G) : ∀ n : Nat, ab_KS l G 141 (46) finI 41 (kc_M_wear_41 (M_wear_L41 n)) := by
  intro n
  induction n with
  | zero =>
    intro L st σ res h
    unfold kc_M_wear_41 at h
    split at h
    · split at h
      · rename_i hb
        simp only [Bool.and_eq_true, Nat.beq_eq] at hb
        obtain ⟨hb1, hb2⟩ := hb
        subst hb1
        subst hb2
        exact absurd (show none = some res from h) (fun h => by cases h)
      · cases h
    · cases h
  | succ n ih =>
    intro L st σ res h
    unfold kc_M_wear_41 at h
    split at h
    · split at h
      · rename_i hb
        simp only [Bool.and_eq_true, Nat.beq_eq] at hb
        obtain ⟨hb1, hb2⟩ := hb
        subst hb1
        subst hb2
        exact ab_ev_sound (tab := tab_M_wear) (Os := [(66, cp_M_within), (69, cp_M_isOne), (137, cp_M_planBad), (138, cp_M_wornAt), (139, cp_M_planned), (170, cp_M_isSheet)]) (Ks := [(41, kc_M_wear_41 (M_wear_L41 n))]) (fin := finI) hG (by omega) rfl (List.forall_mem_cons.mpr ⟨⟨1, by omega, cs_M_within hG⟩, (List.forall_mem_cons.mpr ⟨⟨2, by omega, cs_M_isOne hG⟩, (List.forall_mem_cons.mpr ⟨⟨3, by omega, cs_M_planBad hG⟩, (List.forall_mem_cons.mpr ⟨⟨1, by omega, cs_M_wornAt hG⟩, (List.forall_mem_cons.mpr ⟨⟨45, by omega, cs_M_planned hG⟩, (List.forall_mem_cons.mpr ⟨⟨2, by omega, cs_M_isSheet hG⟩, (fun _ h => absurd h List.not_mem_nil)⟩)⟩)⟩)⟩)⟩)⟩) (List.forall_mem_cons.mpr ⟨ih, (fun _ h => absurd h List.not_mem_nil)⟩) tb_M_wear 300 (ab_row tab_M_wear 41) 41 _ _ σ res (ab_row_bk tb_M_wear 41) ((e_M_wear_L41  _ _ _ _ _ _ _ _).trans h)
      · cases h
    · cases h
theorem lk_M_wear {l : Launch} {G : ab_Gt} (hG : ab_GG G) {p1 : Int32} {p2 : Int32} {r : Int32} {σ σ' : Sg} (h : M_wear p1 p2 σ = some (r, σ')) : ab_CO l G 141 (46) [(vR 30 0), (.inl p1), (.inl p2)] σ (vI r) σ' := by
  obtain ⟨r0, σ2, hR, hf⟩ := ab_ev_sound (tab := tab_M_wear) (Os := [(66, cp_M_within), (69, cp_M_isOne), (137, cp_M_planBad), (138, cp_M_wornAt), (139, cp_M_planned), (170, cp_M_isSheet)]) (Ks := [(41, kc_M_wear_41 (M_wear_L41 FU))]) (fin := finI) hG (d := 46) (by omega) rfl (List.forall_mem_cons.mpr ⟨⟨1, by omega, cs_M_within hG⟩, (List.forall_mem_cons.mpr ⟨⟨2, by omega, cs_M_isOne hG⟩, (List.forall_mem_cons.mpr ⟨⟨3, by omega, cs_M_planBad hG⟩, (List.forall_mem_cons.mpr ⟨⟨1, by omega, cs_M_wornAt hG⟩, (List.forall_mem_cons.mpr ⟨⟨45, by omega, cs_M_planned hG⟩, (List.forall_mem_cons.mpr ⟨⟨2, by omega, cs_M_isSheet hG⟩, (fun _ h => absurd h List.not_mem_nil)⟩)⟩)⟩)⟩)⟩)⟩) (List.forall_mem_cons.mpr ⟨lc_M_wear_L41 hG FU, (fun _ h => absurd h List.not_mem_nil)⟩) tb_M_wear 300 (ab_row tab_M_wear 0) 0 (ab_ini (ab_ml 141) [(vR 30 0), (.inl p1), (.inl p2)]) [] σ (r, σ') (ab_row_bk tb_M_wear 0) ((e_M_wear _ _ _).trans h)
  obtain ⟨rfl, rfl⟩ := finI_inv hf
  exact ab_met (by decide) rfl (Nat.le_of_ble_eq_true rfl) hR
theorem cs_M_wear {l : Launch} {G : ab_Gt} (hG : ab_GG G) {R : Type} : ab_CS (R := R) l G 141 (46) cp_M_wear := by
  intro as σ k res h
  unfold cp_M_wear at h
  split at h
  · split at h
    · rename_i hb
      simp only [Bool.and_eq_true, Nat.beq_eq] at hb
      obtain ⟨hb1, hb2⟩ := hb
      subst hb1
      subst hb2
      obtain ⟨q, hq, hk⟩ := Option.bind_eq_some_iff.mp h
      exact ⟨_, _, lk_M_wear hG hq, rfl, (fun _ => Or.inl ⟨rfl, rfl⟩), hk⟩
    · cases h
  · cases h
theorem tb_M_bitsOf : ∀ q ∈ tab_M_bitsOf, ab_bk (ab_mo 142) (ab_mb 142) (ab_ml 142) 1 q.1 q.2 = true := List.all_eq_true.mp (by decide +kernel)
theorem lc_M_bitsOf_L4 {l : Launch} {G : ab_Gt} (hG : ab_GG G) : ∀ n : Nat, ab_KS l G 142 (1) finI 4 (kc_M_bitsOf_4 (M_bitsOf_L4 n)) := by
  intro n
  induction n with
  | zero =>
    intro L st σ res h
    unfold kc_M_bitsOf_4 at h
    split at h
    · exact absurd (show none = some res from h) (fun h => by cases h)
    · cases h
  | succ n ih =>
    intro L st σ res h
    unfold kc_M_bitsOf_4 at h
    split at h
    · exact ab_ev_sound (tab := tab_M_bitsOf) (Os := []) (Ks := [(4, kc_M_bitsOf_4 (M_bitsOf_L4 n))]) (fin := finI) hG (by omega) rfl (fun _ h => absurd h List.not_mem_nil) (List.forall_mem_cons.mpr ⟨ih, (fun _ h => absurd h List.not_mem_nil)⟩) tb_M_bitsOf 300 (ab_row tab_M_bitsOf 4) 4 _ _ σ res (ab_row_bk tb_M_bitsOf 4) ((e_M_bitsOf_L4  _ _ _ _ _).trans h)
    · cases h
theorem lk_M_bitsOf {l : Launch} {G : ab_Gt} (hG : ab_GG G) {p0 : Int32} {r : Int32} {σ σ' : Sg} (h : M_bitsOf p0 σ = some (r, σ')) : ab_CO l G 142 (1) [(.inl p0)] σ (vI r) σ' := by
  obtain ⟨r0, σ2, hR, hf⟩ := ab_ev_sound (tab := tab_M_bitsOf) (Os := []) (Ks := [(4, kc_M_bitsOf_4 (M_bitsOf_L4 FU))]) (fin := finI) hG (d := 1) (by omega) rfl (fun _ h => absurd h List.not_mem_nil) (List.forall_mem_cons.mpr ⟨lc_M_bitsOf_L4 hG FU, (fun _ h => absurd h List.not_mem_nil)⟩) tb_M_bitsOf 300 (ab_row tab_M_bitsOf 0) 0 (ab_ini (ab_ml 142) [(.inl p0)]) [] σ (r, σ') (ab_row_bk tb_M_bitsOf 0) ((e_M_bitsOf _ _).trans h)
  obtain ⟨rfl, rfl⟩ := finI_inv hf
  exact ab_met (by decide) rfl (Nat.le_of_ble_eq_true rfl) hR
theorem cs_M_bitsOf {l : Launch} {G : ab_Gt} (hG : ab_GG G) {R : Type} : ab_CS (R := R) l G 142 (1) cp_M_bitsOf := by
  intro as σ k res h
  unfold cp_M_bitsOf at h
  split at h
  · obtain ⟨q, hq, hk⟩ := Option.bind_eq_some_iff.mp h
    exact ⟨_, _, lk_M_bitsOf hG hq, rfl, (fun h => by cases h), hk⟩
  · cases h
