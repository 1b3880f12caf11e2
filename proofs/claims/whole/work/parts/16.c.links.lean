theorem tb_X_image : ∀ q ∈ tab_X_image, ab_bk (ab_mo 21) (ab_mb 21) (ab_ml 21) 1 q.1 q.2 = true := List.all_eq_true.mp (by decide +kernel)
theorem lc_X_image_L20 {l : Launch} {G : ab_Gt} (hG : ab_GG G) : ∀ n : Nat, ab_KS l G 21 (3) finI 20 (kc_X_image_20 (X_image_L20 n)) := by
  intro n
  induction n with
  | zero =>
    intro L st σ res h
    unfold kc_X_image_20 at h
    split at h
    · split at h
      · rename_i hb
        simp only [Bool.and_eq_true, Nat.beq_eq] at hb
        obtain ⟨hb1, hb2⟩ := hb
        subst hb1
        subst hb2
        exact absurd (show none = some res from h) (fun h => by cases h)
      · cases h
    · cases h
  | succ n ih =>
    intro L st σ res h
    unfold kc_X_image_20 at h
    split at h
    · split at h
      · rename_i hb
        simp only [Bool.and_eq_true, Nat.beq_eq] at hb
        obtain ⟨hb1, hb2⟩ := hb
        subst hb1
        subst hb2
        exact ab_ev_sound (tab := tab_X_image) (Os := [(178, cp_Coat_become)]) (Ks := [(20, kc_X_image_20 (X_image_L20 n))]) (fin := finI) hG (by omega) rfl (List.forall_mem_cons.mpr ⟨⟨2, by omega, cs_Coat_become hG⟩, (fun _ h => absurd h List.not_mem_nil)⟩) (List.forall_mem_cons.mpr ⟨ih, (fun _ h => absurd h List.not_mem_nil)⟩) tb_X_image 300 (ab_row tab_X_image 20) 20 _ _ σ res (ab_row_bk tb_X_image 20) ((e_X_image_L20  _ _ _).trans h)
      · cases h
    · cases h
theorem lk_X_image {l : Launch} {G : ab_Gt} (hG : ab_GG G) {r : Int32} {σ σ' : Sg} (h : X_image  σ = some (r, σ')) : ab_CO l G 21 (3) [(vR 0 0)] σ (vI r) σ' := by
  obtain ⟨r0, σ2, hR, hf⟩ := ab_ev_sound (tab := tab_X_image) (Os := [(178, cp_Coat_become)]) (Ks := [(20, kc_X_image_20 (X_image_L20 FU))]) (fin := finI) hG (d := 3) (by omega) rfl (List.forall_mem_cons.mpr ⟨⟨2, by omega, cs_Coat_become hG⟩, (fun _ h => absurd h List.not_mem_nil)⟩) (List.forall_mem_cons.mpr ⟨lc_X_image_L20 hG FU, (fun _ h => absurd h List.not_mem_nil)⟩) tb_X_image 300 (ab_row tab_X_image 0) 0 (ab_ini (ab_ml 21) [(vR 0 0)]) [] σ (r, σ') (ab_row_bk tb_X_image 0) ((e_X_image _).trans h)
  obtain ⟨rfl, rfl⟩ := finI_inv hf
  exact ab_met (by decide) rfl (Nat.le_of_ble_eq_true rfl) hR
theorem cs_X_image {l : Launch} {G : ab_Gt} (hG : ab_GG G) {R : Type} : ab_CS (R := R) l G 21 (3) cp_X_image := by
  intro as σ k res h
  unfold cp_X_image at h
  split at h
  · split at h
    · rename_i hb
      simp only [Bool.and_eq_true, Nat.beq_eq] at hb
      obtain ⟨hb1, hb2⟩ := hb
      subst hb1
      subst hb2
      obtain ⟨q, hq, hk⟩ := Option.bind_eq_some_iff.mp h
      exact ⟨_, _, lk_X_image hG hq, rfl, (fun _ => Or.inl ⟨rfl, rfl⟩), hk⟩
    · cases h
  · cases h
theorem tb_X_back : ∀ q ∈ tab_X_back, ab_bk (ab_mo 22) (ab_mb 22) (ab_ml 22) 1 q.1 q.2 = true := List.all_eq_true.mp (by decide +kernel)
theorem lc_X_back_L34 {l : Launch} {G : ab_Gt} (hG : ab_GG G) : ∀ n : Nat, ab_KS l G 22 (3) finI 34 (kc_X_back_34 (X_back_L34 n)) := by
  intro n
  induction n with
  | zero =>
    intro L st σ res h
    unfold kc_X_back_34 at h
    split at h
    · split at h
      · rename_i hb
        simp only [Bool.and_eq_true, Nat.beq_eq] at hb
        obtain ⟨hb1, hb2⟩ := hb
        subst hb1
        subst hb2
        exact absurd (show none = some res from h) (fun h => by cases h)
      · cases h
    · cases h
  | succ n ih =>
    intro L st σ res h
    unfold kc_X_back_34 at h
    split at h
    · split at h
      · rename_i hb
        simp only [Bool.and_eq_true, Nat.beq_eq] at hb
        obtain ⟨hb1, hb2⟩ := hb
        subst hb1
        subst hb2
        exact ab_ev_sound (tab := tab_X_back) (Os := [(178, cp_Coat_become)]) (Ks := [(34, kc_X_back_34 (X_back_L34 n))]) (fin := finI) hG (by omega) rfl (List.forall_mem_cons.mpr ⟨⟨2, by omega, cs_Coat_become hG⟩, (fun _ h => absurd h List.not_mem_nil)⟩) (List.forall_mem_cons.mpr ⟨ih, (fun _ h => absurd h List.not_mem_nil)⟩) tb_X_back 300 (ab_row tab_X_back 34) 34 _ _ σ res (ab_row_bk tb_X_back 34) ((e_X_back_L34  _ _ _).trans h)
      · cases h
    · cases h
theorem lk_X_back {l : Launch} {G : ab_Gt} (hG : ab_GG G) {r : Int32} {σ σ' : Sg} (h : X_back  σ = some (r, σ')) : ab_CO l G 22 (3) [(vR 0 0)] σ (vI r) σ' := by
  obtain ⟨r0, σ2, hR, hf⟩ := ab_ev_sound (tab := tab_X_back) (Os := [(178, cp_Coat_become)]) (Ks := [(34, kc_X_back_34 (X_back_L34 FU))]) (fin := finI) hG (d := 3) (by omega) rfl (List.forall_mem_cons.mpr ⟨⟨2, by omega, cs_Coat_become hG⟩, (fun _ h => absurd h List.not_mem_nil)⟩) (List.forall_mem_cons.mpr ⟨lc_X_back_L34 hG FU, (fun _ h => absurd h List.not_mem_nil)⟩) tb_X_back 300 (ab_row tab_X_back 0) 0 (ab_ini (ab_ml 22) [(vR 0 0)]) [] σ (r, σ') (ab_row_bk tb_X_back 0) ((e_X_back _).trans h)
  obtain ⟨rfl, rfl⟩ := finI_inv hf
  exact ab_met (by decide) rfl (Nat.le_of_ble_eq_true rfl) hR
theorem cs_X_back {l : Launch} {G : ab_Gt} (hG : ab_GG G) {R : Type} : ab_CS (R := R) l G 22 (3) cp_X_back := by
  intro as σ k res h
  unfold cp_X_back at h
  split at h
  · split at h
    · rename_i hb
      simp only [Bool.and_eq_true, Nat.beq_eq] at hb
      obtain ⟨hb1, hb2⟩ := hb
      subst hb1
      subst hb2
      obtain ⟨q, hq, hk⟩ := Option.bind_eq_some_iff.mp h
      exact ⟨_, _, lk_X_back hG hq, rfl, (fun _ => Or.inl ⟨rfl, rfl⟩), hk⟩
    · cases h
  · cases h
theorem tb_X_wornTogether : ∀ q ∈ tab_X_wornTogether, ab_bk (ab_mo 46) (ab_mb 46) (ab_ml 46) 1 q.1 q.2 = true := List.all_eq_true.mp (by decide +kernel)
theorem lc_X_wornTogether_L4 {l : Launch} {G : ab_Gt} (hG : ab_GG G) : ∀ n : Nat, ab_KS l G 46 (1) finI 4 (kc_X_wornTogether_4 (X_wornTogether_L4 n)) := by
  intro n
  induction n with
  | zero =>
    intro L st σ res h
    unfold kc_X_wornTogether_4 at h
    split at h
    · split at h
      · rename_i hb
        simp only [Bool.and_eq_true, Nat.beq_eq] at hb
        obtain ⟨hb1, hb2⟩ := hb
        subst hb1
        subst hb2
        exact absurd (show none = some res from h) (fun h => by cases h)
      · cases h
    · cases h
  | succ n ih =>
    intro L st σ res h
    unfold kc_X_wornTogether_4 at h
    split at h
    · split at h
      · rename_i hb
        simp only [Bool.and_eq_true, Nat.beq_eq] at hb
        obtain ⟨hb1, hb2⟩ := hb
        subst hb1
        subst hb2
        exact ab_ev_sound (tab := tab_X_wornTogether) (Os := []) (Ks := [(4, kc_X_wornTogether_4 (X_wornTogether_L4 n))]) (fin := finI) hG (by omega) rfl (fun _ h => absurd h List.not_mem_nil) (List.forall_mem_cons.mpr ⟨ih, (fun _ h => absurd h List.not_mem_nil)⟩) tb_X_wornTogether 300 (ab_row tab_X_wornTogether 4) 4 _ _ σ res (ab_row_bk tb_X_wornTogether 4) ((e_X_wornTogether_L4  _ _ _ _).trans h)
      · cases h
    · cases h
theorem lk_X_wornTogether {l : Launch} {G : ab_Gt} (hG : ab_GG G) {r : Int32} {σ σ' : Sg} (h : X_wornTogether  σ = some (r, σ')) : ab_CO l G 46 (1) [(vR 0 0)] σ (vI r) σ' := by
  obtain ⟨r0, σ2, hR, hf⟩ := ab_ev_sound (tab := tab_X_wornTogether) (Os := []) (Ks := [(4, kc_X_wornTogether_4 (X_wornTogether_L4 FU))]) (fin := finI) hG (d := 1) (by omega) rfl (fun _ h => absurd h List.not_mem_nil) (List.forall_mem_cons.mpr ⟨lc_X_wornTogether_L4 hG FU, (fun _ h => absurd h List.not_mem_nil)⟩) tb_X_wornTogether 300 (ab_row tab_X_wornTogether 0) 0 (ab_ini (ab_ml 46) [(vR 0 0)]) [] σ (r, σ') (ab_row_bk tb_X_wornTogether 0) ((e_X_wornTogether _).trans h)
  obtain ⟨rfl, rfl⟩ := finI_inv hf
  exact ab_met (by decide) rfl (Nat.le_of_ble_eq_true rfl) hR
theorem cs_X_wornTogether {l : Launch} {G : ab_Gt} (hG : ab_GG G) {R : Type} : ab_CS (R := R) l G 46 (1) cp_X_wornTogether := by
  intro as σ k res h
  unfold cp_X_wornTogether at h
  split at h
  · split at h
    · rename_i hb
      simp only [Bool.and_eq_true, Nat.beq_eq] at hb
      obtain ⟨hb1, hb2⟩ := hb
      subst hb1
      subst hb2
      obtain ⟨q, hq, hk⟩ := Option.bind_eq_some_iff.mp h
      exact ⟨_, _, lk_X_wornTogether hG hq, rfl, (fun _ => Or.inl ⟨rfl, rfl⟩), hk⟩
    · cases h
  · cases h
theorem tb_X_count : ∀ q ∈ tab_X_count, ab_bk (ab_mo 23) (ab_mb 23) (ab_ml 23) 1 q.1 q.2 = true := List.all_eq_true.mp (by decide +kernel)
theorem lk_X_count {l : Launch} {G : ab_Gt} (hG : ab_GG G) {p1 : Int32} {r : Int32} {σ σ' : Sg} (h : X_count p1 σ = some (r, σ')) : ab_CO l G 23 (2) [(vR 0 0), (.inl p1)] σ (vI r) σ' := by
  obtain ⟨r0, σ2, hR, hf⟩ := ab_ev_sound (tab := tab_X_count) (Os := [(46, cp_X_wornTogether)]) (Ks := []) (fin := finI) hG (d := 2) (by omega) rfl (List.forall_mem_cons.mpr ⟨⟨1, by omega, cs_X_wornTogether hG⟩, (fun _ h => absurd h List.not_mem_nil)⟩) (fun _ h => absurd h List.not_mem_nil) tb_X_count 300 (ab_row tab_X_count 0) 0 (ab_ini (ab_ml 23) [(vR 0 0), (.inl p1)]) [] σ (r, σ') (ab_row_bk tb_X_count 0) ((e_X_count _ _).trans h)
  obtain ⟨rfl, rfl⟩ := finI_inv hf
  exact ab_met (by decide) rfl (Nat.le_of_ble_eq_true rfl) hR
theorem cs_X_count {l : Launch} {G : ab_Gt} (hG : ab_GG G) {R : Type} : ab_CS (R := R) l G 23 (2) cp_X_count := by
  intro as σ k res h
  unfold cp_X_count at h
  split at h
  · split at h
    · rename_i hb
      simp only [Bool.and_eq_true, Nat.beq_eq] at hb
      obtain ⟨hb1, hb2⟩ := hb
      subst hb1
      subst hb2
      obtain ⟨q, hq, hk⟩ := Option.bind_eq_some_iff.mp h
      exact ⟨_, _, lk_X_count hG hq, rfl, (fun _ => Or.inl ⟨rfl, rfl⟩), hk⟩
    · cases h
  · cases h
theorem tb_X_sheet : ∀ q ∈ tab_X_sheet, ab_bk (ab_mo 24) (ab_mb 24) (ab_ml 24) 1 q.1 q.2 = true := List.all_eq_true.mp (by decide +kernel)
theorem lk_X_sheet {l : Launch} {G : ab_Gt} (hG : ab_GG G) {p1 : Int32} {p2 : Int32} {p3 : Int32} {r : Int32} {σ σ' : Sg} (h : X_sheet p1 p2 p3 σ = some (r, σ')) : ab_CO l G 24 (2) [(vR 0 0), (.inl p1), (.inl p2), (.inl p3)] σ (vI r) σ' := by
  obtain ⟨r0, σ2, hR, hf⟩ := ab_ev_sound (tab := tab_X_sheet) (Os := [(33, cp_X_isSheet), (198, cp_Sheet_become)]) (Ks := []) (fin := finI) hG (d := 2) (by omega) rfl (List.forall_mem_cons.mpr ⟨⟨1, by omega, cs_X_isSheet hG⟩, (List.forall_mem_cons.mpr ⟨⟨1, by omega, cs_Sheet_become hG⟩, (fun _ h => absurd h List.not_mem_nil)⟩)⟩) (fun _ h => absurd h List.not_mem_nil) tb_X_sheet 300 (ab_row tab_X_sheet 0) 0 (ab_ini (ab_ml 24) [(vR 0 0), (.inl p1), (.inl p2), (.inl p3)]) [] σ (r, σ') (ab_row_bk tb_X_sheet 0) ((e_X_sheet _ _ _ _).trans h)
  obtain ⟨rfl, rfl⟩ := finI_inv hf
  exact ab_met (by decide) rfl (Nat.le_of_ble_eq_true rfl) hR
theorem cs_X_sheet {l : Launch} {G : ab_Gt} (hG : ab_GG G) {R : Type} : ab_CS (R := R) l G 24 (2) cp_X_sheet := by
  intro as σ k res h
  unfold cp_X_sheet at h
  split at h
  · split at h
    · rename_i hb
      simp only [Bool.and_eq_true, Nat.beq_eq] at hb
      obtain ⟨hb1, hb2⟩ := hb
      subst hb1
      subst hb2
      obtain ⟨q, hq, hk⟩ := Option.bind_eq_some_iff.mp h
      exact ⟨_, _, lk_X_sheet hG hq, rfl, (fun _ => Or.inl ⟨rfl, rfl⟩), hk⟩
    · cases h
  · cases h
theorem tb_X_cell : ∀ q ∈ tab_X_cell, ab_bk (ab_mo 25) (ab_mb 25) (ab_ml 25) 1 q.1 q.2 = true := List.all_eq_true.mp (by decide +kernel)
theorem lk_X_cell {l : Launch} {G : ab_Gt} (hG : ab_GG G) {p1 : Int32} {p2 : Int32} {p3 : Int32} {r : Int32} {σ σ' : Sg} (h : X_cell p1 p2 p3 σ = some (r, σ')) : ab_CO l G 25 (3) [(vR 0 0), (.inl p1), (.inl p2), (.inl p3)] σ (vI r) σ' := by
  obtain ⟨r0, σ2, hR, hf⟩ := ab_ev_sound (tab := tab_X_cell) (Os := [(33, cp_X_isSheet), (199, cp_Sheet_put)]) (Ks := []) (fin := finI) hG (d := 3) (by omega) rfl (List.forall_mem_cons.mpr ⟨⟨1, by omega, cs_X_isSheet hG⟩, (List.forall_mem_cons.mpr ⟨⟨2, by omega, cs_Sheet_put hG⟩, (fun _ h => absurd h List.not_mem_nil)⟩)⟩) (fun _ h => absurd h List.not_mem_nil) tb_X_cell 300 (ab_row tab_X_cell 0) 0 (ab_ini (ab_ml 25) [(vR 0 0), (.inl p1), (.inl p2), (.inl p3)]) [] σ (r, σ') (ab_row_bk tb_X_cell 0) ((e_X_cell _ _ _ _).trans h)
  obtain ⟨rfl, rfl⟩ := finI_inv hf
  exact ab_met (by decide) rfl (Nat.le_of_ble_eq_true rfl) hR
theorem cs_X_cell {l : Launch} {G : ab_Gt} (hG : ab_GG G) {R : Type} : ab_CS (R := R) l G 25 (3) cp_X_cell := by
  intro as σ k res h
  unfold cp_X_cell at h
  split at h
  · split at h
    · rename_i hb
      simp only [Bool.and_eq_true, Nat.beq_eq] at hb
      obtain ⟨hb1, hb2⟩ := hb
      subst hb1
      subst hb2
      obtain ⟨q, hq, hk⟩ := Option.bind_eq_some_iff.mp h
      exact ⟨_, _, lk_X_cell hG hq, rfl, (fun _ => Or.inl ⟨rfl, rfl⟩), hk⟩
    · cases h
  · cases h
theorem tb_X_copy : ∀ q ∈ tab_X_copy, ab_bk (ab_mo 26) (ab_mb 26) (ab_ml 26) 1 q.1 q.2 = true := List.all_eq_true.mp (by decide +kernel)
theorem lk_X_copy {l : Launch} {G : ab_Gt} (hG : ab_GG G) {p1 : Int32} {p2 : Int32} {p3 : Int32} {p4 : Int32} {p5 : Int32} {r : Int32} {σ σ' : Sg} (h : X_copy p1 p2 p3 p4 p5 σ = some (r, σ')) : ab_CO l G 26 (2) [(vR 0 0), (.inl p1), (.inl p2), (.inl p3), (.inl p4), (.inl p5)] σ (vI r) σ' := by
  obtain ⟨r0, σ2, hR, hf⟩ := ab_ev_sound (tab := tab_X_copy) (Os := [(33, cp_X_isSheet), (201, cp_Sheet_hasRow)]) (Ks := []) (fin := finI) hG (d := 2) (by omega) rfl (List.forall_mem_cons.mpr ⟨⟨1, by omega, cs_X_isSheet hG⟩, (List.forall_mem_cons.mpr ⟨⟨1, by omega, cs_Sheet_hasRow hG⟩, (fun _ h => absurd h List.not_mem_nil)⟩)⟩) (fun _ h => absurd h List.not_mem_nil) tb_X_copy 300 (ab_row tab_X_copy 0) 0 (ab_ini (ab_ml 26) [(vR 0 0), (.inl p1), (.inl p2), (.inl p3), (.inl p4), (.inl p5)]) [] σ (r, σ') (ab_row_bk tb_X_copy 0) ((e_X_copy _ _ _ _ _ _).trans h)
  obtain ⟨rfl, rfl⟩ := finI_inv hf
  exact ab_met (by decide) rfl (Nat.le_of_ble_eq_true rfl) hR
theorem cs_X_copy {l : Launch} {G : ab_Gt} (hG : ab_GG G) {R : Type} : ab_CS (R := R) l G 26 (2) cp_X_copy := by
  intro as σ k res h
  unfold cp_X_copy at h
  split at h
  · split at h
    · rename_i hb
      simp only [Bool.and_eq_true, Nat.beq_eq] at hb
      obtain ⟨hb1, hb2⟩ := hb
      subst hb1
      subst hb2
      obtain ⟨q, hq, hk⟩ := Option.bind_eq_some_iff.mp h
      exact ⟨_, _, lk_X_copy hG hq, rfl, (fun _ => Or.inl ⟨rfl, rfl⟩), hk⟩
    · cases h
  · cases h
theorem tb_X_coats : ∀ q ∈ tab_X_coats, ab_bk (ab_mo 27) (ab_mb 27) (ab_ml 27) 1 q.1 q.2 = true := List.all_eq_true.mp (by decide +kernel)
theorem lc_X_coats_L69 {l : Launch} {G : ab_Gt} (hG : ab_GG G) : ∀ n : Nat, ab_KS l G 27 (3) finI 69 (kc_X_coats_69 (X_coats_L69 n)) := by
  intro n
  induction n with
  | zero =>
    intro L st σ res h
    unfold kc_X_coats_69 at h
    split at h
    · split at h
      · rename_i hb
        simp only [Bool.and_eq_true, Nat.beq_eq] at hb
        obtain ⟨⟨hb1, hb2⟩, hb3⟩ := hb
        subst hb1
        subst hb2
        subst hb3
        exact absurd (show none = some res from h) (fun h => by cases h)
      · cases h
    · cases h
  | succ n ih =>
    intro L st σ res h
    unfold kc_X_coats_69 at h
    split at h
    · split at h
      · rename_i hb
        simp only [Bool.and_eq_true, Nat.beq_eq] at hb
        obtain ⟨⟨hb1, hb2⟩, hb3⟩ := hb
        subst hb1
        subst hb2
        subst hb3
        exact ab_ev_sound (tab := tab_X_coats) (Os := [(2, cp_X_coat), (33, cp_X_isSheet), (200, cp_Sheet_item), (201, cp_Sheet_hasRow)]) (Ks := [(69, kc_X_coats_69 (X_coats_L69 n))]) (fin := finI) hG (by omega) rfl (List.forall_mem_cons.mpr ⟨⟨2, by omega, cs_X_coat hG⟩, (List.forall_mem_cons.mpr ⟨⟨1, by omega, cs_X_isSheet hG⟩, (List.forall_mem_cons.mpr ⟨⟨2, by omega, cs_Sheet_item hG⟩, (List.forall_mem_cons.mpr ⟨⟨1, by omega, cs_Sheet_hasRow hG⟩, (fun _ h => absurd h List.not_mem_nil)⟩)⟩)⟩)⟩) (List.forall_mem_cons.mpr ⟨ih, (fun _ h => absurd h List.not_mem_nil)⟩) tb_X_coats 300 (ab_row tab_X_coats 69) 69 _ _ σ res (ab_row_bk tb_X_coats 69) ((e_X_coats_L69  _ _ _ _ _ _ _ _ _ _).trans h)
      · cases h
    · cases h
theorem lk_X_coats {l : Launch} {G : ab_Gt} (hG : ab_GG G) {p1 : Int32} {p2 : Int32} {p3 : Int32} {p4 : Int32} {r : Int32} {σ σ' : Sg} (h : X_coats p1 p2 p3 p4 σ = some (r, σ')) : ab_CO l G 27 (3) [(vR 0 0), (.inl p1), (.inl p2), (.inl p3), (.inl p4)] σ (vI r) σ' := by
  obtain ⟨r0, σ2, hR, hf⟩ := ab_ev_sound (tab := tab_X_coats) (Os := [(2, cp_X_coat), (33, cp_X_isSheet), (200, cp_Sheet_item), (201, cp_Sheet_hasRow)]) (Ks := [(69, kc_X_coats_69 (X_coats_L69 FU))]) (fin := finI) hG (d := 3) (by omega) rfl (List.forall_mem_cons.mpr ⟨⟨2, by omega, cs_X_coat hG⟩, (List.forall_mem_cons.mpr ⟨⟨1, by omega, cs_X_isSheet hG⟩, (List.forall_mem_cons.mpr ⟨⟨2, by omega, cs_Sheet_item hG⟩, (List.forall_mem_cons.mpr ⟨⟨1, by omega, cs_Sheet_hasRow hG⟩, (fun _ h => absurd h List.not_mem_nil)⟩)⟩)⟩)⟩) (List.forall_mem_cons.mpr ⟨lc_X_coats_L69 hG FU, (fun _ h => absurd h List.not_mem_nil)⟩) tb_X_coats 300 (ab_row tab_X_coats 0) 0 (ab_ini (ab_ml 27) [(vR 0 0), (.inl p1), (.inl p2), (.inl p3), (.inl p4)]) [] σ (r, σ') (ab_row_bk tb_X_coats 0) ((e_X_coats _ _ _ _ _).trans h)
  obtain ⟨rfl, rfl⟩ := finI_inv hf
  exact ab_met (by decide) rfl (Nat.le_of_ble_eq_true rfl) hR
theorem cs_X_coats {l : Launch} {G : ab_Gt} (hG : ab_GG G) {R : Type} : ab_CS (R := R) l G 27 (3) cp_X_coats := by
  intro as σ k res h
  unfold cp_X_coats at h
  split at h
  · split at h
    · rename_i hb
      simp only [Bool.and_eq_true, Nat.beq_eq] at hb
      obtain ⟨hb1, hb2⟩ := hb
      subst hb1
      subst hb2
      obtain ⟨q, hq, hk⟩ := Option.bind_eq_some_iff.mp h
      exact ⟨_, _, lk_X_coats hG hq, rfl, (fun _ => Or.inl ⟨rfl, rfl⟩), hk⟩
    · cases h
  · cases h
theorem tb_Coat_isUnder : ∀ q ∈ tab_Coat_isUnder, ab_bk (ab_mo 182) (ab_mb 182) (ab_ml 182) 3 q.1 q.2 = true := List.all_eq_true.mp (by decide +kernel)
theorem lc_Coat_isUnder_L7 {l : Launch} {G : ab_Gt} (hG : ab_GG G) : ∀ n : Nat, ab_KS l G 182 (1) finI 7 (kc_Coat_isUnder_7 (Coat_isUnder_L7 n)) := by
  intro n
  induction n with
  | zero =>
    intro L st σ res h
    unfold kc_Coat_isUnder_7 at h
    split at h
    · exact absurd (show none = some res from h) (fun h => by cases h)
    · cases h
  | succ n ih =>
    intro L st σ res h
    unfold kc_Coat_isUnder_7 at h
    split at h
    · exact ab_ev_sound (tab := tab_Coat_isUnder) (Os := []) (Ks := [(7, kc_Coat_isUnder_7 (Coat_isUnder_L7 n))]) (fin := finI) hG (by omega) rfl (fun _ h => absurd h List.not_mem_nil) (List.forall_mem_cons.mpr ⟨ih, (fun _ h => absurd h List.not_mem_nil)⟩) tb_Coat_isUnder 300 (ab_row tab_Coat_isUnder 7) 7 _ _ σ res (ab_row_bk tb_Coat_isUnder 7) ((e_Coat_isUnder_L7  _ _ _ _ _ _).trans h)
    · cases h
theorem lk_Coat_isUnder {l : Launch} {G : ab_Gt} (hG : ab_GG G) {p0 : Nat} {p1 : Int32} {r : Int32} {σ σ' : Sg} (h : Coat_isUnder p0 p1 σ = some (r, σ')) : ab_CO l G 182 (1) [(vR 1 p0), (.inl p1)] σ (vI r) σ' := by
  obtain ⟨r0, σ2, hR, hf⟩ := ab_ev_sound (tab := tab_Coat_isUnder) (Os := []) (Ks := [(7, kc_Coat_isUnder_7 (Coat_isUnder_L7 FU))]) (fin := finI) hG (d := 1) (by omega) rfl (fun _ h => absurd h List.not_mem_nil) (List.forall_mem_cons.mpr ⟨lc_Coat_isUnder_L7 hG FU, (fun _ h => absurd h List.not_mem_nil)⟩) tb_Coat_isUnder 300 (ab_row tab_Coat_isUnder 0) 0 (ab_ini (ab_ml 182) [(vR 1 p0), (.inl p1)]) [] σ (r, σ') (ab_row_bk tb_Coat_isUnder 0) ((e_Coat_isUnder _ _ _).trans h)
  obtain ⟨rfl, rfl⟩ := finI_inv hf
  exact ab_met (by decide) rfl (Nat.le_of_ble_eq_true rfl) hR
theorem cs_Coat_isUnder {l : Launch} {G : ab_Gt} (hG : ab_GG G) {R : Type} : ab_CS (R := R) l G 182 (1) cp_Coat_isUnder := by
  intro as σ k res h
  unfold cp_Coat_isUnder at h
  split at h
  · split at h
    · rename_i hb
      simp only [Bool.and_eq_true, Nat.beq_eq] at hb
      subst hb
      obtain ⟨q, hq, hk⟩ := Option.bind_eq_some_iff.mp h
      exact ⟨_, _, lk_Coat_isUnder hG hq, rfl, (fun _ => Or.inl ⟨rfl, rfl⟩), hk⟩
    · cases h
  · cases h
theorem tb_X_taken : ∀ q ∈ tab_X_taken, ab_bk (ab_mo 28) (ab_mb 28) (ab_ml 28) 1 q.1 q.2 = true := List.all_eq_true.mp (by decide +kernel)
theorem lk_X_taken {l : Launch} {G : ab_Gt} (hG : ab_GG G) {p1 : Int32} {p2 : Int32} {r : Int32} {σ σ' : Sg} (h : X_taken p1 p2 σ = some (r, σ')) : ab_CO l G 28 (2) [(vR 0 0), (.inl p1), (.inl p2)] σ (vI r) σ' := by
  obtain ⟨r0, σ2, hR, hf⟩ := ab_ev_sound (tab := tab_X_taken) (Os := [(32, cp_X_isCoat), (182, cp_Coat_isUnder)]) (Ks := []) (fin := finI) hG (d := 2) (by omega) rfl (List.forall_mem_cons.mpr ⟨⟨1, by omega, cs_X_isCoat hG⟩, (List.forall_mem_cons.mpr ⟨⟨1, by omega, cs_Coat_isUnder hG⟩, (fun _ h => absurd h List.not_mem_nil)⟩)⟩) (fun _ h => absurd h List.not_mem_nil) tb_X_taken 300 (ab_row tab_X_taken 0) 0 (ab_ini (ab_ml 28) [(vR 0 0), (.inl p1), (.inl p2)]) [] σ (r, σ') (ab_row_bk tb_X_taken 0) ((e_X_taken _ _ _).trans h)
  obtain ⟨rfl, rfl⟩ := finI_inv hf
  exact ab_met (by decide) rfl (Nat.le_of_ble_eq_true rfl) hR
theorem cs_X_taken {l : Launch} {G : ab_Gt} (hG : ab_GG G) {R : Type} : ab_CS (R := R) l G 28 (2) cp_X_taken := by
  intro as σ k res h
  unfold cp_X_taken at h
  split at h
  · split at h
    · rename_i hb
      simp only [Bool.and_eq_true, Nat.beq_eq] at hb
      obtain ⟨hb1, hb2⟩ := hb
      subst hb1
      subst hb2
      obtain ⟨q, hq, hk⟩ := Option.bind_eq_some_iff.mp h
      exact ⟨_, _, lk_X_taken hG hq, rfl, (fun _ => Or.inl ⟨rfl, rfl⟩), hk⟩
    · cases h
  · cases h
theorem tb_M_in : ∀ q ∈ tab_M_in, ab_bk (ab_mo 65) (ab_mb 65) (ab_ml 65) 3 q.1 q.2 = true := List.all_eq_true.mp (by decide +kernel)
theorem lk_M_in {l : Launch} {G : ab_Gt} (hG : ab_GG G) {p0 : Int64} {p1 : Int64} {p2 : Int64} {r : Int32} {σ σ' : Sg} (h : M_in p0 p1 p2 σ = some (r, σ')) : ab_CO l G 65 (1) [(.inr (.inl p0)), (.inr (.inl p1)), (.inr (.inl p2))] σ (vI r) σ' := by
  obtain ⟨r0, σ2, hR, hf⟩ := ab_ev_sound (tab := tab_M_in) (Os := []) (Ks := []) (fin := finI) hG (d := 1) (by omega) rfl (fun _ h => absurd h List.not_mem_nil) (fun _ h => absurd h List.not_mem_nil) tb_M_in 300 (ab_row tab_M_in 0) 0 (ab_ini (ab_ml 65) [(.inr (.inl p0)), (.inr (.inl p1)), (.inr (.inl p2))]) [] σ (r, σ') (ab_row_bk tb_M_in 0) ((e_M_in _ _ _ _).trans h)
  obtain ⟨rfl, rfl⟩ := finI_inv hf
  exact ab_met (by decide) rfl (Nat.le_of_ble_eq_true rfl) hR
theorem cs_M_in {l : Launch} {G : ab_Gt} (hG : ab_GG G) {R : Type} : ab_CS (R := R) l G 65 (1) cp_M_in := by
  intro as σ k res h
  unfold cp_M_in at h
  split at h
  · obtain ⟨q, hq, hk⟩ := Option.bind_eq_some_iff.mp h
    exact ⟨_, _, lk_M_in hG hq, rfl, (fun h => by cases h), hk⟩
  · cases h
theorem tb_M_within : ∀ q ∈ tab_M_within, ab_bk (ab_mo 66) (ab_mb 66) (ab_ml 66) 1 q.1 q.2 = true := List.all_eq_true.mp (by decide +kernel)
theorem lk_M_within {l : Launch} {G : ab_Gt} (hG : ab_GG G) {p0 : Int32} {p1 : Int32} {p2 : Int32} {r : Int32} {σ σ' : Sg} (h : M_within p0 p1 p2 σ = some (r, σ')) : ab_CO l G 66 (1) [(.inl p0), (.inl p1), (.inl p2)] σ (vI r) σ' := by
  obtain ⟨r0, σ2, hR, hf⟩ := ab_ev_sound (tab := tab_M_within) (Os := []) (Ks := []) (fin := finI) hG (d := 1) (by omega) rfl (fun _ h => absurd h List.not_mem_nil) (fun _ h => absurd h List.not_mem_nil) tb_M_within 300 (ab_row tab_M_within 0) 0 (ab_ini (ab_ml 66) [(.inl p0), (.inl p1), (.inl p2)]) [] σ (r, σ') (ab_row_bk tb_M_within 0) ((e_M_within _ _ _ _).trans h)
  obtain ⟨rfl, rfl⟩ := finI_inv hf
  exact ab_met (by decide) rfl (Nat.le_of_ble_eq_true rfl) hR
theorem cs_M_within {l : Launch} {G : ab_Gt} (hG : ab_GG G) {R : Type} : ab_CS (R := R) l G 66 (1) cp_M_within := by
  intro as σ k res h
  unfold cp_M_within at h
  split at h
  · obtain ⟨q, hq, hk⟩ := Option.bind_eq_some_iff.mp h
    exact ⟨_, _, lk_M_within hG hq, rfl, (fun h => by cases h), hk⟩
  · cases h
theorem tb_M_isCoat : ∀ q ∈ tab_M_isCoat, ab_bk (ab_mo 67) (ab_mb 67) (ab_ml 67) 3 q.1 q.2 = true := List.all_eq_true.mp (by decide +kernel)
theorem lk_M_isCoat {l : Launch} {G : ab_Gt} (hG : ab_GG G) {p1 : Int32} {r : Int32} {σ σ' : Sg} (h : M_isCoat p1 σ = some (r, σ')) : ab_CO l G 67 (2) [(vR 30 0), (.inl p1)] σ (vI r) σ' := by
  obtain ⟨r0, σ2, hR, hf⟩ := ab_ev_sound (tab := tab_M_isCoat) (Os := [(65, cp_M_in)]) (Ks := []) (fin := finI) hG (d := 2) (by omega) rfl (List.forall_mem_cons.mpr ⟨⟨1, by omega, cs_M_in hG⟩, (fun _ h => absurd h List.not_mem_nil)⟩) (fun _ h => absurd h List.not_mem_nil) tb_M_isCoat 300 (ab_row tab_M_isCoat 0) 0 (ab_ini (ab_ml 67) [(vR 30 0), (.inl p1)]) [] σ (r, σ') (ab_row_bk tb_M_isCoat 0) ((e_M_isCoat _ _).trans h)
  obtain ⟨rfl, rfl⟩ := finI_inv hf
  exact ab_met (by decide) rfl (Nat.le_of_ble_eq_true rfl) hR
theorem cs_M_isCoat {l : Launch} {G : ab_Gt} (hG : ab_GG G) {R : Type} : ab_CS (R := R) l G 67 (2) cp_M_isCoat := by
  intro as σ k res h
  unfold cp_M_isCoat at h
  split at h
  · split at h
    · rename_i hb
      simp only [Bool.and_eq_true, Nat.beq_eq] at hb
      obtain ⟨hb1, hb2⟩ := hb
      subst hb1
      subst hb2
      obtain ⟨q, hq, hk⟩ := Option.bind_eq_some_iff.mp h
      exact ⟨_, _, lk_M_isCoat hG hq, rfl, (fun _ => Or.inl ⟨rfl, rfl⟩), hk⟩
    · cases h
  · cases h
theorem tb_M_isHour : ∀ q ∈ tab_M_isHour, ab_bk (ab_mo 68) (ab_mb 68) (ab_ml 68) 3 q.1 q.2 = true := List.all_eq_true.mp (by decide +kernel)
theorem lk_M_isHour {l : Launch} {G : ab_Gt} (hG : ab_GG G) {p0 : Int32} {r : Int32} {σ σ' : Sg} (h : M_isHour p0 σ = some (r, σ')) : ab_CO l G 68 (2) [(.inl p0)] σ (vI r) σ' := by
  obtain ⟨r0, σ2, hR, hf⟩ := ab_ev_sound (tab := tab_M_isHour) (Os := [(65, cp_M_in)]) (Ks := []) (fin := finI) hG (d := 2) (by omega) rfl (List.forall_mem_cons.mpr ⟨⟨1, by omega, cs_M_in hG⟩, (fun _ h => absurd h List.not_mem_nil)⟩) (fun _ h => absurd h List.not_mem_nil) tb_M_isHour 300 (ab_row tab_M_isHour 0) 0 (ab_ini (ab_ml 68) [(.inl p0)]) [] σ (r, σ') (ab_row_bk tb_M_isHour 0) ((e_M_isHour _ _).trans h)
  obtain ⟨rfl, rfl⟩ := finI_inv hf
  exact ab_met (by decide) rfl (Nat.le_of_ble_eq_true rfl) hR
theorem cs_M_isHour {l : Launch} {G : ab_Gt} (hG : ab_GG G) {R : Type} : ab_CS (R := R) l G 68 (2) cp_M_isHour := by
  intro as σ k res h
  unfold cp_M_isHour at h
  split at h
  · obtain ⟨q, hq, hk⟩ := Option.bind_eq_some_iff.mp h
    exact ⟨_, _, lk_M_isHour hG hq, rfl, (fun h => by cases h), hk⟩
  · cases h
theorem tb_M_isOne : ∀ q ∈ tab_M_isOne, ab_bk (ab_mo 69) (ab_mb 69) (ab_ml 69) 3 q.1 q.2 = true := List.all_eq_true.mp (by decide +kernel)
theorem lk_M_isOne {l : Launch} {G : ab_Gt} (hG : ab_GG G) {p0 : Int32} {r : Int32} {σ σ' : Sg} (h : M_isOne p0 σ = some (r, σ')) : ab_CO l G 69 (2) [(.inl p0)] σ (vI r) σ' := by
  obtain ⟨r0, σ2, hR, hf⟩ := ab_ev_sound (tab := tab_M_isOne) (Os := [(65, cp_M_in)]) (Ks := []) (fin := finI) hG (d := 2) (by omega) rfl (List.forall_mem_cons.mpr ⟨⟨1, by omega, cs_M_in hG⟩, (fun _ h => absurd h List.not_mem_nil)⟩) (fun _ h => absurd h List.not_mem_nil) tb_M_isOne 300 (ab_row tab_M_isOne 0) 0 (ab_ini (ab_ml 69) [(.inl p0)]) [] σ (r, σ') (ab_row_bk tb_M_isOne 0) ((e_M_isOne _ _).trans h)
  obtain ⟨rfl, rfl⟩ := finI_inv hf
  exact ab_met (by decide) rfl (Nat.le_of_ble_eq_true rfl) hR
theorem cs_M_isOne {l : Launch} {G : ab_Gt} (hG : ab_GG G) {R : Type} : ab_CS (R := R) l G 69 (2) cp_M_isOne := by
  intro as σ k res h
  unfold cp_M_isOne at h
  split at h
  · obtain ⟨q, hq, hk⟩ := Option.bind_eq_some_iff.mp h
    exact ⟨_, _, lk_M_isOne hG hq, rfl, (fun h => by cases h), hk⟩
  · cases h
theorem tb_M_isOf : ∀ q ∈ tab_M_isOf, ab_bk (ab_mo 70) (ab_mb 70) (ab_ml 70) 3 q.1 q.2 = true := List.all_eq_true.mp (by decide +kernel)
theorem lc_M_isOf_J9 {l : Launch} {G : ab_Gt} (hG : ab_GG G) : ab_KS l G 70 (3) finI 9 (kc_M_isOf_9 (M_isOf_J9)) := by
  intro L st σ res h
  unfold kc_M_isOf_9 at h
  split at h
  · exact ab_ev_sound (tab := tab_M_isOf) (Os := [(65, cp_M_in), (67, cp_M_isCoat), (68, cp_M_isHour)]) (Ks := []) (fin := finI) hG (by omega) rfl (List.forall_mem_cons.mpr ⟨⟨1, by omega, cs_M_in hG⟩, (List.forall_mem_cons.mpr ⟨⟨2, by omega, cs_M_isCoat hG⟩, (List.forall_mem_cons.mpr ⟨⟨2, by omega, cs_M_isHour hG⟩, (fun _ h => absurd h List.not_mem_nil)⟩)⟩)⟩) (fun _ h => absurd h List.not_mem_nil) tb_M_isOf 300 (ab_row tab_M_isOf 9) 9 _ _ σ res (ab_row_bk tb_M_isOf 9) ((e_M_isOf_J9  _ _ _ _).trans h)
  · cases h
theorem lk_M_isOf {l : Launch} {G : ab_Gt} (hG : ab_GG G) {p1 : Int32} {p2 : Int32} {r : Int32} {σ σ' : Sg} (h : M_isOf p1 p2 σ = some (r, σ')) : ab_CO l G 70 (3) [(vR 30 0), (.inl p1), (.inl p2)] σ (vI r) σ' := by
  obtain ⟨r0, σ2, hR, hf⟩ := ab_ev_sound (tab := tab_M_isOf) (Os := [(65, cp_M_in), (67, cp_M_isCoat), (68, cp_M_isHour)]) (Ks := [(9, kc_M_isOf_9 (M_isOf_J9))]) (fin := finI) hG (d := 3) (by omega) rfl (List.forall_mem_cons.mpr ⟨⟨1, by omega, cs_M_in hG⟩, (List.forall_mem_cons.mpr ⟨⟨2, by omega, cs_M_isCoat hG⟩, (List.forall_mem_cons.mpr ⟨⟨2, by omega, cs_M_isHour hG⟩, (fun _ h => absurd h List.not_mem_nil)⟩)⟩)⟩) (List.forall_mem_cons.mpr ⟨lc_M_isOf_J9 hG, (fun _ h => absurd h List.not_mem_nil)⟩) tb_M_isOf 300 (ab_row tab_M_isOf 0) 0 (ab_ini (ab_ml 70) [(vR 30 0), (.inl p1), (.inl p2)]) [] σ (r, σ') (ab_row_bk tb_M_isOf 0) ((e_M_isOf _ _ _).trans h)
  obtain ⟨rfl, rfl⟩ := finI_inv hf
  exact ab_met (by decide) rfl (Nat.le_of_ble_eq_true rfl) hR
theorem cs_M_isOf {l : Launch} {G : ab_Gt} (hG : ab_GG G) {R : Type} : ab_CS (R := R) l G 70 (3) cp_M_isOf := by
  intro as σ k res h
  unfold cp_M_isOf at h
  split at h
  · split at h
    · rename_i hb
      simp only [Bool.and_eq_true, Nat.beq_eq] at hb
      obtain ⟨hb1, hb2⟩ := hb
      subst hb1
      subst hb2
      obtain ⟨q, hq, hk⟩ := Option.bind_eq_some_iff.mp h
      exact ⟨_, _, lk_M_isOf hG hq, rfl, (fun _ => Or.inl ⟨rfl, rfl⟩), hk⟩
    · cases h
  · cases h
theorem tb_M_placeOf : ∀ q ∈ tab_M_placeOf, ab_bk (ab_mo 71) (ab_mb 71) (ab_ml 71) 1 q.1 q.2 = true := List.all_eq_true.mp (by decide +kernel)
theorem lk_M_placeOf {l : Launch} {G : ab_Gt} (hG : ab_GG G) {p0 : Int32} {r : Int32} {σ σ' : Sg} (h : M_placeOf p0 σ = some (r, σ')) : ab_CO l G 71 (1) [(.inl p0)] σ (vI r) σ' := by
  obtain ⟨r0, σ2, hR, hf⟩ := ab_ev_sound (tab := tab_M_placeOf) (Os := []) (Ks := []) (fin := finI) hG (d := 1) (by omega) rfl (fun _ h => absurd h List.not_mem_nil) (fun _ h => absurd h List.not_mem_nil) tb_M_placeOf 300 (ab_row tab_M_placeOf 0) 0 (ab_ini (ab_ml 71) [(.inl p0)]) [] σ (r, σ') (ab_row_bk tb_M_placeOf 0) ((e_M_placeOf _ _).trans h)
  obtain ⟨rfl, rfl⟩ := finI_inv hf
  exact ab_met (by decide) rfl (Nat.le_of_ble_eq_true rfl) hR
theorem cs_M_placeOf {l : Launch} {G : ab_Gt} (hG : ab_GG G) {R : Type} : ab_CS (R := R) l G 71 (1) cp_M_placeOf := by
  intro as σ k res h
  unfold cp_M_placeOf at h
  split at h
  · obtain ⟨q, hq, hk⟩ := Option.bind_eq_some_iff.mp h
    exact ⟨_, _, lk_M_placeOf hG hq, rfl, (fun h => by cases h), hk⟩
  · cases h
theorem tb_M_mostOf : ∀ q ∈ tab_M_mostOf, ab_bk (ab_mo 72) (ab_mb 72) (ab_ml 72) 1 q.1 q.2 = true := List.all_eq_true.mp (by decide +kernel)
theorem lk_M_mostOf {l : Launch} {G : ab_Gt} (hG : ab_GG G) {p0 : Int32} {r : Int32} {σ σ' : Sg} (h : M_mostOf p0 σ = some (r, σ')) : ab_CO l G 72 (1) [(.inl p0)] σ (vI r) σ' := by
  obtain ⟨r0, σ2, hR, hf⟩ := ab_ev_sound (tab := tab_M_mostOf) (Os := []) (Ks := []) (fin := finI) hG (d := 1) (by omega) rfl (fun _ h => absurd h List.not_mem_nil) (fun _ h => absurd h List.not_mem_nil) tb_M_mostOf 300 (ab_row tab_M_mostOf 0) 0 (ab_ini (ab_ml 72) [(.inl p0)]) [] σ (r, σ') (ab_row_bk tb_M_mostOf 0) ((e_M_mostOf _ _).trans h)
  obtain ⟨rfl, rfl⟩ := finI_inv hf
  exact ab_met (by decide) rfl (Nat.le_of_ble_eq_true rfl) hR
theorem cs_M_mostOf {l : Launch} {G : ab_Gt} (hG : ab_GG G) {R : Type} : ab_CS (R := R) l G 72 (1) cp_M_mostOf := by
  intro as σ k res h
  unfold cp_M_mostOf at h
  split at h
  · obtain ⟨q, hq, hk⟩ := Option.bind_eq_some_iff.mp h
    exact ⟨_, _, lk_M_mostOf hG hq, rfl, (fun h => by cases h), hk⟩
  · cases h
theorem tb_M_lays : ∀ q ∈ tab_M_lays, ab_bk (ab_mo 74) (ab_mb 74) (ab_ml 74) 0 q.1 q.2 = true := List.all_eq_true.mp (by decide +kernel)
theorem lk_M_lays {l : Launch} {G : ab_Gt} (hG : ab_GG G) {p1 : Int32} {p2 : Int32} {p3 : Int32} {σ σ' : Sg} (h : M_lays p1 p2 p3 σ = some σ') : ab_CO l G 74 (2) [(vR 30 0), (.inl p1), (.inl p2), (.inl p3)] σ vU σ' := by
  obtain ⟨r0, σ2, hR, hf⟩ := ab_ev_sound (tab := tab_M_lays) (Os := [(71, cp_M_placeOf)]) (Ks := []) (fin := finV) hG (d := 2) (by omega) rfl (List.forall_mem_cons.mpr ⟨⟨1, by omega, cs_M_placeOf hG⟩, (fun _ h => absurd h List.not_mem_nil)⟩) (fun _ h => absurd h List.not_mem_nil) tb_M_lays 300 (ab_row tab_M_lays 0) 0 (ab_ini (ab_ml 74) [(vR 30 0), (.inl p1), (.inl p2), (.inl p3)]) [] σ σ' (ab_row_bk tb_M_lays 0) ((e_M_lays _ _ _ _).trans h)
  obtain ⟨rfl, rfl⟩ := finV_inv hf
  exact ab_met (by decide) rfl (Nat.le_of_ble_eq_true rfl) hR
theorem cs_M_lays {l : Launch} {G : ab_Gt} (hG : ab_GG G) {R : Type} : ab_CS (R := R) l G 74 (2) cp_M_lays := by
  intro as σ k res h
  unfold cp_M_lays at h
  split at h
  · split at h
    · rename_i hb
      simp only [Bool.and_eq_true, Nat.beq_eq] at hb
      obtain ⟨hb1, hb2⟩ := hb
      subst hb1
      subst hb2
      obtain ⟨q, hq, hk⟩ := Option.bind_eq_some_iff.mp h
      exact ⟨_, _, lk_M_lays hG hq, rfl, (fun _ => Or.inl ⟨rfl, rfl⟩), hk⟩
    · cases h
  · cases h
theorem tb_M_offOf : ∀ q ∈ tab_M_offOf, ab_bk (ab_mo 126) (ab_mb 126) (ab_ml 126) 1 q.1 q.2 = true := List.all_eq_true.mp (by decide +kernel)
theorem lk_M_offOf {l : Launch} {G : ab_Gt} (hG : ab_GG G) {p1 : Int32} {p2 : Int32} {r : Int32} {σ σ' : Sg} (h : M_offOf p1 p2 σ = some (r, σ')) : ab_CO l G 126 (1) [(vR 30 0), (.inl p1), (.inl p2)] σ (vI r) σ' := by
  obtain ⟨r0, σ2, hR, hf⟩ := ab_ev_sound (tab := tab_M_offOf) (Os := []) (Ks := []) (fin := finI) hG (d := 1) (by omega) rfl (fun _ h => absurd h List.not_mem_nil) (fun _ h => absurd h List.not_mem_nil) tb_M_offOf 300 (ab_row tab_M_offOf 0) 0 (ab_ini (ab_ml 126) [(vR 30 0), (.inl p1), (.inl p2)]) [] σ (r, σ') (ab_row_bk tb_M_offOf 0) ((e_M_offOf _ _ _).trans h)
  obtain ⟨rfl, rfl⟩ := finI_inv hf
  exact ab_met (by decide) rfl (Nat.le_of_ble_eq_true rfl) hR
theorem cs_M_offOf {l : Launch} {G : ab_Gt} (hG : ab_GG G) {R : Type} : ab_CS (R := R) l G 126 (1) cp_M_offOf := by
  intro as σ k res h
  unfold cp_M_offOf at h
  split at h
  · split at h
    · rename_i hb
      simp only [Bool.and_eq_true, Nat.beq_eq] at hb
      obtain ⟨hb1, hb2⟩ := hb
      subst hb1
      subst hb2
      obtain ⟨q, hq, hk⟩ := Option.bind_eq_some_iff.mp h
      exact ⟨_, _, lk_M_offOf hG hq, rfl, (fun _ => Or.inl ⟨rfl, rfl⟩), hk⟩
    · cases h
  · cases h
theorem tb_M_byteAt : ∀ q ∈ tab_M_byteAt, ab_bk (ab_mo 78) (ab_mb 78) (ab_ml 78) 1 q.1 q.2 = true := List.all_eq_true.mp (by decide +kernel)
theorem lk_M_byteAt {l : Launch} {G : ab_Gt} (hG : ab_GG G) {p1 : Int32} {r : Int32} {σ σ' : Sg} (h : M_byteAt p1 σ = some (r, σ')) : ab_CO l G 78 (1) [(vR 30 0), (.inl p1)] σ (vI r) σ' := by
  obtain ⟨r0, σ2, hR, hf⟩ := ab_ev_sound (tab := tab_M_byteAt) (Os := []) (Ks := []) (fin := finI) hG (d := 1) (by omega) rfl (fun _ h => absurd h List.not_mem_nil) (fun _ h => absurd h List.not_mem_nil) tb_M_byteAt 300 (ab_row tab_M_byteAt 0) 0 (ab_ini (ab_ml 78) [(vR 30 0), (.inl p1)]) [] σ (r, σ') (ab_row_bk tb_M_byteAt 0) ((e_M_byteAt _ _).trans h)
  obtain ⟨rfl, rfl⟩ := finI_inv hf
  exact ab_met (by decide) rfl (Nat.le_of_ble_eq_true rfl) hR
theorem cs_M_byteAt {l : Launch} {G : ab_Gt} (hG : ab_GG G) {R : Type} : ab_CS (R := R) l G 78 (1) cp_M_byteAt := by
  intro as σ k res h
  unfold cp_M_byteAt at h
  split at h
  · split at h
    · rename_i hb
      simp only [Bool.and_eq_true, Nat.beq_eq] at hb
      obtain ⟨hb1, hb2⟩ := hb
      subst hb1
      subst hb2
      obtain ⟨q, hq, hk⟩ := Option.bind_eq_some_iff.mp h
      exact ⟨_, _, lk_M_byteAt hG hq, rfl, (fun _ => Or.inl ⟨rfl, rfl⟩), hk⟩
    · cases h
  · cases h
theorem tb_M_next : ∀ q ∈ tab_M_next, ab_bk (ab_mo 79) (ab_mb 79) (ab_ml 79) 0 q.1 q.2 = true := List.all_eq_true.mp (by decide +kernel)
theorem lc_M_next_J300 {l : Launch} {G : ab_Gt} (hG : ab_GG G) : ab_KS l G 79 (2) finV 300 (kc_M_next_300 (M_next_J300)) := by
  intro L st σ res h
  unfold kc_M_next_300 at h
  split at h
  · split at h
    · rename_i hb
      simp only [Bool.and_eq_true, Nat.beq_eq] at hb
      obtain ⟨hb1, hb2⟩ := hb
      subst hb1
      subst hb2
      exact ab_ev_sound (tab := tab_M_next) (Os := [(65, cp_M_in), (78, cp_M_byteAt)]) (Ks := []) (fin := finV) hG (by omega) rfl (List.forall_mem_cons.mpr ⟨⟨1, by omega, cs_M_in hG⟩, (List.forall_mem_cons.mpr ⟨⟨1, by omega, cs_M_byteAt hG⟩, (fun _ h => absurd h List.not_mem_nil)⟩)⟩) (fun _ h => absurd h List.not_mem_nil) tb_M_next 300 (ab_row tab_M_next 300) 300 _ _ σ res (ab_row_bk tb_M_next 300) ((e_M_next_J300  _ _ _).trans h)
    · cases h
  · cases h
theorem lc_M_next_L160 {l : Launch} {G : ab_Gt} (hG : ab_GG G) : ∀ n : Nat, ab_KS l G 79 (2) finV 160 (kc_M_next_160 (M_next_L160 n)) := by
  intro n
  induction n with
  | zero =>
    intro L st σ res h
    unfold kc_M_next_160 at h
    split at h
    · split at h
      · rename_i hb
        simp only [Bool.and_eq_true, Nat.beq_eq] at hb
        obtain ⟨hb1, hb2⟩ := hb
        subst hb1
        subst hb2
        exact absurd (show none = some res from h) (fun h => by cases h)
      · cases h
    · cases h
  | succ n ih =>
    intro L st σ res h
    unfold kc_M_next_160 at h
    split at h
    · split at h
      · rename_i hb
        simp only [Bool.and_eq_true, Nat.beq_eq] at hb
        obtain ⟨hb1, hb2⟩ := hb
        subst hb1
        subst hb2
        exact ab_ev_sound (tab := tab_M_next) (Os := [(65, cp_M_in), (78, cp_M_byteAt)]) (Ks := [(160, kc_M_next_160 (M_next_L160 n))]) (fin := finV) hG (by omega) rfl (List.forall_mem_cons.mpr ⟨⟨1, by omega, cs_M_in hG⟩, (List.forall_mem_cons.mpr ⟨⟨1, by omega, cs_M_byteAt hG⟩, (fun _ h => absurd h List.not_mem_nil)⟩)⟩) (List.forall_mem_cons.mpr ⟨ih, (fun _ h => absurd h List.not_mem_nil)⟩) tb_M_next 300 (ab_row tab_M_next 160) 160 _ _ σ res (ab_row_bk tb_M_next 160) ((e_M_next_L160  _ _ _ _).trans h)
      · cases h
    · cases h
theorem lc_M_next_L100 {l : Launch} {G : ab_Gt} (hG : ab_GG G) : ∀ n : Nat, ab_KS l G 79 (2) finV 100 (kc_M_next_100 (M_next_L100 n)) := by
  intro n
  induction n with
  | zero =>
    intro L st σ res h
    unfold kc_M_next_100 at h
    split at h
    · split at h
      · rename_i hb
        simp only [Bool.and_eq_true, Nat.beq_eq] at hb
        obtain ⟨hb1, hb2⟩ := hb
        subst hb1
        subst hb2
        exact absurd (show none = some res from h) (fun h => by cases h)
      · cases h
    · cases h
  | succ n ih =>
    intro L st σ res h
    unfold kc_M_next_100 at h
    split at h
    · split at h
      · rename_i hb
        simp only [Bool.and_eq_true, Nat.beq_eq] at hb
        obtain ⟨hb1, hb2⟩ := hb
        subst hb1
        subst hb2
        exact ab_ev_sound (tab := tab_M_next) (Os := [(65, cp_M_in), (78, cp_M_byteAt)]) (Ks := [(100, kc_M_next_100 (M_next_L100 n))]) (fin := finV) hG (by omega) rfl (List.forall_mem_cons.mpr ⟨⟨1, by omega, cs_M_in hG⟩, (List.forall_mem_cons.mpr ⟨⟨1, by omega, cs_M_byteAt hG⟩, (fun _ h => absurd h List.not_mem_nil)⟩)⟩) (List.forall_mem_cons.mpr ⟨ih, (fun _ h => absurd h List.not_mem_nil)⟩) tb_M_next 300 (ab_row tab_M_next 100) 100 _ _ σ res (ab_row_bk tb_M_next 100) ((e_M_next_L100  _ _ _ _).trans h)
      · cases h
    · cases h
theorem lc_M_next_L0 {l : Launch} {G : ab_Gt} (hG : ab_GG G) : ∀ n : Nat, ab_KS l G 79 (2) finV 0 (kc_M_next_0 (M_next_L0 n)) := by
  intro n
  induction n with
  | zero =>
    intro L st σ res h
    unfold kc_M_next_0 at h
    split at h
    · split at h
      · rename_i hb
        simp only [Bool.and_eq_true, Nat.beq_eq] at hb
        obtain ⟨hb1, hb2⟩ := hb
        subst hb1
        subst hb2
        exact absurd (show none = some res from h) (fun h => by cases h)
      · cases h
    · cases h
  | succ n ih =>
    intro L st σ res h
    unfold kc_M_next_0 at h
    split at h
    · split at h
      · rename_i hb
        simp only [Bool.and_eq_true, Nat.beq_eq] at hb
        obtain ⟨hb1, hb2⟩ := hb
        subst hb1
        subst hb2
        exact ab_ev_sound (tab := tab_M_next) (Os := [(65, cp_M_in), (78, cp_M_byteAt)]) (Ks := [(0, kc_M_next_0 (M_next_L0 n)), (100, kc_M_next_100 (M_next_L100 FU)), (160, kc_M_next_160 (M_next_L160 FU)), (300, kc_M_next_300 (M_next_J300))]) (fin := finV) hG (by omega) rfl (List.forall_mem_cons.mpr ⟨⟨1, by omega, cs_M_in hG⟩, (List.forall_mem_cons.mpr ⟨⟨1, by omega, cs_M_byteAt hG⟩, (fun _ h => absurd h List.not_mem_nil)⟩)⟩) (List.forall_mem_cons.mpr ⟨ih, (List.forall_mem_cons.mpr ⟨lc_M_next_L100 hG FU, (List.forall_mem_cons.mpr ⟨lc_M_next_L160 hG FU, (List.forall_mem_cons.mpr ⟨lc_M_next_J300 hG, (fun _ h => absurd h List.not_mem_nil)⟩)⟩)⟩)⟩) tb_M_next 300 (ab_row tab_M_next 0) 0 _ _ σ res (ab_row_bk tb_M_next 0) ((e_M_next_L0  _ _ _ _).trans h)
      · cases h
    · cases h
theorem lk_M_next {l : Launch} {G : ab_Gt} (hG : ab_GG G) {σ σ' : Sg} (h : M_next  σ = some σ') : ab_CO l G 79 (2) [(vR 30 0)] σ vU σ' := by
  obtain ⟨r0, σ2, hR, hf⟩ := ab_ev_sound (tab := tab_M_next) (Os := [(65, cp_M_in), (78, cp_M_byteAt)]) (Ks := [(0, kc_M_next_0 (M_next_L0 FU))]) (fin := finV) hG (d := 2) (by omega) rfl (List.forall_mem_cons.mpr ⟨⟨1, by omega, cs_M_in hG⟩, (List.forall_mem_cons.mpr ⟨⟨1, by omega, cs_M_byteAt hG⟩, (fun _ h => absurd h List.not_mem_nil)⟩)⟩) (List.forall_mem_cons.mpr ⟨lc_M_next_L0 hG FU, (fun _ h => absurd h List.not_mem_nil)⟩) tb_M_next 300 [(40, 0, 1, vU, [])] 0 (ab_ini (ab_ml 79) [(vR 30 0)]) [] σ σ' rfl ((e_M_next _).trans h)
  obtain ⟨rfl, rfl⟩ := finV_inv hf
  exact ab_met (by decide) rfl (Nat.le_of_ble_eq_true rfl) hR
theorem cs_M_next {l : Launch} {G : ab_Gt} (hG : ab_GG G) {R : Type} : ab_CS (R := R) l G 79 (2) cp_M_next := by
  intro as σ k res h
  unfold cp_M_next at h
  split at h
  · split at h
    · rename_i hb
      simp only [Bool.and_eq_true, Nat.beq_eq] at hb
      obtain ⟨hb1, hb2⟩ := hb
      subst hb1
      subst hb2
      obtain ⟨q, hq, hk⟩ := Option.bind_eq_some_iff.mp h
      exact ⟨_, _, lk_M_next hG hq, rfl, (fun _ => Or.inl ⟨rfl, rfl⟩), hk⟩
    · cases h
  · cases h
theorem tb_M_fail : ∀ q ∈ tab_M_fail, ab_bk (ab_mo 80) (ab_mb 80) (ab_ml 80) 0 q.1 q.2 = true := List.all_eq_true.mp (by decide +kernel)
theorem lk_M_fail {l : Launch} {G : ab_Gt} (hG : ab_GG G) {σ σ' : Sg} (h : M_fail  σ = some σ') : ab_CO l G 80 (1) [(vR 30 0)] σ vU σ' := by
  obtain ⟨r0, σ2, hR, hf⟩ := ab_ev_sound (tab := tab_M_fail) (Os := []) (Ks := []) (fin := finV) hG (d := 1) (by omega) rfl (fun _ h => absurd h List.not_mem_nil) (fun _ h => absurd h List.not_mem_nil) tb_M_fail 300 (ab_row tab_M_fail 0) 0 (ab_ini (ab_ml 80) [(vR 30 0)]) [] σ σ' (ab_row_bk tb_M_fail 0) ((e_M_fail _).trans h)
  obtain ⟨rfl, rfl⟩ := finV_inv hf
  exact ab_met (by decide) rfl (Nat.le_of_ble_eq_true rfl) hR
theorem cs_M_fail {l : Launch} {G : ab_Gt} (hG : ab_GG G) {R : Type} : ab_CS (R := R) l G 80 (1) cp_M_fail := by
  intro as σ k res h
  unfold cp_M_fail at h
  split at h
  · split at h
    · rename_i hb
      simp only [Bool.and_eq_true, Nat.beq_eq] at hb
      obtain ⟨hb1, hb2⟩ := hb
      subst hb1
      subst hb2
      obtain ⟨q, hq, hk⟩ := Option.bind_eq_some_iff.mp h
      exact ⟨_, _, lk_M_fail hG hq, rfl, (fun _ => Or.inl ⟨rfl, rfl⟩), hk⟩
    · cases h
  · cases h
theorem tb_M_isLetter : ∀ q ∈ tab_M_isLetter, ab_bk (ab_mo 81) (ab_mb 81) (ab_ml 81) 3 q.1 q.2 = true := List.all_eq_true.mp (by decide +kernel)
theorem lk_M_isLetter {l : Launch} {G : ab_Gt} (hG : ab_GG G) {p1 : Int32} {p2 : Int32} {r : Int32} {σ σ' : Sg} (h : M_isLetter p1 p2 σ = some (r, σ')) : ab_CO l G 81 (2) [(vR 30 0), (.inl p1), (.inl p2)] σ (vI r) σ' := by
  obtain ⟨r0, σ2, hR, hf⟩ := ab_ev_sound (tab := tab_M_isLetter) (Os := [(78, cp_M_byteAt)]) (Ks := []) (fin := finI) hG (d := 2) (by omega) rfl (List.forall_mem_cons.mpr ⟨⟨1, by omega, cs_M_byteAt hG⟩, (fun _ h => absurd h List.not_mem_nil)⟩) (fun _ h => absurd h List.not_mem_nil) tb_M_isLetter 300 (ab_row tab_M_isLetter 0) 0 (ab_ini (ab_ml 81) [(vR 30 0), (.inl p1), (.inl p2)]) [] σ (r, σ') (ab_row_bk tb_M_isLetter 0) ((e_M_isLetter _ _ _).trans h)
  obtain ⟨rfl, rfl⟩ := finI_inv hf
  exact ab_met (by decide) rfl (Nat.le_of_ble_eq_true rfl) hR
theorem cs_M_isLetter {l : Launch} {G : ab_Gt} (hG : ab_GG G) {R : Type} : ab_CS (R := R) l G 81 (2) cp_M_isLetter := by
  intro as σ k res h
  unfold cp_M_isLetter at h
  split at h
  · split at h
    · rename_i hb
      simp only [Bool.and_eq_true, Nat.beq_eq] at hb
      obtain ⟨hb1, hb2⟩ := hb
      subst hb1
      subst hb2
      obtain ⟨q, hq, hk⟩ := Option.bind_eq_some_iff.mp h
      exact ⟨_, _, lk_M_isLetter hG hq, rfl, (fun _ => Or.inl ⟨rfl, rfl⟩), hk⟩
    · cases h
  · cases h
theorem tb_M_isWord : ∀ q ∈ tab_M_isWord, ab_bk (ab_mo 82) (ab_mb 82) (ab_ml 82) 3 q.1 q.2 = true := List.all_eq_true.mp (by decide +kernel)
theorem lk_M_isWord {l : Launch} {G : ab_Gt} (hG : ab_GG G) {p1 : Int32} {p2 : Int32} {p3 : Int32} {p4 : Int32} {p5 : Int32} {p6 : Int32} {p7 : Int32} {p8 : Int32} {r : Int32} {σ σ' : Sg} (h : M_isWord p1 p2 p3 p4 p5 p6 p7 p8 σ = some (r, σ')) : ab_CO l G 82 (3) [(vR 30 0), (.inl p1), (.inl p2), (.inl p3), (.inl p4), (.inl p5), (.inl p6), (.inl p7), (.inl p8)] σ (vI r) σ' := by
  obtain ⟨r0, σ2, hR, hf⟩ := ab_ev_sound (tab := tab_M_isWord) (Os := [(81, cp_M_isLetter)]) (Ks := []) (fin := finI) hG (d := 3) (by omega) rfl (List.forall_mem_cons.mpr ⟨⟨2, by omega, cs_M_isLetter hG⟩, (fun _ h => absurd h List.not_mem_nil)⟩) (fun _ h => absurd h List.not_mem_nil) tb_M_isWord 300 (ab_row tab_M_isWord 0) 0 (ab_ini (ab_ml 82) [(vR 30 0), (.inl p1), (.inl p2), (.inl p3), (.inl p4), (.inl p5), (.inl p6), (.inl p7), (.inl p8)]) [] σ (r, σ') (ab_row_bk tb_M_isWord 0) ((e_M_isWord _ _ _ _ _ _ _ _ _).trans h)
  obtain ⟨rfl, rfl⟩ := finI_inv hf
  exact ab_met (by decide) rfl (Nat.le_of_ble_eq_true rfl) hR
theorem cs_M_isWord {l : Launch} {G : ab_Gt} (hG : ab_GG G) {R : Type} : ab_CS (R := R) l G 82 (3) cp_M_isWord := by
  intro as σ k res h
  unfold cp_M_isWord at h
  split at h
  · split at h
    · rename_i hb
      simp only [Bool.and_eq_true, Nat.beq_eq] at hb
      obtain ⟨hb1, hb2⟩ := hb
      subst hb1
      subst hb2
      obtain ⟨q, hq, hk⟩ := Option.bind_eq_some_iff.mp h
      exact ⟨_, _, lk_M_isWord hG hq, rfl, (fun _ => Or.inl ⟨rfl, rfl⟩), hk⟩
    · cases h
  · cases h
theorem tb_M_isSign : ∀ q ∈ tab_M_isSign, ab_bk (ab_mo 83) (ab_mb 83) (ab_ml 83) 3 q.1 q.2 = true := List.all_eq_true.mp (by decide +kernel)
theorem lk_M_isSign {l : Launch} {G : ab_Gt} (hG : ab_GG G) {p1 : Int32} {r : Int32} {σ σ' : Sg} (h : M_isSign p1 σ = some (r, σ')) : ab_CO l G 83 (1) [(vR 30 0), (.inl p1)] σ (vI r) σ' := by
  obtain ⟨r0, σ2, hR, hf⟩ := ab_ev_sound (tab := tab_M_isSign) (Os := []) (Ks := []) (fin := finI) hG (d := 1) (by omega) rfl (fun _ h => absurd h List.not_mem_nil) (fun _ h => absurd h List.not_mem_nil) tb_M_isSign 300 (ab_row tab_M_isSign 0) 0 (ab_ini (ab_ml 83) [(vR 30 0), (.inl p1)]) [] σ (r, σ') (ab_row_bk tb_M_isSign 0) ((e_M_isSign _ _).trans h)
  obtain ⟨rfl, rfl⟩ := finI_inv hf
  exact ab_met (by decide) rfl (Nat.le_of_ble_eq_true rfl) hR
theorem cs_M_isSign {l : Launch} {G : ab_Gt} (hG : ab_GG G) {R : Type} : ab_CS (R := R) l G 83 (1) cp_M_isSign := by
  intro as σ k res h
  unfold cp_M_isSign at h
  split at h
  · split at h
    · rename_i hb
      simp only [Bool.and_eq_true, Nat.beq_eq] at hb
      obtain ⟨hb1, hb2⟩ := hb
      subst hb1
      subst hb2
      obtain ⟨q, hq, hk⟩ := Option.bind_eq_some_iff.mp h
      exact ⟨_, _, lk_M_isSign hG hq, rfl, (fun _ => Or.inl ⟨rfl, rfl⟩), hk⟩
    · cases h
  · cases h
theorem tb_M_opens : ∀ q ∈ tab_M_opens, ab_bk (ab_mo 84) (ab_mb 84) (ab_ml 84) 3 q.1 q.2 = true := List.all_eq_true.mp (by decide +kernel)
theorem lk_M_opens {l : Launch} {G : ab_Gt} (hG : ab_GG G) {r : Int32} {σ σ' : Sg} (h : M_opens  σ = some (r, σ')) : ab_CO l G 84 (3) [(vR 30 0)] σ (vI r) σ' := by
  obtain ⟨r0, σ2, hR, hf⟩ := ab_ev_sound (tab := tab_M_opens) (Os := [(79, cp_M_next), (80, cp_M_fail)]) (Ks := []) (fin := finI) hG (d := 3) (by omega) rfl (List.forall_mem_cons.mpr ⟨⟨2, by omega, cs_M_next hG⟩, (List.forall_mem_cons.mpr ⟨⟨1, by omega, cs_M_fail hG⟩, (fun _ h => absurd h List.not_mem_nil)⟩)⟩) (fun _ h => absurd h List.not_mem_nil) tb_M_opens 300 (ab_row tab_M_opens 0) 0 (ab_ini (ab_ml 84) [(vR 30 0)]) [] σ (r, σ') (ab_row_bk tb_M_opens 0) ((e_M_opens _).trans h)
  obtain ⟨rfl, rfl⟩ := finI_inv hf
  exact ab_met (by decide) rfl (Nat.le_of_ble_eq_true rfl) hR
theorem cs_M_opens {l : Launch} {G : ab_Gt} (hG : ab_GG G) {R : Type} : ab_CS (R := R) l G 84 (3) cp_M_opens := by
  intro as σ k res h
  unfold cp_M_opens at h
  split at h
  · split at h
    · rename_i hb
      simp only [Bool.and_eq_true, Nat.beq_eq] at hb
      obtain ⟨hb1, hb2⟩ := hb
      subst hb1
      subst hb2
      obtain ⟨q, hq, hk⟩ := Option.bind_eq_some_iff.mp h
      exact ⟨_, _, lk_M_opens hG hq, rfl, (fun _ => Or.inl ⟨rfl, rfl⟩), hk⟩
    · cases h
  · cases h
theorem tb_M_name : ∀ q ∈ tab_M_name, ab_bk (ab_mo 85) (ab_mb 85) (ab_ml 85) 1 q.1 q.2 = true := List.all_eq_true.mp (by decide +kernel)
theorem lk_M_name {l : Launch} {G : ab_Gt} (hG : ab_GG G) {r : Int32} {σ σ' : Sg} (h : M_name  σ = some (r, σ')) : ab_CO l G 85 (4) [(vR 30 0)] σ (vI r) σ' := by
  obtain ⟨r0, σ2, hR, hf⟩ := ab_ev_sound (tab := tab_M_name) (Os := [(80, cp_M_fail), (82, cp_M_isWord)]) (Ks := []) (fin := finI) hG (d := 4) (by omega) rfl (List.forall_mem_cons.mpr ⟨⟨1, by omega, cs_M_fail hG⟩, (List.forall_mem_cons.mpr ⟨⟨3, by omega, cs_M_isWord hG⟩, (fun _ h => absurd h List.not_mem_nil)⟩)⟩) (fun _ h => absurd h List.not_mem_nil) tb_M_name 300 (ab_row tab_M_name 0) 0 (ab_ini (ab_ml 85) [(vR 30 0)]) [] σ (r, σ') (ab_row_bk tb_M_name 0) ((e_M_name _).trans h)
  obtain ⟨rfl, rfl⟩ := finI_inv hf
  exact ab_met (by decide) rfl (Nat.le_of_ble_eq_true rfl) hR
theorem cs_M_name {l : Launch} {G : ab_Gt} (hG : ab_GG G) {R : Type} : ab_CS (R := R) l G 85 (4) cp_M_name := by
  intro as σ k res h
  unfold cp_M_name at h
  split at h
  · split at h
    · rename_i hb
      simp only [Bool.and_eq_true, Nat.beq_eq] at hb
      obtain ⟨hb1, hb2⟩ := hb
      subst hb1
      subst hb2
      obtain ⟨q, hq, hk⟩ := Option.bind_eq_some_iff.mp h
      exact ⟨_, _, lk_M_name hG hq, rfl, (fun _ => Or.inl ⟨rfl, rfl⟩), hk⟩
    · cases h
  · cases h
theorem tb_M_atom5 : ∀ q ∈ tab_M_atom5, ab_bk (ab_mo 86) (ab_mb 86) (ab_ml 86) 1 q.1 q.2 = true := List.all_eq_true.mp (by decide +kernel)
theorem lc_M_atom5_J64 {l : Launch} {G : ab_Gt} (hG : ab_GG G) : ab_KS l G 86 (5) finI 64 (kc_M_atom5_64 (M_atom5_J64)) := by
  intro L st σ res h
  unfold kc_M_atom5_64 at h
  split at h
  · split at h
    · rename_i hb
      simp only [Bool.and_eq_true, Nat.beq_eq] at hb
      obtain ⟨hb1, hb2⟩ := hb
      subst hb1
      subst hb2
      exact ab_ev_sound (tab := tab_M_atom5) (Os := [(79, cp_M_next), (80, cp_M_fail), (83, cp_M_isSign), (84, cp_M_opens), (85, cp_M_name)]) (Ks := []) (fin := finI) hG (by omega) rfl (List.forall_mem_cons.mpr ⟨⟨2, by omega, cs_M_next hG⟩, (List.forall_mem_cons.mpr ⟨⟨1, by omega, cs_M_fail hG⟩, (List.forall_mem_cons.mpr ⟨⟨1, by omega, cs_M_isSign hG⟩, (List.forall_mem_cons.mpr ⟨⟨3, by omega, cs_M_opens hG⟩, (List.forall_mem_cons.mpr ⟨⟨4, by omega, cs_M_name hG⟩, (fun _ h => absurd h List.not_mem_nil)⟩)⟩)⟩)⟩)⟩) (fun _ h => absurd h List.not_mem_nil) tb_M_atom5 300 (ab_row tab_M_atom5 64) 64 _ _ σ res (ab_row_bk tb_M_atom5 64) ((e_M_atom5_J64  _ _).trans h)
    · cases h
  · cases h
theorem lk_M_atom5 {l : Launch} {G : ab_Gt} (hG : ab_GG G) {r : Int32} {σ σ' : Sg} (h : M_atom5  σ = some (r, σ')) : ab_CO l G 86 (5) [(vR 30 0)] σ (vI r) σ' := by
  obtain ⟨r0, σ2, hR, hf⟩ := ab_ev_sound (tab := tab_M_atom5) (Os := [(79, cp_M_next), (80, cp_M_fail), (83, cp_M_isSign), (84, cp_M_opens), (85, cp_M_name)]) (Ks := [(64, kc_M_atom5_64 (M_atom5_J64))]) (fin := finI) hG (d := 5) (by omega) rfl (List.forall_mem_cons.mpr ⟨⟨2, by omega, cs_M_next hG⟩, (List.forall_mem_cons.mpr ⟨⟨1, by omega, cs_M_fail hG⟩, (List.forall_mem_cons.mpr ⟨⟨1, by omega, cs_M_isSign hG⟩, (List.forall_mem_cons.mpr ⟨⟨3, by omega, cs_M_opens hG⟩, (List.forall_mem_cons.mpr ⟨⟨4, by omega, cs_M_name hG⟩, (fun _ h => absurd h List.not_mem_nil)⟩)⟩)⟩)⟩)⟩) (List.forall_mem_cons.mpr ⟨lc_M_atom5_J64 hG, (fun _ h => absurd h List.not_mem_nil)⟩) tb_M_atom5 300 (ab_row tab_M_atom5 0) 0 (ab_ini (ab_ml 86) [(vR 30 0)]) [] σ (r, σ') (ab_row_bk tb_M_atom5 0) ((e_M_atom5 _).trans h)
  obtain ⟨rfl, rfl⟩ := finI_inv hf
  exact ab_met (by decide) rfl (Nat.le_of_ble_eq_true rfl) hR
theorem cs_M_atom5 {l : Launch} {G : ab_Gt} (hG : ab_GG G) {R : Type} : ab_CS (R := R) l G 86 (5) cp_M_atom5 := by
  intro as σ k res h
  unfold cp_M_atom5 at h
  split at h
  · split at h
    · rename_i hb
      simp only [Bool.and_eq_true, Nat.beq_eq] at hb
      obtain ⟨hb1, hb2⟩ := hb
      subst hb1
      subst hb2
      obtain ⟨q, hq, hk⟩ := Option.bind_eq_some_iff.mp h
      exact ⟨_, _, lk_M_atom5 hG hq, rfl, (fun _ => Or.inl ⟨rfl, rfl⟩), hk⟩
    · cases h
  · cases h
theorem tb_M_term5 : ∀ q ∈ tab_M_term5, ab_bk (ab_mo 87) (ab_mb 87) (ab_ml 87) 1 q.1 q.2 = true := List.all_eq_true.mp (by decide +kernel)
theorem lc_M_term5_L5 {l : Launch} {G : ab_Gt} (hG : ab_GG G) : ∀ n : Nat, ab_KS l G 87 (6) finI 5 (kc_M_term5_5 (M_term5_L5 n)) := by
  intro n
  induction n with
  | zero =>
    intro L st σ res h
    unfold kc_M_term5_5 at h
    split at h
    · split at h
      · rename_i hb
        simp only [Bool.and_eq_true, Nat.beq_eq] at hb
        obtain ⟨hb1, hb2⟩ := hb
        subst hb1
        subst hb2
        exact absurd (show none = some res from h) (fun h => by cases h)
      · cases h
    · cases h
  | succ n ih =>
    intro L st σ res h
    unfold kc_M_term5_5 at h
    split at h
    · split at h
      · rename_i hb
        simp only [Bool.and_eq_true, Nat.beq_eq] at hb
        obtain ⟨hb1, hb2⟩ := hb
        subst hb1
        subst hb2
        exact ab_ev_sound (tab := tab_M_term5) (Os := [(79, cp_M_next), (83, cp_M_isSign), (86, cp_M_atom5)]) (Ks := [(5, kc_M_term5_5 (M_term5_L5 n))]) (fin := finI) hG (by omega) rfl (List.forall_mem_cons.mpr ⟨⟨2, by omega, cs_M_next hG⟩, (List.forall_mem_cons.mpr ⟨⟨1, by omega, cs_M_isSign hG⟩, (List.forall_mem_cons.mpr ⟨⟨5, by omega, cs_M_atom5 hG⟩, (fun _ h => absurd h List.not_mem_nil)⟩)⟩)⟩) (List.forall_mem_cons.mpr ⟨ih, (fun _ h => absurd h List.not_mem_nil)⟩) tb_M_term5 300 (ab_row tab_M_term5 5) 5 _ _ σ res (ab_row_bk tb_M_term5 5) ((e_M_term5_L5  _ _ _).trans h)
      · cases h
    · cases h
theorem lk_M_term5 {l : Launch} {G : ab_Gt} (hG : ab_GG G) {r : Int32} {σ σ' : Sg} (h : M_term5  σ = some (r, σ')) : ab_CO l G 87 (6) [(vR 30 0)] σ (vI r) σ' := by
  obtain ⟨r0, σ2, hR, hf⟩ := ab_ev_sound (tab := tab_M_term5) (Os := [(79, cp_M_next), (83, cp_M_isSign), (86, cp_M_atom5)]) (Ks := [(5, kc_M_term5_5 (M_term5_L5 FU))]) (fin := finI) hG (d := 6) (by omega) rfl (List.forall_mem_cons.mpr ⟨⟨2, by omega, cs_M_next hG⟩, (List.forall_mem_cons.mpr ⟨⟨1, by omega, cs_M_isSign hG⟩, (List.forall_mem_cons.mpr ⟨⟨5, by omega, cs_M_atom5 hG⟩, (fun _ h => absurd h List.not_mem_nil)⟩)⟩)⟩) (List.forall_mem_cons.mpr ⟨lc_M_term5_L5 hG FU, (fun _ h => absurd h List.not_mem_nil)⟩) tb_M_term5 300 (ab_row tab_M_term5 0) 0 (ab_ini (ab_ml 87) [(vR 30 0)]) [] σ (r, σ') (ab_row_bk tb_M_term5 0) ((e_M_term5 _).trans h)
  obtain ⟨rfl, rfl⟩ := finI_inv hf
  exact ab_met (by decide) rfl (Nat.le_of_ble_eq_true rfl) hR
theorem cs_M_term5 {l : Launch} {G : ab_Gt} (hG : ab_GG G) {R : Type} : ab_CS (R := R) l G 87 (6) cp_M_term5 := by
  intro as σ k res h
  unfold cp_M_term5 at h
  split at h
  · split at h
    · rename_i hb
      simp only [Bool.and_eq_true, Nat.beq_eq] at hb
      obtain ⟨hb1, hb2⟩ := hb
      subst hb1
      subst hb2
      obtain ⟨q, hq, hk⟩ := Option.bind_eq_some_iff.mp h
      exact ⟨_, _, lk_M_term5 hG hq, rfl, (fun _ => Or.inl ⟨rfl, rfl⟩), hk⟩
    · cases h
  · cases h
theorem tb_M_added5 : ∀ q ∈ tab_M_added5, ab_bk (ab_mo 88) (ab_mb 88) (ab_ml 88) 1 q.1 q.2 = true := List.all_eq_true.mp (by decide +kernel)
theorem lc_M_added5_J39 {l : Launch} {G : ab_Gt} (hG : ab_GG G) {k5 : Int32 → Sg → Option (Int32 × Sg)} (h5 : ab_KS l G 88 (7) finI 5 (kc_M_added5_5 k5)) : ab_KS l G 88 (7) finI 39 (kc_M_added5_39 (M_added5_J39 k5)) := by
  intro L st σ res h
  unfold kc_M_added5_39 at h
  split at h
  · split at h
    · rename_i hb
      simp only [Bool.and_eq_true, Nat.beq_eq] at hb
      obtain ⟨hb1, hb2⟩ := hb
      subst hb1
      subst hb2
      exact ab_ev_sound (tab := tab_M_added5) (Os := [(79, cp_M_next), (83, cp_M_isSign), (87, cp_M_term5)]) (Ks := [(5, kc_M_added5_5 k5)]) (fin := finI) hG (by omega) rfl (List.forall_mem_cons.mpr ⟨⟨2, by omega, cs_M_next hG⟩, (List.forall_mem_cons.mpr ⟨⟨1, by omega, cs_M_isSign hG⟩, (List.forall_mem_cons.mpr ⟨⟨6, by omega, cs_M_term5 hG⟩, (fun _ h => absurd h List.not_mem_nil)⟩)⟩)⟩) (List.forall_mem_cons.mpr ⟨h5, (fun _ h => absurd h List.not_mem_nil)⟩) tb_M_added5 300 (ab_row tab_M_added5 39) 39 _ _ σ res (ab_row_bk tb_M_added5 39) ((e_M_added5_J39 _ _ _ _ _ _).trans h)
    · cases h
  · cases h
theorem lc_M_added5_J23 {l : Launch} {G : ab_Gt} (hG : ab_GG G) {k5 : Int32 → Sg → Option (Int32 × Sg)} (h5 : ab_KS l G 88 (7) finI 5 (kc_M_added5_5 k5)) : ab_KS l G 88 (7) finI 23 (kc_M_added5_23 (M_added5_J23 k5)) := by
  intro L st σ res h
  unfold kc_M_added5_23 at h
  split at h
  · split at h
    · rename_i hb
      simp only [Bool.and_eq_true, Nat.beq_eq] at hb
      obtain ⟨hb1, hb2⟩ := hb
      subst hb1
      subst hb2
      exact ab_ev_sound (tab := tab_M_added5) (Os := [(79, cp_M_next), (83, cp_M_isSign), (87, cp_M_term5)]) (Ks := [(39, kc_M_added5_39 (M_added5_J39 k5))]) (fin := finI) hG (by omega) rfl (List.forall_mem_cons.mpr ⟨⟨2, by omega, cs_M_next hG⟩, (List.forall_mem_cons.mpr ⟨⟨1, by omega, cs_M_isSign hG⟩, (List.forall_mem_cons.mpr ⟨⟨6, by omega, cs_M_term5 hG⟩, (fun _ h => absurd h List.not_mem_nil)⟩)⟩)⟩) (List.forall_mem_cons.mpr ⟨lc_M_added5_J39 hG h5, (fun _ h => absurd h List.not_mem_nil)⟩) tb_M_added5 300 (ab_row tab_M_added5 23) 23 _ _ σ res (ab_row_bk tb_M_added5 23) ((e_M_added5_J23 _ _ _ _ _).trans h)
    · cases h
  · cases h
theorem lc_M_added5_L5 {l : Launch} {G : ab_Gt} (hG : ab_GG G) : ∀ n : Nat, ab_KS l G 88 (7) finI 5 (kc_M_added5_5 (M_added5_L5 n)) := by
  intro n
  induction n with
  | zero =>
    intro L st σ res h
    unfold kc_M_added5_5 at h
    split at h
    · split at h
      · rename_i hb
        simp only [Bool.and_eq_true, Nat.beq_eq] at hb
        obtain ⟨hb1, hb2⟩ := hb
        subst hb1
        subst hb2
        exact absurd (show none = some res from h) (fun h => by cases h)
      · cases h
    · cases h
  | succ n ih =>
    intro L st σ res h
    unfold kc_M_added5_5 at h
    split at h
    · split at h
      · rename_i hb
        simp only [Bool.and_eq_true, Nat.beq_eq] at hb
        obtain ⟨hb1, hb2⟩ := hb
        subst hb1
        subst hb2
        exact ab_ev_sound (tab := tab_M_added5) (Os := [(79, cp_M_next), (83, cp_M_isSign), (87, cp_M_term5)]) (Ks := [(23, kc_M_added5_23 (M_added5_J23 (fun y0 τ => M_added5_L5 n y0 τ)))]) (fin := finI) hG (by omega) rfl (List.forall_mem_cons.mpr ⟨⟨2, by omega, cs_M_next hG⟩, (List.forall_mem_cons.mpr ⟨⟨1, by omega, cs_M_isSign hG⟩, (List.forall_mem_cons.mpr ⟨⟨6, by omega, cs_M_term5 hG⟩, (fun _ h => absurd h List.not_mem_nil)⟩)⟩)⟩) (List.forall_mem_cons.mpr ⟨lc_M_added5_J23 hG ih, (fun _ h => absurd h List.not_mem_nil)⟩) tb_M_added5 300 (ab_row tab_M_added5 5) 5 _ _ σ res (ab_row_bk tb_M_added5 5) ((e_M_added5_L5  _ _ _ _ _).trans h)
      · cases h
    · cases h
theorem lk_M_added5 {l : Launch} {G : ab_Gt} (hG : ab_GG G) {r : Int32} {σ σ' : Sg} (h : M_added5  σ = some (r, σ')) : ab_CO l G 88 (7) [(vR 30 0)] σ (vI r) σ' := by
  obtain ⟨r0, σ2, hR, hf⟩ := ab_ev_sound (tab := tab_M_added5) (Os := [(79, cp_M_next), (83, cp_M_isSign), (87, cp_M_term5)]) (Ks := [(5, kc_M_added5_5 (M_added5_L5 FU))]) (fin := finI) hG (d := 7) (by omega) rfl (List.forall_mem_cons.mpr ⟨⟨2, by omega, cs_M_next hG⟩, (List.forall_mem_cons.mpr ⟨⟨1, by omega, cs_M_isSign hG⟩, (List.forall_mem_cons.mpr ⟨⟨6, by omega, cs_M_term5 hG⟩, (fun _ h => absurd h List.not_mem_nil)⟩)⟩)⟩) (List.forall_mem_cons.mpr ⟨lc_M_added5_L5 hG FU, (fun _ h => absurd h List.not_mem_nil)⟩) tb_M_added5 300 (ab_row tab_M_added5 0) 0 (ab_ini (ab_ml 88) [(vR 30 0)]) [] σ (r, σ') (ab_row_bk tb_M_added5 0) ((e_M_added5 _).trans h)
  obtain ⟨rfl, rfl⟩ := finI_inv hf
  exact ab_met (by decide) rfl (Nat.le_of_ble_eq_true rfl) hR
theorem cs_M_added5 {l : Launch} {G : ab_Gt} (hG : ab_GG G) {R : Type} : ab_CS (R := R) l G 88 (7) cp_M_added5 := by
  intro as σ k res h
  unfold cp_M_added5 at h
  split at h
  · split at h
    · rename_i hb
      simp only [Bool.and_eq_true, Nat.beq_eq] at hb
      obtain ⟨hb1, hb2⟩ := hb
      subst hb1
      subst hb2
      obtain ⟨q, hq, hk⟩ := Option.bind_eq_some_iff.mp h
      exact ⟨_, _, lk_M_added5 hG hq, rfl, (fun _ => Or.inl ⟨rfl, rfl⟩), hk⟩
    · cases h
  · cases h
theorem tb_M_not5 : ∀ q ∈ tab_M_not5, ab_bk (ab_mo 89) (ab_mb 89) (ab_ml 89) 1 q.1 q.2 = true := List.all_eq_true.mp (by decide +kernel)
theorem lc_M_not5_J66 {l : Launch} {G : ab_Gt} (hG : ab_GG G) : ab_KS l G 89 (8) finI 66 (kc_M_not5_66 (M_not5_J66)) := by
  intro L st σ res h
  unfold kc_M_not5_66 at h
  split at h
  · split at h
    · rename_i hb
      simp only [Bool.and_eq_true, Nat.beq_eq] at hb
      obtain ⟨hb1, hb2⟩ := hb
      subst hb1
      subst hb2
      exact ab_ev_sound (tab := tab_M_not5) (Os := [(79, cp_M_next), (82, cp_M_isWord), (83, cp_M_isSign), (84, cp_M_opens), (88, cp_M_added5)]) (Ks := []) (fin := finI) hG (by omega) rfl (List.forall_mem_cons.mpr ⟨⟨2, by omega, cs_M_next hG⟩, (List.forall_mem_cons.mpr ⟨⟨3, by omega, cs_M_isWord hG⟩, (List.forall_mem_cons.mpr ⟨⟨1, by omega, cs_M_isSign hG⟩, (List.forall_mem_cons.mpr ⟨⟨3, by omega, cs_M_opens hG⟩, (List.forall_mem_cons.mpr ⟨⟨7, by omega, cs_M_added5 hG⟩, (fun _ h => absurd h List.not_mem_nil)⟩)⟩)⟩)⟩)⟩) (fun _ h => absurd h List.not_mem_nil) tb_M_not5 300 (ab_row tab_M_not5 66) 66 _ _ σ res (ab_row_bk tb_M_not5 66) ((e_M_not5_J66  _ _ _ _ _).trans h)
    · cases h
  · cases h
theorem lc_M_not5_J50 {l : Launch} {G : ab_Gt} (hG : ab_GG G) : ab_KS l G 89 (8) finI 50 (kc_M_not5_50 (M_not5_J50)) := by
  intro L st σ res h
  unfold kc_M_not5_50 at h
  split at h
  · split at h
    · rename_i hb
      simp only [Bool.and_eq_true, Nat.beq_eq] at hb
      obtain ⟨hb1, hb2⟩ := hb
      subst hb1
      subst hb2
      exact ab_ev_sound (tab := tab_M_not5) (Os := [(79, cp_M_next), (82, cp_M_isWord), (83, cp_M_isSign), (84, cp_M_opens), (88, cp_M_added5)]) (Ks := [(66, kc_M_not5_66 (M_not5_J66))]) (fin := finI) hG (by omega) rfl (List.forall_mem_cons.mpr ⟨⟨2, by omega, cs_M_next hG⟩, (List.forall_mem_cons.mpr ⟨⟨3, by omega, cs_M_isWord hG⟩, (List.forall_mem_cons.mpr ⟨⟨1, by omega, cs_M_isSign hG⟩, (List.forall_mem_cons.mpr ⟨⟨3, by omega, cs_M_opens hG⟩, (List.forall_mem_cons.mpr ⟨⟨7, by omega, cs_M_added5 hG⟩, (fun _ h => absurd h List.not_mem_nil)⟩)⟩)⟩)⟩)⟩) (List.forall_mem_cons.mpr ⟨lc_M_not5_J66 hG, (fun _ h => absurd h List.not_mem_nil)⟩) tb_M_not5 300 (ab_row tab_M_not5 50) 50 _ _ σ res (ab_row_bk tb_M_not5 50) ((e_M_not5_J50  _ _ _ _).trans h)
    · cases h
  · cases h
theorem lk_M_not5 {l : Launch} {G : ab_Gt} (hG : ab_GG G) {r : Int32} {σ σ' : Sg} (h : M_not5  σ = some (r, σ')) : ab_CO l G 89 (8) [(vR 30 0)] σ (vI r) σ' := by
  obtain ⟨r0, σ2, hR, hf⟩ := ab_ev_sound (tab := tab_M_not5) (Os := [(79, cp_M_next), (82, cp_M_isWord), (83, cp_M_isSign), (84, cp_M_opens), (88, cp_M_added5)]) (Ks := [(50, kc_M_not5_50 (M_not5_J50))]) (fin := finI) hG (d := 8) (by omega) rfl (List.forall_mem_cons.mpr ⟨⟨2, by omega, cs_M_next hG⟩, (List.forall_mem_cons.mpr ⟨⟨3, by omega, cs_M_isWord hG⟩, (List.forall_mem_cons.mpr ⟨⟨1, by omega, cs_M_isSign hG⟩, (List.forall_mem_cons.mpr ⟨⟨3, by omega, cs_M_opens hG⟩, (List.forall_mem_cons.mpr ⟨⟨7, by omega, cs_M_added5 hG⟩, (fun _ h => absurd h List.not_mem_nil)⟩)⟩)⟩)⟩)⟩) (List.forall_mem_cons.mpr ⟨lc_M_not5_J50 hG, (fun _ h => absurd h List.not_mem_nil)⟩) tb_M_not5 300 (ab_row tab_M_not5 0) 0 (ab_ini (ab_ml 89) [(vR 30 0)]) [] σ (r, σ') (ab_row_bk tb_M_not5 0) ((e_M_not5 _).trans h)
  obtain ⟨rfl, rfl⟩ := finI_inv hf
  exact ab_met (by decide) rfl (Nat.le_of_ble_eq_true rfl) hR
theorem cs_M_not5 {l : Launch} {G : ab_Gt} (hG : ab_GG G) {R : Type} : ab_CS (R := R) l G 89 (8) cp_M_not5 := by
  intro as σ k res h
  unfold cp_M_not5 at h
  split at h
  · split at h
    · rename_i hb
      simp only [Bool.and_eq_true, Nat.beq_eq] at hb
      obtain ⟨hb1, hb2⟩ := hb
      subst hb1
      subst hb2
      obtain ⟨q, hq, hk⟩ := Option.bind_eq_some_iff.mp h
      exact ⟨_, _, lk_M_not5 hG hq, rfl, (fun _ => Or.inl ⟨rfl, rfl⟩), hk⟩
    · cases h
  · cases h
theorem tb_M_both5 : ∀ q ∈ tab_M_both5, ab_bk (ab_mo 90) (ab_mb 90) (ab_ml 90) 1 q.1 q.2 = true := List.all_eq_true.mp (by decide +kernel)
theorem lc_M_both5_L5 {l : Launch} {G : ab_Gt} (hG : ab_GG G) : ∀ n : Nat, ab_KS l G 90 (9) finI 5 (kc_M_both5_5 (M_both5_L5 n)) := by
  intro n
  induction n with
  | zero =>
    intro L st σ res h
    unfold kc_M_both5_5 at h
    split at h
    · split at h
      · rename_i hb
        simp only [Bool.and_eq_true, Nat.beq_eq] at hb
        obtain ⟨hb1, hb2⟩ := hb
        subst hb1
        subst hb2
        exact absurd (show none = some res from h) (fun h => by cases h)
      · cases h
    · cases h
  | succ n ih =>
    intro L st σ res h
    unfold kc_M_both5_5 at h
    split at h
    · split at h
      · rename_i hb
        simp only [Bool.and_eq_true, Nat.beq_eq] at hb
        obtain ⟨hb1, hb2⟩ := hb
        subst hb1
        subst hb2
        exact ab_ev_sound (tab := tab_M_both5) (Os := [(79, cp_M_next), (82, cp_M_isWord), (89, cp_M_not5)]) (Ks := [(5, kc_M_both5_5 (M_both5_L5 n))]) (fin := finI) hG (by omega) rfl (List.forall_mem_cons.mpr ⟨⟨2, by omega, cs_M_next hG⟩, (List.forall_mem_cons.mpr ⟨⟨3, by omega, cs_M_isWord hG⟩, (List.forall_mem_cons.mpr ⟨⟨8, by omega, cs_M_not5 hG⟩, (fun _ h => absurd h List.not_mem_nil)⟩)⟩)⟩) (List.forall_mem_cons.mpr ⟨ih, (fun _ h => absurd h List.not_mem_nil)⟩) tb_M_both5 300 (ab_row tab_M_both5 5) 5 _ _ σ res (ab_row_bk tb_M_both5 5) ((e_M_both5_L5  _ _ _ _).trans h)
      · cases h
    · cases h
theorem lk_M_both5 {l : Launch} {G : ab_Gt} (hG : ab_GG G) {r : Int32} {σ σ' : Sg} (h : M_both5  σ = some (r, σ')) : ab_CO l G 90 (9) [(vR 30 0)] σ (vI r) σ' := by
  obtain ⟨r0, σ2, hR, hf⟩ := ab_ev_sound (tab := tab_M_both5) (Os := [(79, cp_M_next), (82, cp_M_isWord), (89, cp_M_not5)]) (Ks := [(5, kc_M_both5_5 (M_both5_L5 FU))]) (fin := finI) hG (d := 9) (by omega) rfl (List.forall_mem_cons.mpr ⟨⟨2, by omega, cs_M_next hG⟩, (List.forall_mem_cons.mpr ⟨⟨3, by omega, cs_M_isWord hG⟩, (List.forall_mem_cons.mpr ⟨⟨8, by omega, cs_M_not5 hG⟩, (fun _ h => absurd h List.not_mem_nil)⟩)⟩)⟩) (List.forall_mem_cons.mpr ⟨lc_M_both5_L5 hG FU, (fun _ h => absurd h List.not_mem_nil)⟩) tb_M_both5 300 (ab_row tab_M_both5 0) 0 (ab_ini (ab_ml 90) [(vR 30 0)]) [] σ (r, σ') (ab_row_bk tb_M_both5 0) ((e_M_both5 _).trans h)
  obtain ⟨rfl, rfl⟩ := finI_inv hf
  exact ab_met (by decide) rfl (Nat.le_of_ble_eq_true rfl) hR
theorem cs_M_both5 {l : Launch} {G : ab_Gt} (hG : ab_GG G) {R : Type} : ab_CS (R := R) l G 90 (9) cp_M_both5 := by
  intro as σ k res h
  unfold cp_M_both5 at h
  split at h
  · split at h
    · rename_i hb
      simp only [Bool.and_eq_true, Nat.beq_eq] at hb
      obtain ⟨hb1, hb2⟩ := hb
      subst hb1
      subst hb2
      obtain ⟨q, hq, hk⟩ := Option.bind_eq_some_iff.mp h
      exact ⟨_, _, lk_M_both5 hG hq, rfl, (fun _ => Or.inl ⟨rfl, rfl⟩), hk⟩
    · cases h
  · cases h
theorem tb_M_either5 : ∀ q ∈ tab_M_either5, ab_bk (ab_mo 91) (ab_mb 91) (ab_ml 91) 1 q.1 q.2 = true := List.all_eq_true.mp (by decide +kernel)
theorem lc_M_either5_L5 {l : Launch} {G : ab_Gt} (hG : ab_GG G) : ∀ n : Nat, ab_KS l G 91 (10) finI 5 (kc_M_either5_5 (M_either5_L5 n)) := by
  intro n
  induction n with
  | zero =>
    intro L st σ res h
    unfold kc_M_either5_5 at h
    split at h
    · split at h
      · rename_i hb
        simp only [Bool.and_eq_true, Nat.beq_eq] at hb
        obtain ⟨hb1, hb2⟩ := hb
        subst hb1
        subst hb2
        exact absurd (show none = some res from h) (fun h => by cases h)
      · cases h
    · cases h
  | succ n ih =>
    intro L st σ res h
    unfold kc_M_either5_5 at h
    split at h
    · split at h
      · rename_i hb
        simp only [Bool.and_eq_true, Nat.beq_eq] at hb
        obtain ⟨hb1, hb2⟩ := hb
        subst hb1
        subst hb2
        exact ab_ev_sound (tab := tab_M_either5) (Os := [(79, cp_M_next), (82, cp_M_isWord), (90, cp_M_both5)]) (Ks := [(5, kc_M_either5_5 (M_either5_L5 n))]) (fin := finI) hG (by omega) rfl (List.forall_mem_cons.mpr ⟨⟨2, by omega, cs_M_next hG⟩, (List.forall_mem_cons.mpr ⟨⟨3, by omega, cs_M_isWord hG⟩, (List.forall_mem_cons.mpr ⟨⟨9, by omega, cs_M_both5 hG⟩, (fun _ h => absurd h List.not_mem_nil)⟩)⟩)⟩) (List.forall_mem_cons.mpr ⟨ih, (fun _ h => absurd h List.not_mem_nil)⟩) tb_M_either5 300 (ab_row tab_M_either5 5) 5 _ _ σ res (ab_row_bk tb_M_either5 5) ((e_M_either5_L5  _ _ _ _).trans h)
      · cases h
    · cases h
theorem lk_M_either5 {l : Launch} {G : ab_Gt} (hG : ab_GG G) {r : Int32} {σ σ' : Sg} (h : M_either5  σ = some (r, σ')) : ab_CO l G 91 (10) [(vR 30 0)] σ (vI r) σ' := by
  obtain ⟨r0, σ2, hR, hf⟩ := ab_ev_sound (tab := tab_M_either5) (Os := [(79, cp_M_next), (82, cp_M_isWord), (90, cp_M_both5)]) (Ks := [(5, kc_M_either5_5 (M_either5_L5 FU))]) (fin := finI) hG (d := 10) (by omega) rfl (List.forall_mem_cons.mpr ⟨⟨2, by omega, cs_M_next hG⟩, (List.forall_mem_cons.mpr ⟨⟨3, by omega, cs_M_isWord hG⟩, (List.forall_mem_cons.mpr ⟨⟨9, by omega, cs_M_both5 hG⟩, (fun _ h => absurd h List.not_mem_nil)⟩)⟩)⟩) (List.forall_mem_cons.mpr ⟨lc_M_either5_L5 hG FU, (fun _ h => absurd h List.not_mem_nil)⟩) tb_M_either5 300 (ab_row tab_M_either5 0) 0 (ab_ini (ab_ml 91) [(vR 30 0)]) [] σ (r, σ') (ab_row_bk tb_M_either5 0) ((e_M_either5 _).trans h)
  obtain ⟨rfl, rfl⟩ := finI_inv hf
  exact ab_met (by decide) rfl (Nat.le_of_ble_eq_true rfl) hR
theorem cs_M_either5 {l : Launch} {G : ab_Gt} (hG : ab_GG G) {R : Type} : ab_CS (R := R) l G 91 (10) cp_M_either5 := by
  intro as σ k res h
  unfold cp_M_either5 at h
  split at h
  · split at h
    · rename_i hb
      simp only [Bool.and_eq_true, Nat.beq_eq] at hb
      obtain ⟨hb1, hb2⟩ := hb
      subst hb1
      subst hb2
      obtain ⟨q, hq, hk⟩ := Option.bind_eq_some_iff.mp h
      exact ⟨_, _, lk_M_either5 hG hq, rfl, (fun _ => Or.inl ⟨rfl, rfl⟩), hk⟩
    · cases h
  · cases h
theorem tb_M_atom4 : ∀ q ∈ tab_M_atom4, ab_bk (ab_mo 92) (ab_mb 92) (ab_ml 92) 1 q.1 q.2 = true := List.all_eq_true.mp (by decide +kernel)
theorem lc_M_atom4_J123 {l : Launch} {G : ab_Gt} (hG : ab_GG G) : ab_KS l G 92 (11) finI 123 (kc_M_atom4_123 (M_atom4_J123)) := by
  intro L st σ res h
  unfold kc_M_atom4_123 at h
  split at h
  · split at h
    · rename_i hb
      simp only [Bool.and_eq_true, Nat.beq_eq] at hb
      obtain ⟨hb1, hb2⟩ := hb
      subst hb1
      subst hb2
      exact ab_ev_sound (tab := tab_M_atom4) (Os := [(79, cp_M_next), (80, cp_M_fail), (83, cp_M_isSign), (84, cp_M_opens), (85, cp_M_name), (86, cp_M_atom5), (91, cp_M_either5)]) (Ks := []) (fin := finI) hG (by omega) rfl (List.forall_mem_cons.mpr ⟨⟨2, by omega, cs_M_next hG⟩, (List.forall_mem_cons.mpr ⟨⟨1, by omega, cs_M_fail hG⟩, (List.forall_mem_cons.mpr ⟨⟨1, by omega, cs_M_isSign hG⟩, (List.forall_mem_cons.mpr ⟨⟨3, by omega, cs_M_opens hG⟩, (List.forall_mem_cons.mpr ⟨⟨4, by omega, cs_M_name hG⟩, (List.forall_mem_cons.mpr ⟨⟨5, by omega, cs_M_atom5 hG⟩, (List.forall_mem_cons.mpr ⟨⟨10, by omega, cs_M_either5 hG⟩, (fun _ h => absurd h List.not_mem_nil)⟩)⟩)⟩)⟩)⟩)⟩)⟩) (fun _ h => absurd h List.not_mem_nil) tb_M_atom4 300 (ab_row tab_M_atom4 123) 123 _ _ σ res (ab_row_bk tb_M_atom4 123) ((e_M_atom4_J123  _ _).trans h)
    · cases h
  · cases h
theorem lc_M_atom4_J71 {l : Launch} {G : ab_Gt} (hG : ab_GG G) : ab_KS l G 92 (11) finI 71 (kc_M_atom4_71 (M_atom4_J71)) := by
  intro L st σ res h
  unfold kc_M_atom4_71 at h
  split at h
  · split at h
    · rename_i hb
      simp only [Bool.and_eq_true, Nat.beq_eq] at hb
      obtain ⟨hb1, hb2⟩ := hb
      subst hb1
      subst hb2
      exact ab_ev_sound (tab := tab_M_atom4) (Os := [(79, cp_M_next), (80, cp_M_fail), (83, cp_M_isSign), (84, cp_M_opens), (85, cp_M_name), (86, cp_M_atom5), (91, cp_M_either5)]) (Ks := []) (fin := finI) hG (by omega) rfl (List.forall_mem_cons.mpr ⟨⟨2, by omega, cs_M_next hG⟩, (List.forall_mem_cons.mpr ⟨⟨1, by omega, cs_M_fail hG⟩, (List.forall_mem_cons.mpr ⟨⟨1, by omega, cs_M_isSign hG⟩, (List.forall_mem_cons.mpr ⟨⟨3, by omega, cs_M_opens hG⟩, (List.forall_mem_cons.mpr ⟨⟨4, by omega, cs_M_name hG⟩, (List.forall_mem_cons.mpr ⟨⟨5, by omega, cs_M_atom5 hG⟩, (List.forall_mem_cons.mpr ⟨⟨10, by omega, cs_M_either5 hG⟩, (fun _ h => absurd h List.not_mem_nil)⟩)⟩)⟩)⟩)⟩)⟩)⟩) (fun _ h => absurd h List.not_mem_nil) tb_M_atom4 300 (ab_row tab_M_atom4 71) 71 _ _ σ res (ab_row_bk tb_M_atom4 71) ((e_M_atom4_J71  _ _).trans h)
    · cases h
  · cases h
theorem lk_M_atom4 {l : Launch} {G : ab_Gt} (hG : ab_GG G) {r : Int32} {σ σ' : Sg} (h : M_atom4  σ = some (r, σ')) : ab_CO l G 92 (11) [(vR 30 0)] σ (vI r) σ' := by
  obtain ⟨r0, σ2, hR, hf⟩ := ab_ev_sound (tab := tab_M_atom4) (Os := [(79, cp_M_next), (80, cp_M_fail), (83, cp_M_isSign), (84, cp_M_opens), (85, cp_M_name), (86, cp_M_atom5), (91, cp_M_either5)]) (Ks := [(71, kc_M_atom4_71 (M_atom4_J71)), (123, kc_M_atom4_123 (M_atom4_J123))]) (fin := finI) hG (d := 11) (by omega) rfl (List.forall_mem_cons.mpr ⟨⟨2, by omega, cs_M_next hG⟩, (List.forall_mem_cons.mpr ⟨⟨1, by omega, cs_M_fail hG⟩, (List.forall_mem_cons.mpr ⟨⟨1, by omega, cs_M_isSign hG⟩, (List.forall_mem_cons.mpr ⟨⟨3, by omega, cs_M_opens hG⟩, (List.forall_mem_cons.mpr ⟨⟨4, by omega, cs_M_name hG⟩, (List.forall_mem_cons.mpr ⟨⟨5, by omega, cs_M_atom5 hG⟩, (List.forall_mem_cons.mpr ⟨⟨10, by omega, cs_M_either5 hG⟩, (fun _ h => absurd h List.not_mem_nil)⟩)⟩)⟩)⟩)⟩)⟩)⟩) (List.forall_mem_cons.mpr ⟨lc_M_atom4_J71 hG, (List.forall_mem_cons.mpr ⟨lc_M_atom4_J123 hG, (fun _ h => absurd h List.not_mem_nil)⟩)⟩) tb_M_atom4 300 (ab_row tab_M_atom4 0) 0 (ab_ini (ab_ml 92) [(vR 30 0)]) [] σ (r, σ') (ab_row_bk tb_M_atom4 0) ((e_M_atom4 _).trans h)
  obtain ⟨rfl, rfl⟩ := finI_inv hf
  exact ab_met (by decide) rfl (Nat.le_of_ble_eq_true rfl) hR
theorem cs_M_atom4 {l : Launch} {G : ab_Gt} (hG : ab_GG G) {R : Type} : ab_CS (R := R) l G 92 (11) cp_M_atom4 := by
  intro as σ k res h
  unfold cp_M_atom4 at h
  split at h
  · split at h
    · rename_i hb
      simp only [Bool.and_eq_true, Nat.beq_eq] at hb
      obtain ⟨hb1, hb2⟩ := hb
      subst hb1
      subst hb2
      obtain ⟨q, hq, hk⟩ := Option.bind_eq_some_iff.mp h
      exact ⟨_, _, lk_M_atom4 hG hq, rfl, (fun _ => Or.inl ⟨rfl, rfl⟩), hk⟩
    · cases h
  · cases h
theorem tb_M_term4 : ∀ q ∈ tab_M_term4, ab_bk (ab_mo 93) (ab_mb 93) (ab_ml 93) 1 q.1 q.2 = true := List.all_eq_true.mp (by decide +kernel)
theorem lc_M_term4_L5 {l : Launch} {G : ab_Gt} (hG : ab_GG G) : ∀ n : Nat, ab_KS l G 93 (12) finI 5 (kc_M_term4_5 (M_term4_L5 n)) := by
  intro n
  induction n with
  | zero =>
    intro L st σ res h
    unfold kc_M_term4_5 at h
    split at h
    · split at h
      · rename_i hb
        simp only [Bool.and_eq_true, Nat.beq_eq] at hb
        obtain ⟨hb1, hb2⟩ := hb
        subst hb1
        subst hb2
        exact absurd (show none = some res from h) (fun h => by cases h)
      · cases h
    · cases h
  | succ n ih =>
    intro L st σ res h
    unfold kc_M_term4_5 at h
    split at h
    · split at h
      · rename_i hb
        simp only [Bool.and_eq_true, Nat.beq_eq] at hb
        obtain ⟨hb1, hb2⟩ := hb
        subst hb1
        subst hb2
        exact ab_ev_sound (tab := tab_M_term4) (Os := [(79, cp_M_next), (83, cp_M_isSign), (92, cp_M_atom4)]) (Ks := [(5, kc_M_term4_5 (M_term4_L5 n))]) (fin := finI) hG (by omega) rfl (List.forall_mem_cons.mpr ⟨⟨2, by omega, cs_M_next hG⟩, (List.forall_mem_cons.mpr ⟨⟨1, by omega, cs_M_isSign hG⟩, (List.forall_mem_cons.mpr ⟨⟨11, by omega, cs_M_atom4 hG⟩, (fun _ h => absurd h List.not_mem_nil)⟩)⟩)⟩) (List.forall_mem_cons.mpr ⟨ih, (fun _ h => absurd h List.not_mem_nil)⟩) tb_M_term4 300 (ab_row tab_M_term4 5) 5 _ _ σ res (ab_row_bk tb_M_term4 5) ((e_M_term4_L5  _ _ _).trans h)
      · cases h
    · cases h
theorem lk_M_term4 {l : Launch} {G : ab_Gt} (hG : ab_GG G) {r : Int32} {σ σ' : Sg} (h : M_term4  σ = some (r, σ')) : ab_CO l G 93 (12) [(vR 30 0)] σ (vI r) σ' := by
  obtain ⟨r0, σ2, hR, hf⟩ := ab_ev_sound (tab := tab_M_term4) (Os := [(79, cp_M_next), (83, cp_M_isSign), (92, cp_M_atom4)]) (Ks := [(5, kc_M_term4_5 (M_term4_L5 FU))]) (fin := finI) hG (d := 12) (by omega) rfl (List.forall_mem_cons.mpr ⟨⟨2, by omega, cs_M_next hG⟩, (List.forall_mem_cons.mpr ⟨⟨1, by omega, cs_M_isSign hG⟩, (List.forall_mem_cons.mpr ⟨⟨11, by omega, cs_M_atom4 hG⟩, (fun _ h => absurd h List.not_mem_nil)⟩)⟩)⟩) (List.forall_mem_cons.mpr ⟨lc_M_term4_L5 hG FU, (fun _ h => absurd h List.not_mem_nil)⟩) tb_M_term4 300 (ab_row tab_M_term4 0) 0 (ab_ini (ab_ml 93) [(vR 30 0)]) [] σ (r, σ') (ab_row_bk tb_M_term4 0) ((e_M_term4 _).trans h)
  obtain ⟨rfl, rfl⟩ := finI_inv hf
  exact ab_met (by decide) rfl (Nat.le_of_ble_eq_true rfl) hR
theorem cs_M_term4 {l : Launch} {G : ab_Gt} (hG : ab_GG G) {R : Type} : ab_CS (R := R) l G 93 (12) cp_M_term4 := by
  intro as σ k res h
  unfold cp_M_term4 at h
  split at h
  · split at h
    · rename_i hb
      simp only [Bool.and_eq_true, Nat.beq_eq] at hb
      obtain ⟨hb1, hb2⟩ := hb
      subst hb1
      subst hb2
      obtain ⟨q, hq, hk⟩ := Option.bind_eq_some_iff.mp h
      exact ⟨_, _, lk_M_term4 hG hq, rfl, (fun _ => Or.inl ⟨rfl, rfl⟩), hk⟩
    · cases h
  · cases h
theorem tb_M_added4 : ∀ q ∈ tab_M_added4, ab_bk (ab_mo 94) (ab_mb 94) (ab_ml 94) 1 q.1 q.2 = true := List.all_eq_true.mp (by decide +kernel)
theorem lc_M_added4_J39 {l : Launch} {G : ab_Gt} (hG : ab_GG G) {k5 : Int32 → Sg → Option (Int32 × Sg)} (h5 : ab_KS l G 94 (13) finI 5 (kc_M_added4_5 k5)) : ab_KS l G 94 (13) finI 39 (kc_M_added4_39 (M_added4_J39 k5)) := by
  intro L st σ res h
  unfold kc_M_added4_39 at h
  split at h
  · split at h
    · rename_i hb
      simp only [Bool.and_eq_true, Nat.beq_eq] at hb
      obtain ⟨hb1, hb2⟩ := hb
      subst hb1
      subst hb2
      exact ab_ev_sound (tab := tab_M_added4) (Os := [(79, cp_M_next), (83, cp_M_isSign), (93, cp_M_term4)]) (Ks := [(5, kc_M_added4_5 k5)]) (fin := finI) hG (by omega) rfl (List.forall_mem_cons.mpr ⟨⟨2, by omega, cs_M_next hG⟩, (List.forall_mem_cons.mpr ⟨⟨1, by omega, cs_M_isSign hG⟩, (List.forall_mem_cons.mpr ⟨⟨12, by omega, cs_M_term4 hG⟩, (fun _ h => absurd h List.not_mem_nil)⟩)⟩)⟩) (List.forall_mem_cons.mpr ⟨h5, (fun _ h => absurd h List.not_mem_nil)⟩) tb_M_added4 300 (ab_row tab_M_added4 39) 39 _ _ σ res (ab_row_bk tb_M_added4 39) ((e_M_added4_J39 _ _ _ _ _ _).trans h)
    · cases h
  · cases h
theorem lc_M_added4_J23 {l : Launch} {G : ab_Gt} (hG : ab_GG G) {k5 : Int32 → Sg → Option (Int32 × Sg)} (h5 : ab_KS l G 94 (13) finI 5 (kc_M_added4_5 k5)) : ab_KS l G 94 (13) finI 23 (kc_M_added4_23 (M_added4_J23 k5)) := by
  intro L st σ res h
  unfold kc_M_added4_23 at h
  split at h
  · split at h
    · rename_i hb
      simp only [Bool.and_eq_true, Nat.beq_eq] at hb
      obtain ⟨hb1, hb2⟩ := hb
      subst hb1
      subst hb2
      exact ab_ev_sound (tab := tab_M_added4) (Os := [(79, cp_M_next), (83, cp_M_isSign), (93, cp_M_term4)]) (Ks := [(39, kc_M_added4_39 (M_added4_J39 k5))]) (fin := finI) hG (by omega) rfl (List.forall_mem_cons.mpr ⟨⟨2, by omega, cs_M_next hG⟩, (List.forall_mem_cons.mpr ⟨⟨1, by omega, cs_M_isSign hG⟩, (List.forall_mem_cons.mpr ⟨⟨12, by omega, cs_M_term4 hG⟩, (fun _ h => absurd h List.not_mem_nil)⟩)⟩)⟩) (List.forall_mem_cons.mpr ⟨lc_M_added4_J39 hG h5, (fun _ h => absurd h List.not_mem_nil)⟩) tb_M_added4 300 (ab_row tab_M_added4 23) 23 _ _ σ res (ab_row_bk tb_M_added4 23) ((e_M_added4_J23 _ _ _ _ _).trans h)
    · cases h
  · cases h
theorem lc_M_added4_L5 {l : Launch} {G : ab_Gt} (hG : ab_GG G) : ∀ n : Nat, ab_KS l G 94 (13) finI 5 (kc_M_added4_5 (M_added4_L5 n)) := by
  intro n
  induction n with
  | zero =>
    intro L st σ res h
    unfold kc_M_added4_5 at h
    split at h
    · split at h
      · rename_i hb
        simp only [Bool.and_eq_true, Nat.beq_eq] at hb
        obtain ⟨hb1, hb2⟩ := hb
        subst hb1
        subst hb2
        exact absurd (show none = some res from h) (fun h => by cases h)
      · cases h
    · cases h
  | succ n ih =>
    intro L st σ res h
    unfold kc_M_added4_5 at h
    split at h
    · split at h
      · rename_i hb
        simp only [Bool.and_eq_true, Nat.beq_eq] at hb
        obtain ⟨hb1, hb2⟩ := hb
        subst hb1
        subst hb2
        exact ab_ev_sound (tab := tab_M_added4) (Os := [(79, cp_M_next), (83, cp_M_isSign), (93, cp_M_term4)]) (Ks := [(23, kc_M_added4_23 (M_added4_J23 (fun y0 τ => M_added4_L5 n y0 τ)))]) (fin := finI) hG (by omega) rfl (List.forall_mem_cons.mpr ⟨⟨2, by omega, cs_M_next hG⟩, (List.forall_mem_cons.mpr ⟨⟨1, by omega, cs_M_isSign hG⟩, (List.forall_mem_cons.mpr ⟨⟨12, by omega, cs_M_term4 hG⟩, (fun _ h => absurd h List.not_mem_nil)⟩)⟩)⟩) (List.forall_mem_cons.mpr ⟨lc_M_added4_J23 hG ih, (fun _ h => absurd h List.not_mem_nil)⟩) tb_M_added4 300 (ab_row tab_M_added4 5) 5 _ _ σ res (ab_row_bk tb_M_added4 5) ((e_M_added4_L5  _ _ _ _ _).trans h)
      · cases h
    · cases h
theorem lk_M_added4 {l : Launch} {G : ab_Gt} (hG : ab_GG G) {r : Int32} {σ σ' : Sg} (h : M_added4  σ = some (r, σ')) : ab_CO l G 94 (13) [(vR 30 0)] σ (vI r) σ' := by
  obtain ⟨r0, σ2, hR, hf⟩ := ab_ev_sound (tab := tab_M_added4) (Os := [(79, cp_M_next), (83, cp_M_isSign), (93, cp_M_term4)]) (Ks := [(5, kc_M_added4_5 (M_added4_L5 FU))]) (fin := finI) hG (d := 13) (by omega) rfl (List.forall_mem_cons.mpr ⟨⟨2, by omega, cs_M_next hG⟩, (List.forall_mem_cons.mpr ⟨⟨1, by omega, cs_M_isSign hG⟩, (List.forall_mem_cons.mpr ⟨⟨12, by omega, cs_M_term4 hG⟩, (fun _ h => absurd h List.not_mem_nil)⟩)⟩)⟩) (List.forall_mem_cons.mpr ⟨lc_M_added4_L5 hG FU, (fun _ h => absurd h List.not_mem_nil)⟩) tb_M_added4 300 (ab_row tab_M_added4 0) 0 (ab_ini (ab_ml 94) [(vR 30 0)]) [] σ (r, σ') (ab_row_bk tb_M_added4 0) ((e_M_added4 _).trans h)
  obtain ⟨rfl, rfl⟩ := finI_inv hf
  exact ab_met (by decide) rfl (Nat.le_of_ble_eq_true rfl) hR
theorem cs_M_added4 {l : Launch} {G : ab_Gt} (hG : ab_GG G) {R : Type} : ab_CS (R := R) l G 94 (13) cp_M_added4 := by
  intro as σ k res h
  unfold cp_M_added4 at h
  split at h
  · split at h
    · rename_i hb
      simp only [Bool.and_eq_true, Nat.beq_eq] at hb
      obtain ⟨hb1, hb2⟩ := hb
      subst hb1
      subst hb2
      obtain ⟨q, hq, hk⟩ := Option.bind_eq_some_iff.mp h
      exact ⟨_, _, lk_M_added4 hG hq, rfl, (fun _ => Or.inl ⟨rfl, rfl⟩), hk⟩
    · cases h
  · cases h
theorem tb_M_not4 : ∀ q ∈ tab_M_not4, ab_bk (ab_mo 95) (ab_mb 95) (ab_ml 95) 1 q.1 q.2 = true := List.all_eq_true.mp (by decide +kernel)
theorem lc_M_not4_J93 {l : Launch} {G : ab_Gt} (hG : ab_GG G) : ab_KS l G 95 (14) finI 93 (kc_M_not4_93 (M_not4_J93)) := by
  intro L st σ res h
  unfold kc_M_not4_93 at h
  split at h
  · split at h
    · rename_i hb
      simp only [Bool.and_eq_true, Nat.beq_eq] at hb
      obtain ⟨hb1, hb2⟩ := hb
      subst hb1
      subst hb2
      exact ab_ev_sound (tab := tab_M_not4) (Os := [(79, cp_M_next), (82, cp_M_isWord), (83, cp_M_isSign), (84, cp_M_opens), (89, cp_M_not5), (94, cp_M_added4)]) (Ks := []) (fin := finI) hG (by omega) rfl (List.forall_mem_cons.mpr ⟨⟨2, by omega, cs_M_next hG⟩, (List.forall_mem_cons.mpr ⟨⟨3, by omega, cs_M_isWord hG⟩, (List.forall_mem_cons.mpr ⟨⟨1, by omega, cs_M_isSign hG⟩, (List.forall_mem_cons.mpr ⟨⟨3, by omega, cs_M_opens hG⟩, (List.forall_mem_cons.mpr ⟨⟨8, by omega, cs_M_not5 hG⟩, (List.forall_mem_cons.mpr ⟨⟨13, by omega, cs_M_added4 hG⟩, (fun _ h => absurd h List.not_mem_nil)⟩)⟩)⟩)⟩)⟩)⟩) (fun _ h => absurd h List.not_mem_nil) tb_M_not4 300 (ab_row tab_M_not4 93) 93 _ _ σ res (ab_row_bk tb_M_not4 93) ((e_M_not4_J93  _ _ _ _ _).trans h)
    · cases h
  · cases h
theorem lc_M_not4_J77 {l : Launch} {G : ab_Gt} (hG : ab_GG G) : ab_KS l G 95 (14) finI 77 (kc_M_not4_77 (M_not4_J77)) := by
  intro L st σ res h
  unfold kc_M_not4_77 at h
  split at h
  · split at h
    · rename_i hb
      simp only [Bool.and_eq_true, Nat.beq_eq] at hb
      obtain ⟨hb1, hb2⟩ := hb
      subst hb1
      subst hb2
      exact ab_ev_sound (tab := tab_M_not4) (Os := [(79, cp_M_next), (82, cp_M_isWord), (83, cp_M_isSign), (84, cp_M_opens), (89, cp_M_not5), (94, cp_M_added4)]) (Ks := [(93, kc_M_not4_93 (M_not4_J93))]) (fin := finI) hG (by omega) rfl (List.forall_mem_cons.mpr ⟨⟨2, by omega, cs_M_next hG⟩, (List.forall_mem_cons.mpr ⟨⟨3, by omega, cs_M_isWord hG⟩, (List.forall_mem_cons.mpr ⟨⟨1, by omega, cs_M_isSign hG⟩, (List.forall_mem_cons.mpr ⟨⟨3, by omega, cs_M_opens hG⟩, (List.forall_mem_cons.mpr ⟨⟨8, by omega, cs_M_not5 hG⟩, (List.forall_mem_cons.mpr ⟨⟨13, by omega, cs_M_added4 hG⟩, (fun _ h => absurd h List.not_mem_nil)⟩)⟩)⟩)⟩)⟩)⟩) (List.forall_mem_cons.mpr ⟨lc_M_not4_J93 hG, (fun _ h => absurd h List.not_mem_nil)⟩) tb_M_not4 300 (ab_row tab_M_not4 77) 77 _ _ σ res (ab_row_bk tb_M_not4 77) ((e_M_not4_J77  _ _ _ _).trans h)
    · cases h
  · cases h
theorem lk_M_not4 {l : Launch} {G : ab_Gt} (hG : ab_GG G) {r : Int32} {σ σ' : Sg} (h : M_not4  σ = some (r, σ')) : ab_CO l G 95 (14) [(vR 30 0)] σ (vI r) σ' := by
  obtain ⟨r0, σ2, hR, hf⟩ := ab_ev_sound (tab := tab_M_not4) (Os := [(79, cp_M_next), (82, cp_M_isWord), (83, cp_M_isSign), (84, cp_M_opens), (89, cp_M_not5), (94, cp_M_added4)]) (Ks := [(77, kc_M_not4_77 (M_not4_J77))]) (fin := finI) hG (d := 14) (by omega) rfl (List.forall_mem_cons.mpr ⟨⟨2, by omega, cs_M_next hG⟩, (List.forall_mem_cons.mpr ⟨⟨3, by omega, cs_M_isWord hG⟩, (List.forall_mem_cons.mpr ⟨⟨1, by omega, cs_M_isSign hG⟩, (List.forall_mem_cons.mpr ⟨⟨3, by omega, cs_M_opens hG⟩, (List.forall_mem_cons.mpr ⟨⟨8, by omega, cs_M_not5 hG⟩, (List.forall_mem_cons.mpr ⟨⟨13, by omega, cs_M_added4 hG⟩, (fun _ h => absurd h List.not_mem_nil)⟩)⟩)⟩)⟩)⟩)⟩) (List.forall_mem_cons.mpr ⟨lc_M_not4_J77 hG, (fun _ h => absurd h List.not_mem_nil)⟩) tb_M_not4 300 (ab_row tab_M_not4 0) 0 (ab_ini (ab_ml 95) [(vR 30 0)]) [] σ (r, σ') (ab_row_bk tb_M_not4 0) ((e_M_not4 _).trans h)
  obtain ⟨rfl, rfl⟩ := finI_inv hf
  exact ab_met (by decide) rfl (Nat.le_of_ble_eq_true rfl) hR
theorem cs_M_not4 {l : Launch} {G : ab_Gt} (hG : ab_GG G) {R : Type} : ab_CS (R := R) l G 95 (14) cp_M_not4 := by
  intro as σ k res h
  unfold cp_M_not4 at h
  split at h
  · split at h
    · rename_i hb
      simp only [Bool.and_eq_true, Nat.beq_eq] at hb
      obtain ⟨hb1, hb2⟩ := hb
      subst hb1
      subst hb2
      obtain ⟨q, hq, hk⟩ := Option.bind_eq_some_iff.mp h
      exact ⟨_, _, lk_M_not4 hG hq, rfl, (fun _ => Or.inl ⟨rfl, rfl⟩), hk⟩
    · cases h
  · cases h
theorem tb_M_both4 : ∀ q ∈ tab_M_both4, ab_bk (ab_mo 96) (ab_mb 96) (ab_ml 96) 1 q.1 q.2 = true := List.all_eq_true.mp (by decide +kernel)
theorem lc_M_both4_L5 {l : Launch} {G : ab_Gt} (hG : ab_GG G) : ∀ n : Nat, ab_KS l G 96 (15) finI 5 (kc_M_both4_5 (M_both4_L5 n)) := by
  intro n
  induction n with
  | zero =>
    intro L st σ res h
    unfold kc_M_both4_5 at h
    split at h
    · split at h
      · rename_i hb
        simp only [Bool.and_eq_true, Nat.beq_eq] at hb
        obtain ⟨hb1, hb2⟩ := hb
        subst hb1
        subst hb2
        exact absurd (show none = some res from h) (fun h => by cases h)
      · cases h
    · cases h
  | succ n ih =>
    intro L st σ res h
    unfold kc_M_both4_5 at h
    split at h
    · split at h
      · rename_i hb
        simp only [Bool.and_eq_true, Nat.beq_eq] at hb
        obtain ⟨hb1, hb2⟩ := hb
        subst hb1
        subst hb2
        exact ab_ev_sound (tab := tab_M_both4) (Os := [(79, cp_M_next), (82, cp_M_isWord), (95, cp_M_not4)]) (Ks := [(5, kc_M_both4_5 (M_both4_L5 n))]) (fin := finI) hG (by omega) rfl (List.forall_mem_cons.mpr ⟨⟨2, by omega, cs_M_next hG⟩, (List.forall_mem_cons.mpr ⟨⟨3, by omega, cs_M_isWord hG⟩, (List.forall_mem_cons.mpr ⟨⟨14, by omega, cs_M_not4 hG⟩, (fun _ h => absurd h List.not_mem_nil)⟩)⟩)⟩) (List.forall_mem_cons.mpr ⟨ih, (fun _ h => absurd h List.not_mem_nil)⟩) tb_M_both4 300 (ab_row tab_M_both4 5) 5 _ _ σ res (ab_row_bk tb_M_both4 5) ((e_M_both4_L5  _ _ _ _).trans h)
      · cases h
    · cases h
theorem lk_M_both4 {l : Launch} {G : ab_Gt} (hG : ab_GG G) {r : Int32} {σ σ' : Sg} (h : M_both4  σ = some (r, σ')) : ab_CO l G 96 (15) [(vR 30 0)] σ (vI r) σ' := by
  obtain ⟨r0, σ2, hR, hf⟩ := ab_ev_sound (tab := tab_M_both4) (Os := [(79, cp_M_next), (82, cp_M_isWord), (95, cp_M_not4)]) (Ks := [(5, kc_M_both4_5 (M_both4_L5 FU))]) (fin := finI) hG (d := 15) (by omega) rfl (List.forall_mem_cons.mpr ⟨⟨2, by omega, cs_M_next hG⟩, (List.forall_mem_cons.mpr ⟨⟨3, by omega, cs_M_isWord hG⟩, (List.forall_mem_cons.mpr ⟨⟨14, by omega, cs_M_not4 hG⟩, (fun _ h => absurd h List.not_mem_nil)⟩)⟩)⟩) (List.forall_mem_cons.mpr ⟨lc_M_both4_L5 hG FU, (fun _ h => absurd h List.not_mem_nil)⟩) tb_M_both4 300 (ab_row tab_M_both4 0) 0 (ab_ini (ab_ml 96) [(vR 30 0)]) [] σ (r, σ') (ab_row_bk tb_M_both4 0) ((e_M_both4 _).trans h)
  obtain ⟨rfl, rfl⟩ := finI_inv hf
  exact ab_met (by decide) rfl (Nat.le_of_ble_eq_true rfl) hR
theorem cs_M_both4 {l : Launch} {G : ab_Gt} (hG : ab_GG G) {R : Type} : ab_CS (R := R) l G 96 (15) cp_M_both4 := by
  intro as σ k res h
  unfold cp_M_both4 at h
  split at h
  · split at h
    · rename_i hb
      simp only [Bool.and_eq_true, Nat.beq_eq] at hb
      obtain ⟨hb1, hb2⟩ := hb
      subst hb1
      subst hb2
      obtain ⟨q, hq, hk⟩ := Option.bind_eq_some_iff.mp h
      exact ⟨_, _, lk_M_both4 hG hq, rfl, (fun _ => Or.inl ⟨rfl, rfl⟩), hk⟩
    · cases h
  · cases h
theorem tb_M_either4 : ∀ q ∈ tab_M_either4, ab_bk (ab_mo 97) (ab_mb 97) (ab_ml 97) 1 q.1 q.2 = true := List.all_eq_true.mp (by decide +kernel)
theorem lc_M_either4_L5 {l : Launch} {G : ab_Gt} (hG : ab_GG G) : ∀ n : Nat, ab_KS l G 97 (16) finI 5 (kc_M_either4_5 (M_either4_L5 n)) := by
  intro n
  induction n with
  | zero =>
    intro L st σ res h
    unfold kc_M_either4_5 at h
    split at h
    · split at h
      · rename_i hb
        simp only [Bool.and_eq_true, Nat.beq_eq] at hb
        obtain ⟨hb1, hb2⟩ := hb
        subst hb1
        subst hb2
        exact absurd (show none = some res from h) (fun h => by cases h)
      · cases h
    · cases h
  | succ n ih =>
    intro L st σ res h
    unfold kc_M_either4_5 at h
    split at h
    · split at h
      · rename_i hb
        simp only [Bool.and_eq_true, Nat.beq_eq] at hb
        obtain ⟨hb1, hb2⟩ := hb
        subst hb1
        subst hb2
        exact ab_ev_sound (tab := tab_M_either4) (Os := [(79, cp_M_next), (82, cp_M_isWord), (96, cp_M_both4)]) (Ks := [(5, kc_M_either4_5 (M_either4_L5 n))]) (fin := finI) hG (by omega) rfl (List.forall_mem_cons.mpr ⟨⟨2, by omega, cs_M_next hG⟩, (List.forall_mem_cons.mpr ⟨⟨3, by omega, cs_M_isWord hG⟩, (List.forall_mem_cons.mpr ⟨⟨15, by omega, cs_M_both4 hG⟩, (fun _ h => absurd h List.not_mem_nil)⟩)⟩)⟩) (List.forall_mem_cons.mpr ⟨ih, (fun _ h => absurd h List.not_mem_nil)⟩) tb_M_either4 300 (ab_row tab_M_either4 5) 5 _ _ σ res (ab_row_bk tb_M_either4 5) ((e_M_either4_L5  _ _ _ _).trans h)
      · cases h
    · cases h
theorem lk_M_either4 {l : Launch} {G : ab_Gt} (hG : ab_GG G) {r : Int32} {σ σ' : Sg} (h : M_either4  σ = some (r, σ')) : ab_CO l G 97 (16) [(vR 30 0)] σ (vI r) σ' := by
  obtain ⟨r0, σ2, hR, hf⟩ := ab_ev_sound (tab := tab_M_either4) (Os := [(79, cp_M_next), (82, cp_M_isWord), (96, cp_M_both4)]) (Ks := [(5, kc_M_either4_5 (M_either4_L5 FU))]) (fin := finI) hG (d := 16) (by omega) rfl (List.forall_mem_cons.mpr ⟨⟨2, by omega, cs_M_next hG⟩, (List.forall_mem_cons.mpr ⟨⟨3, by omega, cs_M_isWord hG⟩, (List.forall_mem_cons.mpr ⟨⟨15, by omega, cs_M_both4 hG⟩, (fun _ h => absurd h List.not_mem_nil)⟩)⟩)⟩) (List.forall_mem_cons.mpr ⟨lc_M_either4_L5 hG FU, (fun _ h => absurd h List.not_mem_nil)⟩) tb_M_either4 300 (ab_row tab_M_either4 0) 0 (ab_ini (ab_ml 97) [(vR 30 0)]) [] σ (r, σ') (ab_row_bk tb_M_either4 0) ((e_M_either4 _).trans h)
  obtain ⟨rfl, rfl⟩ := finI_inv hf
  exact ab_met (by decide) rfl (Nat.le_of_ble_eq_true rfl) hR
theorem cs_M_either4 {l : Launch} {G : ab_Gt} (hG : ab_GG G) {R : Type} : ab_CS (R := R) l G 97 (16) cp_M_either4 := by
  intro as σ k res h
  unfold cp_M_either4 at h
  split at h
  · split at h
    · rename_i hb
      simp only [Bool.and_eq_true, Nat.beq_eq] at hb
      obtain ⟨hb1, hb2⟩ := hb
      subst hb1
      subst hb2
      obtain ⟨q, hq, hk⟩ := Option.bind_eq_some_iff.mp h
      exact ⟨_, _, lk_M_either4 hG hq, rfl, (fun _ => Or.inl ⟨rfl, rfl⟩), hk⟩
    · cases h
  · cases h
theorem tb_M_atom3 : ∀ q ∈ tab_M_atom3, ab_bk (ab_mo 98) (ab_mb 98) (ab_ml 98) 1 q.1 q.2 = true := List.all_eq_true.mp (by decide +kernel)
theorem lc_M_atom3_J123 {l : Launch} {G : ab_Gt} (hG : ab_GG G) : ab_KS l G 98 (17) finI 123 (kc_M_atom3_123 (M_atom3_J123)) := by
  intro L st σ res h
  unfold kc_M_atom3_123 at h
  split at h
  · split at h
    · rename_i hb
      simp only [Bool.and_eq_true, Nat.beq_eq] at hb
      obtain ⟨hb1, hb2⟩ := hb
      subst hb1
      subst hb2
      exact ab_ev_sound (tab := tab_M_atom3) (Os := [(79, cp_M_next), (80, cp_M_fail), (83, cp_M_isSign), (84, cp_M_opens), (85, cp_M_name), (92, cp_M_atom4), (97, cp_M_either4)]) (Ks := []) (fin := finI) hG (by omega) rfl (List.forall_mem_cons.mpr ⟨⟨2, by omega, cs_M_next hG⟩, (List.forall_mem_cons.mpr ⟨⟨1, by omega, cs_M_fail hG⟩, (List.forall_mem_cons.mpr ⟨⟨1, by omega, cs_M_isSign hG⟩, (List.forall_mem_cons.mpr ⟨⟨3, by omega, cs_M_opens hG⟩, (List.forall_mem_cons.mpr ⟨⟨4, by omega, cs_M_name hG⟩, (List.forall_mem_cons.mpr ⟨⟨11, by omega, cs_M_atom4 hG⟩, (List.forall_mem_cons.mpr ⟨⟨16, by omega, cs_M_either4 hG⟩, (fun _ h => absurd h List.not_mem_nil)⟩)⟩)⟩)⟩)⟩)⟩)⟩) (fun _ h => absurd h List.not_mem_nil) tb_M_atom3 300 (ab_row tab_M_atom3 123) 123 _ _ σ res (ab_row_bk tb_M_atom3 123) ((e_M_atom3_J123  _ _).trans h)
    · cases h
  · cases h
theorem lc_M_atom3_J71 {l : Launch} {G : ab_Gt} (hG : ab_GG G) : ab_KS l G 98 (17) finI 71 (kc_M_atom3_71 (M_atom3_J71)) := by
  intro L st σ res h
  unfold kc_M_atom3_71 at h
  split at h
  · split at h
    · rename_i hb
      simp only [Bool.and_eq_true, Nat.beq_eq] at hb
      obtain ⟨hb1, hb2⟩ := hb
      subst hb1
      subst hb2
      exact ab_ev_sound (tab := tab_M_atom3) (Os := [(79, cp_M_next), (80, cp_M_fail), (83, cp_M_isSign), (84, cp_M_opens), (85, cp_M_name), (92, cp_M_atom4), (97, cp_M_either4)]) (Ks := []) (fin := finI) hG (by omega) rfl (List.forall_mem_cons.mpr ⟨⟨2, by omega, cs_M_next hG⟩, (List.forall_mem_cons.mpr ⟨⟨1, by omega, cs_M_fail hG⟩, (List.forall_mem_cons.mpr ⟨⟨1, by omega, cs_M_isSign hG⟩, (List.forall_mem_cons.mpr ⟨⟨3, by omega, cs_M_opens hG⟩, (List.forall_mem_cons.mpr ⟨⟨4, by omega, cs_M_name hG⟩, (List.forall_mem_cons.mpr ⟨⟨11, by omega, cs_M_atom4 hG⟩, (List.forall_mem_cons.mpr ⟨⟨16, by omega, cs_M_either4 hG⟩, (fun _ h => absurd h List.not_mem_nil)⟩)⟩)⟩)⟩)⟩)⟩)⟩) (fun _ h => absurd h List.not_mem_nil) tb_M_atom3 300 (ab_row tab_M_atom3 71) 71 _ _ σ res (ab_row_bk tb_M_atom3 71) ((e_M_atom3_J71  _ _).trans h)
    · cases h
  · cases h
theorem lk_M_atom3 {l : Launch} {G : ab_Gt} (hG : ab_GG G) {r : Int32} {σ σ' : Sg} (h : M_atom3  σ = some (r, σ')) : ab_CO l G 98 (17) [(vR 30 0)] σ (vI r) σ' := by
  obtain ⟨r0, σ2, hR, hf⟩ := ab_ev_sound (tab := tab_M_atom3) (Os := [(79, cp_M_next), (80, cp_M_fail), (83, cp_M_isSign), (84, cp_M_opens), (85, cp_M_name), (92, cp_M_atom4), (97, cp_M_either4)]) (Ks := [(71, kc_M_atom3_71 (M_atom3_J71)), (123, kc_M_atom3_123 (M_atom3_J123))]) (fin := finI) hG (d := 17) (by omega) rfl (List.forall_mem_cons.mpr ⟨⟨2, by omega, cs_M_next hG⟩, (List.forall_mem_cons.mpr ⟨⟨1, by omega, cs_M_fail hG⟩, (List.forall_mem_cons.mpr ⟨⟨1, by omega, cs_M_isSign hG⟩, (List.forall_mem_cons.mpr ⟨⟨3, by omega, cs_M_opens hG⟩, (List.forall_mem_cons.mpr ⟨⟨4, by omega, cs_M_name hG⟩, (List.forall_mem_cons.mpr ⟨⟨11, by omega, cs_M_atom4 hG⟩, (List.forall_mem_cons.mpr ⟨⟨16, by omega, cs_M_either4 hG⟩, (fun _ h => absurd h List.not_mem_nil)⟩)⟩)⟩)⟩)⟩)⟩)⟩) (List.forall_mem_cons.mpr ⟨lc_M_atom3_J71 hG, (List.forall_mem_cons.mpr ⟨lc_M_atom3_J123 hG, (fun _ h => absurd h List.not_mem_nil)⟩)⟩) tb_M_atom3 300 (ab_row tab_M_atom3 0) 0 (ab_ini (ab_ml 98) [(vR 30 0)]) [] σ (r, σ') (ab_row_bk tb_M_atom3 0) ((e_M_atom3 _).trans h)
  obtain ⟨rfl, rfl⟩ := finI_inv hf
  exact ab_met (by decide) rfl (Nat.le_of_ble_eq_true rfl) hR
theorem cs_M_atom3 {l : Launch} {G : ab_Gt} (hG : ab_GG G) {R : Type} : ab_CS (R := R) l G 98 (17) cp_M_atom3 := by
  intro as σ k res h
  unfold cp_M_atom3 at h
  split at h
  · split at h
    · rename_i hb
      simp only [Bool.and_eq_true, Nat.beq_eq] at hb
      obtain ⟨hb1, hb2⟩ := hb
      subst hb1
      subst hb2
      obtain ⟨q, hq, hk⟩ := Option.bind_eq_some_iff.mp h
      exact ⟨_, _, lk_M_atom3 hG hq, rfl, (fun _ => Or.inl ⟨rfl, rfl⟩), hk⟩
    · cases h
  · cases h
theorem tb_M_term3 : ∀ q ∈ tab_M_term3, ab_bk (ab_mo 99) (ab_mb 99) (ab_ml 99) 1 q.1 q.2 = true := List.all_eq_true.mp (by decide +kernel)
theorem lc_M_term3_L5 {l : Launch} {G : ab_Gt} (hG : ab_GG G) : ∀ n : Nat, ab_KS l G 99 (18) finI 5 (kc_M_term3_5 (M_term3_L5 n)) := by
  intro n
  induction n with
  | zero =>
    intro L st σ res h
    unfold kc_M_term3_5 at h
    split at h
    · split at h
      · rename_i hb
        simp only [Bool.and_eq_true, Nat.beq_eq] at hb
        obtain ⟨hb1, hb2⟩ := hb
        subst hb1
        subst hb2
        exact absurd (show none = some res from h) (fun h => by cases h)
      · cases h
    · cases h
  | succ n ih =>
    intro L st σ res h
    unfold kc_M_term3_5 at h
    split at h
    · split at h
      · rename_i hb
        simp only [Bool.and_eq_true, Nat.beq_eq] at hb
        obtain ⟨hb1, hb2⟩ := hb
        subst hb1
        subst hb2
        exact ab_ev_sound (tab := tab_M_term3) (Os := [(79, cp_M_next), (83, cp_M_isSign), (98, cp_M_atom3)]) (Ks := [(5, kc_M_term3_5 (M_term3_L5 n))]) (fin := finI) hG (by omega) rfl (List.forall_mem_cons.mpr ⟨⟨2, by omega, cs_M_next hG⟩, (List.forall_mem_cons.mpr ⟨⟨1, by omega, cs_M_isSign hG⟩, (List.forall_mem_cons.mpr ⟨⟨17, by omega, cs_M_atom3 hG⟩, (fun _ h => absurd h List.not_mem_nil)⟩)⟩)⟩) (List.forall_mem_cons.mpr ⟨ih, (fun _ h => absurd h List.not_mem_nil)⟩) tb_M_term3 300 (ab_row tab_M_term3 5) 5 _ _ σ res (ab_row_bk tb_M_term3 5) ((e_M_term3_L5  _ _ _).trans h)
      · cases h
    · cases h
theorem lk_M_term3 {l : Launch} {G : ab_Gt} (hG : ab_GG G) {r : Int32} {σ σ' : Sg} (h : M_term3  σ = some (r, σ')) : ab_CO l G 99 (18) [(vR 30 0)] σ (vI r) σ' := by
  obtain ⟨r0, σ2, hR, hf⟩ := ab_ev_sound (tab := tab_M_term3) (Os := [(79, cp_M_next), (83, cp_M_isSign), (98, cp_M_atom3)]) (Ks := [(5, kc_M_term3_5 (M_term3_L5 FU))]) (fin := finI) hG (d := 18) (by omega) rfl (List.forall_mem_cons.mpr ⟨⟨2, by omega, cs_M_next hG⟩, (List.forall_mem_cons.mpr ⟨⟨1, by omega, cs_M_isSign hG⟩, (List.forall_mem_cons.mpr ⟨⟨17, by omega, cs_M_atom3 hG⟩, (fun _ h => absurd h List.not_mem_nil)⟩)⟩)⟩) (List.forall_mem_cons.mpr ⟨lc_M_term3_L5 hG FU, (fun _ h => absurd h List.not_mem_nil)⟩) tb_M_term3 300 (ab_row tab_M_term3 0) 0 (ab_ini (ab_ml 99) [(vR 30 0)]) [] σ (r, σ') (ab_row_bk tb_M_term3 0) ((e_M_term3 _).trans h)
  obtain ⟨rfl, rfl⟩ := finI_inv hf
  exact ab_met (by decide) rfl (Nat.le_of_ble_eq_true rfl) hR
theorem cs_M_term3 {l : Launch} {G : ab_Gt} (hG : ab_GG G) {R : Type} : ab_CS (R := R) l G 99 (18) cp_M_term3 := by
  intro as σ k res h
  unfold cp_M_term3 at h
  split at h
  · split at h
    · rename_i hb
      simp only [Bool.and_eq_true, Nat.beq_eq] at hb
      obtain ⟨hb1, hb2⟩ := hb
      subst hb1
      subst hb2
      obtain ⟨q, hq, hk⟩ := Option.bind_eq_some_iff.mp h
      exact ⟨_, _, lk_M_term3 hG hq, rfl, (fun _ => Or.inl ⟨rfl, rfl⟩), hk⟩
    · cases h
  · cases h
theorem tb_M_added3 : ∀ q ∈ tab_M_added3, ab_bk (ab_mo 100) (ab_mb 100) (ab_ml 100) 1 q.1 q.2 = true := List.all_eq_true.mp (by decide +kernel)
theorem lc_M_added3_J39 {l : Launch} {G : ab_Gt} (hG : ab_GG G) {k5 : Int32 → Sg → Option (Int32 × Sg)} (h5 : ab_KS l G 100 (19) finI 5 (kc_M_added3_5 k5)) : ab_KS l G 100 (19) finI 39 (kc_M_added3_39 (M_added3_J39 k5)) := by
  intro L st σ res h
  unfold kc_M_added3_39 at h
  split at h
  · split at h
    · rename_i hb
      simp only [Bool.and_eq_true, Nat.beq_eq] at hb
      obtain ⟨hb1, hb2⟩ := hb
      subst hb1
      subst hb2
      exact ab_ev_sound (tab := tab_M_added3) (Os := [(79, cp_M_next), (83, cp_M_isSign), (99, cp_M_term3)]) (Ks := [(5, kc_M_added3_5 k5)]) (fin := finI) hG (by omega) rfl (List.forall_mem_cons.mpr ⟨⟨2, by omega, cs_M_next hG⟩, (List.forall_mem_cons.mpr ⟨⟨1, by omega, cs_M_isSign hG⟩, (List.forall_mem_cons.mpr ⟨⟨18, by omega, cs_M_term3 hG⟩, (fun _ h => absurd h List.not_mem_nil)⟩)⟩)⟩) (List.forall_mem_cons.mpr ⟨h5, (fun _ h => absurd h List.not_mem_nil)⟩) tb_M_added3 300 (ab_row tab_M_added3 39) 39 _ _ σ res (ab_row_bk tb_M_added3 39) ((e_M_added3_J39 _ _ _ _ _ _).trans h)
    · cases h
  · cases h
theorem lc_M_added3_J23 {l : Launch} {G : ab_Gt} (hG : ab_GG G) {k5 : Int32 → Sg → Option (Int32 × Sg)} (h5 : ab_KS l G 100 (19) finI 5 (kc_M_added3_5 k5)) : ab_KS l G 100 (19) finI 23 (kc_M_added3_23 (M_added3_J23 k5)) := by
  intro L st σ res h
  unfold kc_M_added3_23 at h
  split at h
  · split at h
    · rename_i hb
      simp only [Bool.and_eq_true, Nat.beq_eq] at hb
      obtain ⟨hb1, hb2⟩ := hb
      subst hb1
      subst hb2
      exact ab_ev_sound (tab := tab_M_added3) (Os := [(79, cp_M_next), (83, cp_M_isSign), (99, cp_M_term3)]) (Ks := [(39, kc_M_added3_39 (M_added3_J39 k5))]) (fin := finI) hG (by omega) rfl (List.forall_mem_cons.mpr ⟨⟨2, by omega, cs_M_next hG⟩, (List.forall_mem_cons.mpr ⟨⟨1, by omega, cs_M_isSign hG⟩, (List.forall_mem_cons.mpr ⟨⟨18, by omega, cs_M_term3 hG⟩, (fun _ h => absurd h List.not_mem_nil)⟩)⟩)⟩) (List.forall_mem_cons.mpr ⟨lc_M_added3_J39 hG h5, (fun _ h => absurd h List.not_mem_nil)⟩) tb_M_added3 300 (ab_row tab_M_added3 23) 23 _ _ σ res (ab_row_bk tb_M_added3 23) ((e_M_added3_J23 _ _ _ _ _).trans h)
    · cases h
  · cases h
theorem lc_M_added3_L5 {l : Launch} {G : ab_Gt} (hG : ab_GG G) : ∀ n : Nat, ab_KS l G 100 (19) finI 5 (kc_M_added3_5 (M_added3_L5 n)) := by
  intro n
  induction n with
  | zero =>
    intro L st σ res h
    unfold kc_M_added3_5 at h
    split at h
    · split at h
      · rename_i hb
        simp only [Bool.and_eq_true, Nat.beq_eq] at hb
        obtain ⟨hb1, hb2⟩ := hb
        subst hb1
        subst hb2
        exact absurd (show none = some res from h) (fun h => by cases h)
      · cases h
    · cases h
  | succ n ih =>
    intro L st σ res h
    unfold kc_M_added3_5 at h
    split at h
    · split at h
      · rename_i hb
        simp only [Bool.and_eq_true, Nat.beq_eq] at hb
        obtain ⟨hb1, hb2⟩ := hb
        subst hb1
        subst hb2
        exact ab_ev_sound (tab := tab_M_added3) (Os := [(79, cp_M_next), (83, cp_M_isSign), (99, cp_M_term3)]) (Ks := [(23, kc_M_added3_23 (M_added3_J23 (fun y0 τ => M_added3_L5 n y0 τ)))]) (fin := finI) hG (by omega) rfl (List.forall_mem_cons.mpr ⟨⟨2, by omega, cs_M_next hG⟩, (List.forall_mem_cons.mpr ⟨⟨1, by omega, cs_M_isSign hG⟩, (List.forall_mem_cons.mpr ⟨⟨18, by omega, cs_M_term3 hG⟩, (fun _ h => absurd h List.not_mem_nil)⟩)⟩)⟩) (List.forall_mem_cons.mpr ⟨lc_M_added3_J23 hG ih, (fun _ h => absurd h List.not_mem_nil)⟩) tb_M_added3 300 (ab_row tab_M_added3 5) 5 _ _ σ res (ab_row_bk tb_M_added3 5) ((e_M_added3_L5  _ _ _ _ _).trans h)
      · cases h
    · cases h
theorem lk_M_added3 {l : Launch} {G : ab_Gt} (hG : ab_GG G) {r : Int32} {σ σ' : Sg} (h : M_added3  σ = some (r, σ')) : ab_CO l G 100 (19) [(vR 30 0)] σ (vI r) σ' := by
  obtain ⟨r0, σ2, hR, hf⟩ := ab_ev_sound (tab := tab_M_added3) (Os := [(79, cp_M_next), (83, cp_M_isSign), (99, cp_M_term3)]) (Ks := [(5, kc_M_added3_5 (M_added3_L5 FU))]) (fin := finI) hG (d := 19) (by omega) rfl (List.forall_mem_cons.mpr ⟨⟨2, by omega, cs_M_next hG⟩, (List.forall_mem_cons.mpr ⟨⟨1, by omega, cs_M_isSign hG⟩, (List.forall_mem_cons.mpr ⟨⟨18, by omega, cs_M_term3 hG⟩, (fun _ h => absurd h List.not_mem_nil)⟩)⟩)⟩) (List.forall_mem_cons.mpr ⟨lc_M_added3_L5 hG FU, (fun _ h => absurd h List.not_mem_nil)⟩) tb_M_added3 300 (ab_row tab_M_added3 0) 0 (ab_ini (ab_ml 100) [(vR 30 0)]) [] σ (r, σ') (ab_row_bk tb_M_added3 0) ((e_M_added3 _).trans h)
  obtain ⟨rfl, rfl⟩ := finI_inv hf
  exact ab_met (by decide) rfl (Nat.le_of_ble_eq_true rfl) hR
theorem cs_M_added3 {l : Launch} {G : ab_Gt} (hG : ab_GG G) {R : Type} : ab_CS (R := R) l G 100 (19) cp_M_added3 := by
  intro as σ k res h
  unfold cp_M_added3 at h
  split at h
  · split at h
    · rename_i hb
      simp only [Bool.and_eq_true, Nat.beq_eq] at hb
      obtain ⟨hb1, hb2⟩ := hb
      subst hb1
      subst hb2
      obtain ⟨q, hq, hk⟩ := Option.bind_eq_some_iff.mp h
      exact ⟨_, _, lk_M_added3 hG hq, rfl, (fun _ => Or.inl ⟨rfl, rfl⟩), hk⟩
    · cases h
  · cases h
theorem tb_M_not3 : ∀ q ∈ tab_M_not3, ab_bk (ab_mo 101) (ab_mb 101) (ab_ml 101) 1 q.1 q.2 = true := List.all_eq_true.mp (by decide +kernel)
theorem lc_M_not3_J93 {l : Launch} {G : ab_Gt} (hG : ab_GG G) : ab_KS l G 101 (20) finI 93 (kc_M_not3_93 (M_not3_J93)) := by
  intro L st σ res h
  unfold kc_M_not3_93 at h
  split at h
  · split at h
    · rename_i hb
      simp only [Bool.and_eq_true, Nat.beq_eq] at hb
      obtain ⟨hb1, hb2⟩ := hb
      subst hb1
      subst hb2
      exact ab_ev_sound (tab := tab_M_not3) (Os := [(79, cp_M_next), (82, cp_M_isWord), (83, cp_M_isSign), (84, cp_M_opens), (95, cp_M_not4), (100, cp_M_added3)]) (Ks := []) (fin := finI) hG (by omega) rfl (List.forall_mem_cons.mpr ⟨⟨2, by omega, cs_M_next hG⟩, (List.forall_mem_cons.mpr ⟨⟨3, by omega, cs_M_isWord hG⟩, (List.forall_mem_cons.mpr ⟨⟨1, by omega, cs_M_isSign hG⟩, (List.forall_mem_cons.mpr ⟨⟨3, by omega, cs_M_opens hG⟩, (List.forall_mem_cons.mpr ⟨⟨14, by omega, cs_M_not4 hG⟩, (List.forall_mem_cons.mpr ⟨⟨19, by omega, cs_M_added3 hG⟩, (fun _ h => absurd h List.not_mem_nil)⟩)⟩)⟩)⟩)⟩)⟩) (fun _ h => absurd h List.not_mem_nil) tb_M_not3 300 (ab_row tab_M_not3 93) 93 _ _ σ res (ab_row_bk tb_M_not3 93) ((e_M_not3_J93  _ _ _ _ _).trans h)
    · cases h
  · cases h
theorem lc_M_not3_J77 {l : Launch} {G : ab_Gt} (hG : ab_GG G) : ab_KS l G 101 (20) finI 77 (kc_M_not3_77 (M_not3_J77)) := by
  intro L st σ res h
  unfold kc_M_not3_77 at h
  split at h
  · split at h
    · rename_i hb
      simp only [Bool.and_eq_true, Nat.beq_eq] at hb
      obtain ⟨hb1, hb2⟩ := hb
      subst hb1
      subst hb2
      exact ab_ev_sound (tab := tab_M_not3) (Os := [(79, cp_M_next), (82, cp_M_isWord), (83, cp_M_isSign), (84, cp_M_opens), (95, cp_M_not4), (100, cp_M_added3)]) (Ks := [(93, kc_M_not3_93 (M_not3_J93))]) (fin := finI) hG (by omega) rfl (List.forall_mem_cons.mpr ⟨⟨2, by omega, cs_M_next hG⟩, (List.forall_mem_cons.mpr ⟨⟨3, by omega, cs_M_isWord hG⟩, (List.forall_mem_cons.mpr ⟨⟨1, by omega, cs_M_isSign hG⟩, (List.forall_mem_cons.mpr ⟨⟨3, by omega, cs_M_opens hG⟩, (List.forall_mem_cons.mpr ⟨⟨14, by omega, cs_M_not4 hG⟩, (List.forall_mem_cons.mpr ⟨⟨19, by omega, cs_M_added3 hG⟩, (fun _ h => absurd h List.not_mem_nil)⟩)⟩)⟩)⟩)⟩)⟩) (List.forall_mem_cons.mpr ⟨lc_M_not3_J93 hG, (fun _ h => absurd h List.not_mem_nil)⟩) tb_M_not3 300 (ab_row tab_M_not3 77) 77 _ _ σ res (ab_row_bk tb_M_not3 77) ((e_M_not3_J77  _ _ _ _).trans h)
    · cases h
  · cases h
theorem lk_M_not3 {l : Launch} {G : ab_Gt} (hG : ab_GG G) {r : Int32} {σ σ' : Sg} (h : M_not3  σ = some (r, σ')) : ab_CO l G 101 (20) [(vR 30 0)] σ (vI r) σ' := by
  obtain ⟨r0, σ2, hR, hf⟩ := ab_ev_sound (tab := tab_M_not3) (Os := [(79, cp_M_next), (82, cp_M_isWord), (83, cp_M_isSign), (84, cp_M_opens), (95, cp_M_not4), (100, cp_M_added3)]) (Ks := [(77, kc_M_not3_77 (M_not3_J77))]) (fin := finI) hG (d := 20) (by omega) rfl (List.forall_mem_cons.mpr ⟨⟨2, by omega, cs_M_next hG⟩, (List.forall_mem_cons.mpr ⟨⟨3, by omega, cs_M_isWord hG⟩, (List.forall_mem_cons.mpr ⟨⟨1, by omega, cs_M_isSign hG⟩, (List.forall_mem_cons.mpr ⟨⟨3, by omega, cs_M_opens hG⟩, (List.forall_mem_cons.mpr ⟨⟨14, by omega, cs_M_not4 hG⟩, (List.forall_mem_cons.mpr ⟨⟨19, by omega, cs_M_added3 hG⟩, (fun _ h => absurd h List.not_mem_nil)⟩)⟩)⟩)⟩)⟩)⟩) (List.forall_mem_cons.mpr ⟨lc_M_not3_J77 hG, (fun _ h => absurd h List.not_mem_nil)⟩) tb_M_not3 300 (ab_row tab_M_not3 0) 0 (ab_ini (ab_ml 101) [(vR 30 0)]) [] σ (r, σ') (ab_row_bk tb_M_not3 0) ((e_M_not3 _).trans h)
  obtain ⟨rfl, rfl⟩ := finI_inv hf
  exact ab_met (by decide) rfl (Nat.le_of_ble_eq_true rfl) hR
theorem cs_M_not3 {l : Launch} {G : ab_Gt} (hG : ab_GG G) {R : Type} : ab_CS (R := R) l G 101 (20) cp_M_not3 := by
  intro as σ k res h
  unfold cp_M_not3 at h
  split at h
  · split at h
    · rename_i hb
      simp only [Bool.and_eq_true, Nat.beq_eq] at hb
      obtain ⟨hb1, hb2⟩ := hb
      subst hb1
      subst hb2
      obtain ⟨q, hq, hk⟩ := Option.bind_eq_some_iff.mp h
      exact ⟨_, _, lk_M_not3 hG hq, rfl, (fun _ => Or.inl ⟨rfl, rfl⟩), hk⟩
    · cases h
  · cases h
theorem tb_M_both3 : ∀ q ∈ tab_M_both3, ab_bk (ab_mo 102) (ab_mb 102) (ab_ml 102) 1 q.1 q.2 = true := List.all_eq_true.mp (by decide +kernel)
theorem lc_M_both3_L5 {l : Launch} {G : ab_Gt} (hG : ab_GG G) : ∀ n : Nat, ab_KS l G 102 (21) finI 5 (kc_M_both3_5 (M_both3_L5 n)) := by
  intro n
  induction n with
  | zero =>
    intro L st σ res h
    unfold kc_M_both3_5 at h
    split at h
    · split at h
      · rename_i hb
        simp only [Bool.and_eq_true, Nat.beq_eq] at hb
        obtain ⟨hb1, hb2⟩ := hb
        subst hb1
        subst hb2
        exact absurd (show none = some res from h) (fun h => by cases h)
      · cases h
    · cases h
  | succ n ih =>
    intro L st σ res h
    unfold kc_M_both3_5 at h
    split at h
    · split at h
      · rename_i hb
        simp only [Bool.and_eq_true, Nat.beq_eq] at hb
        obtain ⟨hb1, hb2⟩ := hb
        subst hb1
        subst hb2
        exact ab_ev_sound (tab := tab_M_both3) (Os := [(79, cp_M_next), (82, cp_M_isWord), (101, cp_M_not3)]) (Ks := [(5, kc_M_both3_5 (M_both3_L5 n))]) (fin := finI) hG (by omega) rfl (List.forall_mem_cons.mpr ⟨⟨2, by omega, cs_M_next hG⟩, (List.forall_mem_cons.mpr ⟨⟨3, by omega, cs_M_isWord hG⟩, (List.forall_mem_cons.mpr ⟨⟨20, by omega, cs_M_not3 hG⟩, (fun _ h => absurd h List.not_mem_nil)⟩)⟩)⟩) (List.forall_mem_cons.mpr ⟨ih, (fun _ h => absurd h List.not_mem_nil)⟩) tb_M_both3 300 (ab_row tab_M_both3 5) 5 _ _ σ res (ab_row_bk tb_M_both3 5) ((e_M_both3_L5  _ _ _ _).trans h)
      · cases h
    · cases h
theorem lk_M_both3 {l : Launch} {G : ab_Gt} (hG : ab_GG G) {r : Int32} {σ σ' : Sg} (h : M_both3  σ = some (r, σ')) : ab_CO l G 102 (21) [(vR 30 0)] σ (vI r) σ' := by
  obtain ⟨r0, σ2, hR, hf⟩ := ab_ev_sound (tab := tab_M_both3) (Os := [(79, cp_M_next), (82, cp_M_isWord), (101, cp_M_not3)]) (Ks := [(5, kc_M_both3_5 (M_both3_L5 FU))]) (fin := finI) hG (d := 21) (by omega) rfl (List.forall_mem_cons.mpr ⟨⟨2, by omega, cs_M_next hG⟩, (List.forall_mem_cons.mpr ⟨⟨3, by omega, cs_M_isWord hG⟩, (List.forall_mem_cons.mpr ⟨⟨20, by omega, cs_M_not3 hG⟩, (fun _ h => absurd h List.not_mem_nil)⟩)⟩)⟩) (List.forall_mem_cons.mpr ⟨lc_M_both3_L5 hG FU, (fun _ h => absurd h List.not_mem_nil)⟩) tb_M_both3 300 (ab_row tab_M_both3 0) 0 (ab_ini (ab_ml 102) [(vR 30 0)]) [] σ (r, σ') (ab_row_bk tb_M_both3 0) ((e_M_both3 _).trans h)
  obtain ⟨rfl, rfl⟩ := finI_inv hf
  exact ab_met (by decide) rfl (Nat.le_of_ble_eq_true rfl) hR
theorem cs_M_both3 {l : Launch} {G : ab_Gt} (hG : ab_GG G) {R : Type} : ab_CS (R := R) l G 102 (21) cp_M_both3 := by
  intro as σ k res h
  unfold cp_M_both3 at h
  split at h
  · split at h
    · rename_i hb
      simp only [Bool.and_eq_true, Nat.beq_eq] at hb
      obtain ⟨hb1, hb2⟩ := hb
      subst hb1
      subst hb2
      obtain ⟨q, hq, hk⟩ := Option.bind_eq_some_iff.mp h
      exact ⟨_, _, lk_M_both3 hG hq, rfl, (fun _ => Or.inl ⟨rfl, rfl⟩), hk⟩
    · cases h
  · cases h
theorem tb_M_either3 : ∀ q ∈ tab_M_either3, ab_bk (ab_mo 103) (ab_mb 103) (ab_ml 103) 1 q.1 q.2 = true := List.all_eq_true.mp (by decide +kernel)
theorem lc_M_either3_L5 {l : Launch} {G : ab_Gt} (hG : ab_GG G) : ∀ n : Nat, ab_KS l G 103 (22) finI 5 (kc_M_either3_5 (M_either3_L5 n)) := by
  intro n
  induction n with
  | zero =>
    intro L st σ res h
    unfold kc_M_either3_5 at h
    split at h
    · split at h
      · rename_i hb
        simp only [Bool.and_eq_true, Nat.beq_eq] at hb
        obtain ⟨hb1, hb2⟩ := hb
        subst hb1
        subst hb2
        exact absurd (show none = some res from h) (fun h => by cases h)
      · cases h
    · cases h
  | succ n ih =>
    intro L st σ res h
    unfold kc_M_either3_5 at h
    split at h
    · split at h
      · rename_i hb
        simp only [Bool.and_eq_true, Nat.beq_eq] at hb
        obtain ⟨hb1, hb2⟩ := hb
        subst hb1
        subst hb2
        exact ab_ev_sound (tab := tab_M_either3) (Os := [(79, cp_M_next), (82, cp_M_isWord), (102, cp_M_both3)]) (Ks := [(5, kc_M_either3_5 (M_either3_L5 n))]) (fin := finI) hG (by omega) rfl (List.forall_mem_cons.mpr ⟨⟨2, by omega, cs_M_next hG⟩, (List.forall_mem_cons.mpr ⟨⟨3, by omega, cs_M_isWord hG⟩, (List.forall_mem_cons.mpr ⟨⟨21, by omega, cs_M_both3 hG⟩, (fun _ h => absurd h List.not_mem_nil)⟩)⟩)⟩) (List.forall_mem_cons.mpr ⟨ih, (fun _ h => absurd h List.not_mem_nil)⟩) tb_M_either3 300 (ab_row tab_M_either3 5) 5 _ _ σ res (ab_row_bk tb_M_either3 5) ((e_M_either3_L5  _ _ _ _).trans h)
      · cases h
    · cases h
theorem lk_M_either3 {l : Launch} {G : ab_Gt} (hG : ab_GG G) {r : Int32} {σ σ' : Sg} (h : M_either3  σ = some (r, σ')) : ab_CO l G 103 (22) [(vR 30 0)] σ (vI r) σ' := by
  obtain ⟨r0, σ2, hR, hf⟩ := ab_ev_sound (tab := tab_M_either3) (Os := [(79, cp_M_next), (82, cp_M_isWord), (102, cp_M_both3)]) (Ks := [(5, kc_M_either3_5 (M_either3_L5 FU))]) (fin := finI) hG (d := 22) (by omega) rfl (List.forall_mem_cons.mpr ⟨⟨2, by omega, cs_M_next hG⟩, (List.forall_mem_cons.mpr ⟨⟨3, by omega, cs_M_isWord hG⟩, (List.forall_mem_cons.mpr ⟨⟨21, by omega, cs_M_both3 hG⟩, (fun _ h => absurd h List.not_mem_nil)⟩)⟩)⟩) (List.forall_mem_cons.mpr ⟨lc_M_either3_L5 hG FU, (fun _ h => absurd h List.not_mem_nil)⟩) tb_M_either3 300 (ab_row tab_M_either3 0) 0 (ab_ini (ab_ml 103) [(vR 30 0)]) [] σ (r, σ') (ab_row_bk tb_M_either3 0) ((e_M_either3 _).trans h)
  obtain ⟨rfl, rfl⟩ := finI_inv hf
  exact ab_met (by decide) rfl (Nat.le_of_ble_eq_true rfl) hR
theorem cs_M_either3 {l : Launch} {G : ab_Gt} (hG : ab_GG G) {R : Type} : ab_CS (R := R) l G 103 (22) cp_M_either3 := by
  intro as σ k res h
  unfold cp_M_either3 at h
  split at h
  · split at h
    · rename_i hb
      simp only [Bool.and_eq_true, Nat.beq_eq] at hb
      obtain ⟨hb1, hb2⟩ := hb
      subst hb1
      subst hb2
      obtain ⟨q, hq, hk⟩ := Option.bind_eq_some_iff.mp h
      exact ⟨_, _, lk_M_either3 hG hq, rfl, (fun _ => Or.inl ⟨rfl, rfl⟩), hk⟩
    · cases h
  · cases h
theorem tb_M_atom2 : ∀ q ∈ tab_M_atom2, ab_bk (ab_mo 104) (ab_mb 104) (ab_ml 104) 1 q.1 q.2 = true := List.all_eq_true.mp (by decide +kernel)
theorem lc_M_atom2_J123 {l : Launch} {G : ab_Gt} (hG : ab_GG G) : ab_KS l G 104 (23) finI 123 (kc_M_atom2_123 (M_atom2_J123)) := by
  intro L st σ res h
  unfold kc_M_atom2_123 at h
  split at h
  · split at h
    · rename_i hb
      simp only [Bool.and_eq_true, Nat.beq_eq] at hb
      obtain ⟨hb1, hb2⟩ := hb
      subst hb1
      subst hb2
      exact ab_ev_sound (tab := tab_M_atom2) (Os := [(79, cp_M_next), (80, cp_M_fail), (83, cp_M_isSign), (84, cp_M_opens), (85, cp_M_name), (98, cp_M_atom3), (103, cp_M_either3)]) (Ks := []) (fin := finI) hG (by omega) rfl (List.forall_mem_cons.mpr ⟨⟨2, by omega, cs_M_next hG⟩, (List.forall_mem_cons.mpr ⟨⟨1, by omega, cs_M_fail hG⟩, (List.forall_mem_cons.mpr ⟨⟨1, by omega, cs_M_isSign hG⟩, (List.forall_mem_cons.mpr ⟨⟨3, by omega, cs_M_opens hG⟩, (List.forall_mem_cons.mpr ⟨⟨4, by omega, cs_M_name hG⟩, (List.forall_mem_cons.mpr ⟨⟨17, by omega, cs_M_atom3 hG⟩, (List.forall_mem_cons.mpr ⟨⟨22, by omega, cs_M_either3 hG⟩, (fun _ h => absurd h List.not_mem_nil)⟩)⟩)⟩)⟩)⟩)⟩)⟩) (fun _ h => absurd h List.not_mem_nil) tb_M_atom2 300 (ab_row tab_M_atom2 123) 123 _ _ σ res (ab_row_bk tb_M_atom2 123) ((e_M_atom2_J123  _ _).trans h)
    · cases h
  · cases h
theorem lc_M_atom2_J71 {l : Launch} {G : ab_Gt} (hG : ab_GG G) : ab_KS l G 104 (23) finI 71 (kc_M_atom2_71 (M_atom2_J71)) := by
  intro L st σ res h
  unfold kc_M_atom2_71 at h
  split at h
  · split at h
    · rename_i hb
      simp only [Bool.and_eq_true, Nat.beq_eq] at hb
      obtain ⟨hb1, hb2⟩ := hb
      subst hb1
      subst hb2
      exact ab_ev_sound (tab := tab_M_atom2) (Os := [(79, cp_M_next), (80, cp_M_fail), (83, cp_M_isSign), (84, cp_M_opens), (85, cp_M_name), (98, cp_M_atom3), (103, cp_M_either3)]) (Ks := []) (fin := finI) hG (by omega) rfl (List.forall_mem_cons.mpr ⟨⟨2, by omega, cs_M_next hG⟩, (List.forall_mem_cons.mpr ⟨⟨1, by omega, cs_M_fail hG⟩, (List.forall_mem_cons.mpr ⟨⟨1, by omega, cs_M_isSign hG⟩, (List.forall_mem_cons.mpr ⟨⟨3, by omega, cs_M_opens hG⟩, (List.forall_mem_cons.mpr ⟨⟨4, by omega, cs_M_name hG⟩, (List.forall_mem_cons.mpr ⟨⟨17, by omega, cs_M_atom3 hG⟩, (List.forall_mem_cons.mpr ⟨⟨22, by omega, cs_M_either3 hG⟩, (fun _ h => absurd h List.not_mem_nil)⟩)⟩)⟩)⟩)⟩)⟩)⟩) (fun _ h => absurd h List.not_mem_nil) tb_M_atom2 300 (ab_row tab_M_atom2 71) 71 _ _ σ res (ab_row_bk tb_M_atom2 71) ((e_M_atom2_J71  _ _).trans h)
    · cases h
  · cases h
theorem lk_M_atom2 {l : Launch} {G : ab_Gt} (hG : ab_GG G) {r : Int32} {σ σ' : Sg} (h : M_atom2  σ = some (r, σ')) : ab_CO l G 104 (23) [(vR 30 0)] σ (vI r) σ' := by
  obtain ⟨r0, σ2, hR, hf⟩ := ab_ev_sound (tab := tab_M_atom2) (Os := [(79, cp_M_next), (80, cp_M_fail), (83, cp_M_isSign), (84, cp_M_opens), (85, cp_M_name), (98, cp_M_atom3), (103, cp_M_either3)]) (Ks := [(71, kc_M_atom2_71 (M_atom2_J71)), (123, kc_M_atom2_123 (M_atom2_J123))]) (fin := finI) hG (d := 23) (by omega) rfl (List.forall_mem_cons.mpr ⟨⟨2, by omega, cs_M_next hG⟩, (List.forall_mem_cons.mpr ⟨⟨1, by omega, cs_M_fail hG⟩, (List.forall_mem_cons.mpr ⟨⟨1, by omega, cs_M_isSign hG⟩, (List.forall_mem_cons.mpr ⟨⟨3, by omega, cs_M_opens hG⟩, (List.forall_mem_cons.mpr ⟨⟨4, by omega, cs_M_name hG⟩, (List.forall_mem_cons.mpr ⟨⟨17, by omega, cs_M_atom3 hG⟩, (List.forall_mem_cons.mpr ⟨⟨22, by omega, cs_M_either3 hG⟩, (fun _ h => absurd h List.not_mem_nil)⟩)⟩)⟩)⟩)⟩)⟩)⟩) (List.forall_mem_cons.mpr ⟨lc_M_atom2_J71 hG, (List.forall_mem_cons.mpr ⟨lc_M_atom2_J123 hG, (fun _ h => absurd h List.not_mem_nil)⟩)⟩) tb_M_atom2 300 (ab_row tab_M_atom2 0) 0 (ab_ini (ab_ml 104) [(vR 30 0)]) [] σ (r, σ') (ab_row_bk tb_M_atom2 0) ((e_M_atom2 _).trans h)
  obtain ⟨rfl, rfl⟩ := finI_inv hf
  exact ab_met (by decide) rfl (Nat.le_of_ble_eq_true rfl) hR
theorem cs_M_atom2 {l : Launch} {G : ab_Gt} (hG : ab_GG G) {R : Type} : ab_CS (R := R) l G 104 (23) cp_M_atom2 := by
  intro as σ k res h
  unfold cp_M_atom2 at h
  split at h
  · split at h
    · rename_i hb
      simp only [Bool.and_eq_true, Nat.beq_eq] at hb
      obtain ⟨hb1, hb2⟩ := hb
      subst hb1
      subst hb2
      obtain ⟨q, hq, hk⟩ := Option.bind_eq_some_iff.mp h
      exact ⟨_, _, lk_M_atom2 hG hq, rfl, (fun _ => Or.inl ⟨rfl, rfl⟩), hk⟩
    · cases h
  · cases h
theorem tb_M_term2 : ∀ q ∈ tab_M_term2, ab_bk (ab_mo 105) (ab_mb 105) (ab_ml 105) 1 q.1 q.2 = true := List.all_eq_true.mp (by decide +kernel)
theorem lc_M_term2_L5 {l : Launch} {G : ab_Gt} (hG : ab_GG G) : ∀ n : Nat, ab_KS l G 105 (24) finI 5 (kc_M_term2_5 (M_term2_L5 n)) := by
  intro n
  induction n with
  | zero =>
    intro L st σ res h
    unfold kc_M_term2_5 at h
    split at h
    · split at h
      · rename_i hb
        simp only [Bool.and_eq_true, Nat.beq_eq] at hb
        obtain ⟨hb1, hb2⟩ := hb
        subst hb1
        subst hb2
        exact absurd (show none = some res from h) (fun h => by cases h)
      · cases h
    · cases h
  | succ n ih =>
    intro L st σ res h
    unfold kc_M_term2_5 at h
    split at h
    · split at h
      · rename_i hb
        simp only [Bool.and_eq_true, Nat.beq_eq] at hb
        obtain ⟨hb1, hb2⟩ := hb
        subst hb1
        subst hb2
        exact ab_ev_sound (tab := tab_M_term2) (Os := [(79, cp_M_next), (83, cp_M_isSign), (104, cp_M_atom2)]) (Ks := [(5, kc_M_term2_5 (M_term2_L5 n))]) (fin := finI) hG (by omega) rfl (List.forall_mem_cons.mpr ⟨⟨2, by omega, cs_M_next hG⟩, (List.forall_mem_cons.mpr ⟨⟨1, by omega, cs_M_isSign hG⟩, (List.forall_mem_cons.mpr ⟨⟨23, by omega, cs_M_atom2 hG⟩, (fun _ h => absurd h List.not_mem_nil)⟩)⟩)⟩) (List.forall_mem_cons.mpr ⟨ih, (fun _ h => absurd h List.not_mem_nil)⟩) tb_M_term2 300 (ab_row tab_M_term2 5) 5 _ _ σ res (ab_row_bk tb_M_term2 5) ((e_M_term2_L5  _ _ _).trans h)
      · cases h
    · cases h
theorem lk_M_term2 {l : Launch} {G : ab_Gt} (hG : ab_GG G) {r : Int32} {σ σ' : Sg} (h : M_term2  σ = some (r, σ')) : ab_CO l G 105 (24) [(vR 30 0)] σ (vI r) σ' := by
  obtain ⟨r0, σ2, hR, hf⟩ := ab_ev_sound (tab := tab_M_term2) (Os := [(79, cp_M_next), (83, cp_M_isSign), (104, cp_M_atom2)]) (Ks := [(5, kc_M_term2_5 (M_term2_L5 FU))]) (fin := finI) hG (d := 24) (by omega) rfl (List.forall_mem_cons.mpr ⟨⟨2, by omega, cs_M_next hG⟩, (List.forall_mem_cons.mpr ⟨⟨1, by omega, cs_M_isSign hG⟩, (List.forall_mem_cons.mpr ⟨⟨23, by omega, cs_M_atom2 hG⟩, (fun _ h => absurd h List.not_mem_nil)⟩)⟩)⟩) (List.forall_mem_cons.mpr ⟨lc_M_term2_L5 hG FU, (fun _ h => absurd h List.not_mem_nil)⟩) tb_M_term2 300 (ab_row tab_M_term2 0) 0 (ab_ini (ab_ml 105) [(vR 30 0)]) [] σ (r, σ') (ab_row_bk tb_M_term2 0) ((e_M_term2 _).trans h)
  obtain ⟨rfl, rfl⟩ := finI_inv hf
  exact ab_met (by decide) rfl (Nat.le_of_ble_eq_true rfl) hR
theorem cs_M_term2 {l : Launch} {G : ab_Gt} (hG : ab_GG G) {R : Type} : ab_CS (R := R) l G 105 (24) cp_M_term2 := by
  intro as σ k res h
  unfold cp_M_term2 at h
  split at h
  · split at h
    · rename_i hb
      simp only [Bool.and_eq_true, Nat.beq_eq] at hb
      obtain ⟨hb1, hb2⟩ := hb
      subst hb1
      subst hb2
      obtain ⟨q, hq, hk⟩ := Option.bind_eq_some_iff.mp h
      exact ⟨_, _, lk_M_term2 hG hq, rfl, (fun _ => Or.inl ⟨rfl, rfl⟩), hk⟩
    · cases h
  · cases h
