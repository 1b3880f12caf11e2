theorem tb_M_coats : ∀ q ∈ tab_M_coats, ab_bk (ab_mo 174) (ab_mb 174) (ab_ml 174) 1 q.1 q.2 = true := List.all_eq_true.mp (by decide +kernel)
theorem lc_M_coats_L75 {l : Launch} {G : ab_Gt} (hG : ab_GG G) : ∀ n : Nat, ab_KS l G 174 (3) finI 75 (kc_M_coats_75 (M_coats_L75 n)) := by
  intro n
  induction n with
  | zero =>
    intro L st σ res h
    unfold kc_M_coats_75 at h
    split at h
    · split at h
      · rename_i hb
        simp only [Bool.and_eq_true, Nat.beq_eq] at hb
        obtain ⟨hb1, hb2⟩ := hb
        subst hb1
        subst hb2
        exact absurd (show none = some res from h) (fun h => by cases h)
      · cases h
    · cases h
  | succ n ih =>
    intro L st σ res h
    unfold kc_M_coats_75 at h
    split at h
    · split at h
      · rename_i hb
        simp only [Bool.and_eq_true, Nat.beq_eq] at hb
        obtain ⟨hb1, hb2⟩ := hb
        subst hb1
        subst hb2
        exact ab_ev_sound (tab := tab_M_coats) (Os := [(65, cp_M_in), (75, cp_M_coat), (170, cp_M_isSheet)]) (Ks := [(75, kc_M_coats_75 (M_coats_L75 n))]) (fin := finI) hG (by omega) rfl (List.forall_mem_cons.mpr ⟨⟨1, by omega, cs_M_in hG⟩, (List.forall_mem_cons.mpr ⟨⟨2, by omega, cs_M_coat hG⟩, (List.forall_mem_cons.mpr ⟨⟨2, by omega, cs_M_isSheet hG⟩, (fun _ h => absurd h List.not_mem_nil)⟩)⟩)⟩) (List.forall_mem_cons.mpr ⟨ih, (fun _ h => absurd h List.not_mem_nil)⟩) tb_M_coats 300 (ab_row tab_M_coats 75) 75 _ _ σ res (ab_row_bk tb_M_coats 75) ((e_M_coats_L75  _ _ _ _ _ _ _ _ _).trans h)
      · cases h
    · cases h
theorem lk_M_coats {l : Launch} {G : ab_Gt} (hG : ab_GG G) {p1 : Int32} {p2 : Int32} {p3 : Int32} {p4 : Int32} {r : Int32} {σ σ' : Sg} (h : M_coats p1 p2 p3 p4 σ = some (r, σ')) : ab_CO l G 174 (3) [(vR 30 0), (.inl p1), (.inl p2), (.inl p3), (.inl p4)] σ (vI r) σ' := by
  obtain ⟨r0, σ2, hR, hf⟩ := ab_ev_sound (tab := tab_M_coats) (Os := [(65, cp_M_in), (75, cp_M_coat), (170, cp_M_isSheet)]) (Ks := [(75, kc_M_coats_75 (M_coats_L75 FU))]) (fin := finI) hG (d := 3) (by omega) rfl (List.forall_mem_cons.mpr ⟨⟨1, by omega, cs_M_in hG⟩, (List.forall_mem_cons.mpr ⟨⟨2, by omega, cs_M_coat hG⟩, (List.forall_mem_cons.mpr ⟨⟨2, by omega, cs_M_isSheet hG⟩, (fun _ h => absurd h List.not_mem_nil)⟩)⟩)⟩) (List.forall_mem_cons.mpr ⟨lc_M_coats_L75 hG FU, (fun _ h => absurd h List.not_mem_nil)⟩) tb_M_coats 300 (ab_row tab_M_coats 0) 0 (ab_ini (ab_ml 174) [(vR 30 0), (.inl p1), (.inl p2), (.inl p3), (.inl p4)]) [] σ (r, σ') (ab_row_bk tb_M_coats 0) ((e_M_coats _ _ _ _ _).trans h)
  obtain ⟨rfl, rfl⟩ := finI_inv hf
  exact ab_met (by decide) rfl (Nat.le_of_ble_eq_true rfl) hR
theorem cs_M_coats {l : Launch} {G : ab_Gt} (hG : ab_GG G) {R : Type} : ab_CS (R := R) l G 174 (3) cp_M_coats := by
  intro as σ k res h
  unfold cp_M_coats at h
  split at h
  · split at h
    · rename_i hb
      simp only [Bool.and_eq_true, Nat.beq_eq] at hb
      obtain ⟨hb1, hb2⟩ := hb
      subst hb1
      subst hb2
      obtain ⟨q, hq, hk⟩ := Option.bind_eq_some_iff.mp h
      exact ⟨_, _, lk_M_coats hG hq, rfl, (fun _ => Or.inl ⟨rfl, rfl⟩), hk⟩
    · cases h
  · cases h
theorem tb_M_over : ∀ q ∈ tab_M_over, ab_bk (ab_mo 175) (ab_mb 175) (ab_ml 175) 1 q.1 q.2 = true := List.all_eq_true.mp (by decide +kernel)
theorem lk_M_over {l : Launch} {G : ab_Gt} (hG : ab_GG G) {p0 : Int32} {r : Int32} {σ σ' : Sg} (h : M_over p0 σ = some (r, σ')) : ab_CO l G 175 (1) [(.inl p0)] σ (vI r) σ' := by
  obtain ⟨r0, σ2, hR, hf⟩ := ab_ev_sound (tab := tab_M_over) (Os := []) (Ks := []) (fin := finI) hG (d := 1) (by omega) rfl (fun _ h => absurd h List.not_mem_nil) (fun _ h => absurd h List.not_mem_nil) tb_M_over 300 (ab_row tab_M_over 0) 0 (ab_ini (ab_ml 175) [(.inl p0)]) [] σ (r, σ') (ab_row_bk tb_M_over 0) ((e_M_over _ _).trans h)
  obtain ⟨rfl, rfl⟩ := finI_inv hf
  exact ab_met (by decide) rfl (Nat.le_of_ble_eq_true rfl) hR
theorem cs_M_over {l : Launch} {G : ab_Gt} (hG : ab_GG G) {R : Type} : ab_CS (R := R) l G 175 (1) cp_M_over := by
  intro as σ k res h
  unfold cp_M_over at h
  split at h
  · obtain ⟨q, hq, hk⟩ := Option.bind_eq_some_iff.mp h
    exact ⟨_, _, lk_M_over hG hq, rfl, (fun h => by cases h), hk⟩
  · cases h
theorem tb_M_taken : ∀ q ∈ tab_M_taken, ab_bk (ab_mo 176) (ab_mb 176) (ab_ml 176) 1 q.1 q.2 = true := List.all_eq_true.mp (by decide +kernel)
theorem lc_M_taken_J51 {l : Launch} {G : ab_Gt} (hG : ab_GG G) : ab_KS l G 176 (3) finI 51 (kc_M_taken_51 (M_taken_J51)) := by
  intro L st σ res h
  unfold kc_M_taken_51 at h
  split at h
  · split at h
    · rename_i hb
      simp only [Bool.and_eq_true, Nat.beq_eq] at hb
      obtain ⟨hb1, hb2⟩ := hb
      subst hb1
      subst hb2
      exact ab_ev_sound (tab := tab_M_taken) (Os := [(65, cp_M_in), (67, cp_M_isCoat), (175, cp_M_over)]) (Ks := []) (fin := finI) hG (by omega) rfl (List.forall_mem_cons.mpr ⟨⟨1, by omega, cs_M_in hG⟩, (List.forall_mem_cons.mpr ⟨⟨2, by omega, cs_M_isCoat hG⟩, (List.forall_mem_cons.mpr ⟨⟨1, by omega, cs_M_over hG⟩, (fun _ h => absurd h List.not_mem_nil)⟩)⟩)⟩) (fun _ h => absurd h List.not_mem_nil) tb_M_taken 300 (ab_row tab_M_taken 51) 51 _ _ σ res (ab_row_bk tb_M_taken 51) ((e_M_taken_J51  _ _ _ _).trans h)
    · cases h
  · cases h
theorem lc_M_taken_L33 {l : Launch} {G : ab_Gt} (hG : ab_GG G) : ∀ n : Nat, ab_KS l G 176 (3) finI 33 (kc_M_taken_33 (M_taken_L33 n)) := by
  intro n
  induction n with
  | zero =>
    intro L st σ res h
    unfold kc_M_taken_33 at h
    split at h
    · split at h
      · rename_i hb
        simp only [Bool.and_eq_true, Nat.beq_eq] at hb
        obtain ⟨hb1, hb2⟩ := hb
        subst hb1
        subst hb2
        exact absurd (show none = some res from h) (fun h => by cases h)
      · cases h
    · cases h
  | succ n ih =>
    intro L st σ res h
    unfold kc_M_taken_33 at h
    split at h
    · split at h
      · rename_i hb
        simp only [Bool.and_eq_true, Nat.beq_eq] at hb
        obtain ⟨hb1, hb2⟩ := hb
        subst hb1
        subst hb2
        exact ab_ev_sound (tab := tab_M_taken) (Os := [(65, cp_M_in), (67, cp_M_isCoat), (175, cp_M_over)]) (Ks := [(33, kc_M_taken_33 (M_taken_L33 n)), (51, kc_M_taken_51 (M_taken_J51))]) (fin := finI) hG (by omega) rfl (List.forall_mem_cons.mpr ⟨⟨1, by omega, cs_M_in hG⟩, (List.forall_mem_cons.mpr ⟨⟨2, by omega, cs_M_isCoat hG⟩, (List.forall_mem_cons.mpr ⟨⟨1, by omega, cs_M_over hG⟩, (fun _ h => absurd h List.not_mem_nil)⟩)⟩)⟩) (List.forall_mem_cons.mpr ⟨ih, (List.forall_mem_cons.mpr ⟨lc_M_taken_J51 hG, (fun _ h => absurd h List.not_mem_nil)⟩)⟩) tb_M_taken 300 (ab_row tab_M_taken 33) 33 _ _ σ res (ab_row_bk tb_M_taken 33) ((e_M_taken_L33  _ _ _ _ _).trans h)
      · cases h
    · cases h
theorem lk_M_taken {l : Launch} {G : ab_Gt} (hG : ab_GG G) {p1 : Int32} {p2 : Int32} {r : Int32} {σ σ' : Sg} (h : M_taken p1 p2 σ = some (r, σ')) : ab_CO l G 176 (3) [(vR 30 0), (.inl p1), (.inl p2)] σ (vI r) σ' := by
  obtain ⟨r0, σ2, hR, hf⟩ := ab_ev_sound (tab := tab_M_taken) (Os := [(65, cp_M_in), (67, cp_M_isCoat), (175, cp_M_over)]) (Ks := [(33, kc_M_taken_33 (M_taken_L33 FU))]) (fin := finI) hG (d := 3) (by omega) rfl (List.forall_mem_cons.mpr ⟨⟨1, by omega, cs_M_in hG⟩, (List.forall_mem_cons.mpr ⟨⟨2, by omega, cs_M_isCoat hG⟩, (List.forall_mem_cons.mpr ⟨⟨1, by omega, cs_M_over hG⟩, (fun _ h => absurd h List.not_mem_nil)⟩)⟩)⟩) (List.forall_mem_cons.mpr ⟨lc_M_taken_L33 hG FU, (fun _ h => absurd h List.not_mem_nil)⟩) tb_M_taken 300 (ab_row tab_M_taken 0) 0 (ab_ini (ab_ml 176) [(vR 30 0), (.inl p1), (.inl p2)]) [] σ (r, σ') (ab_row_bk tb_M_taken 0) ((e_M_taken _ _ _).trans h)
  obtain ⟨rfl, rfl⟩ := finI_inv hf
  exact ab_met (by decide) rfl (Nat.le_of_ble_eq_true rfl) hR
theorem cs_M_taken {l : Launch} {G : ab_Gt} (hG : ab_GG G) {R : Type} : ab_CS (R := R) l G 176 (3) cp_M_taken := by
  intro as σ k res h
  unfold cp_M_taken at h
  split at h
  · split at h
    · rename_i hb
      simp only [Bool.and_eq_true, Nat.beq_eq] at hb
      obtain ⟨hb1, hb2⟩ := hb
      subst hb1
      subst hb2
      obtain ⟨q, hq, hk⟩ := Option.bind_eq_some_iff.mp h
      exact ⟨_, _, lk_M_taken hG hq, rfl, (fun _ => Or.inl ⟨rfl, rfl⟩), hk⟩
    · cases h
  · cases h
