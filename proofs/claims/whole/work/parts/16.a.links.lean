theorem tb_X_isOne : ∀ q ∈ tab_X_isOne, ab_bk (ab_mo 29) (ab_mb 29) (ab_ml 29) 3 q.1 q.2 = true := List.all_eq_true.mp (by decide +kernel)
theorem lk_X_isOne {l : Launch} {G : ab_Gt} (hG : ab_GG G) {p0 : Int32} {r : Int32} {σ σ' : Sg} (h : X_isOne p0 σ = some (r, σ')) : ab_CO l G 29 (1) [(.inl p0)] σ (vI r) σ' := by
  obtain ⟨r0, σ2, hR, hf⟩ := ab_ev_sound (tab := tab_X_isOne) (Os := []) (Ks := []) (fin := finI) hG (d := 1) (by omega) rfl (fun _ h => absurd h List.not_mem_nil) (fun _ h => absurd h List.not_mem_nil) tb_X_isOne 300 (ab_row tab_X_isOne 0) 0 (ab_ini (ab_ml 29) [(.inl p0)]) [] σ (r, σ') (ab_row_bk tb_X_isOne 0) ((e_X_isOne _ _).trans h)
  obtain ⟨rfl, rfl⟩ := finI_inv hf
  exact ab_met (by decide) rfl (Nat.le_of_ble_eq_true rfl) hR
theorem cs_X_isOne {l : Launch} {G : ab_Gt} (hG : ab_GG G) {R : Type} : ab_CS (R := R) l G 29 (1) cp_X_isOne := by
  intro as σ k res h
  unfold cp_X_isOne at h
  split at h
  · obtain ⟨q, hq, hk⟩ := Option.bind_eq_some_iff.mp h
    exact ⟨_, _, lk_X_isOne hG hq, rfl, (fun h => by cases h), hk⟩
  · cases h
theorem tb_X_isHour : ∀ q ∈ tab_X_isHour, ab_bk (ab_mo 30) (ab_mb 30) (ab_ml 30) 3 q.1 q.2 = true := List.all_eq_true.mp (by decide +kernel)
theorem lk_X_isHour {l : Launch} {G : ab_Gt} (hG : ab_GG G) {p0 : Int32} {r : Int32} {σ σ' : Sg} (h : X_isHour p0 σ = some (r, σ')) : ab_CO l G 30 (1) [(.inl p0)] σ (vI r) σ' := by
  obtain ⟨r0, σ2, hR, hf⟩ := ab_ev_sound (tab := tab_X_isHour) (Os := []) (Ks := []) (fin := finI) hG (d := 1) (by omega) rfl (fun _ h => absurd h List.not_mem_nil) (fun _ h => absurd h List.not_mem_nil) tb_X_isHour 300 (ab_row tab_X_isHour 0) 0 (ab_ini (ab_ml 30) [(.inl p0)]) [] σ (r, σ') (ab_row_bk tb_X_isHour 0) ((e_X_isHour _ _).trans h)
  obtain ⟨rfl, rfl⟩ := finI_inv hf
  exact ab_met (by decide) rfl (Nat.le_of_ble_eq_true rfl) hR
theorem cs_X_isHour {l : Launch} {G : ab_Gt} (hG : ab_GG G) {R : Type} : ab_CS (R := R) l G 30 (1) cp_X_isHour := by
  intro as σ k res h
  unfold cp_X_isHour at h
  split at h
  · obtain ⟨q, hq, hk⟩ := Option.bind_eq_some_iff.mp h
    exact ⟨_, _, lk_X_isHour hG hq, rfl, (fun h => by cases h), hk⟩
  · cases h
theorem tb_X_isPlace : ∀ q ∈ tab_X_isPlace, ab_bk (ab_mo 31) (ab_mb 31) (ab_ml 31) 3 q.1 q.2 = true := List.all_eq_true.mp (by decide +kernel)
theorem lk_X_isPlace {l : Launch} {G : ab_Gt} (hG : ab_GG G) {p0 : Int32} {r : Int32} {σ σ' : Sg} (h : X_isPlace p0 σ = some (r, σ')) : ab_CO l G 31 (2) [(.inl p0)] σ (vI r) σ' := by
  obtain ⟨r0, σ2, hR, hf⟩ := ab_ev_sound (tab := tab_X_isPlace) (Os := [(29, cp_X_isOne), (30, cp_X_isHour)]) (Ks := []) (fin := finI) hG (d := 2) (by omega) rfl (List.forall_mem_cons.mpr ⟨⟨1, by omega, cs_X_isOne hG⟩, (List.forall_mem_cons.mpr ⟨⟨1, by omega, cs_X_isHour hG⟩, (fun _ h => absurd h List.not_mem_nil)⟩)⟩) (fun _ h => absurd h List.not_mem_nil) tb_X_isPlace 300 (ab_row tab_X_isPlace 0) 0 (ab_ini (ab_ml 31) [(.inl p0)]) [] σ (r, σ') (ab_row_bk tb_X_isPlace 0) ((e_X_isPlace _ _).trans h)
  obtain ⟨rfl, rfl⟩ := finI_inv hf
  exact ab_met (by decide) rfl (Nat.le_of_ble_eq_true rfl) hR
theorem cs_X_isPlace {l : Launch} {G : ab_Gt} (hG : ab_GG G) {R : Type} : ab_CS (R := R) l G 31 (2) cp_X_isPlace := by
  intro as σ k res h
  unfold cp_X_isPlace at h
  split at h
  · obtain ⟨q, hq, hk⟩ := Option.bind_eq_some_iff.mp h
    exact ⟨_, _, lk_X_isPlace hG hq, rfl, (fun h => by cases h), hk⟩
  · cases h
theorem tb_X_moodAt : ∀ q ∈ tab_X_moodAt, ab_bk (ab_mo 38) (ab_mb 38) (ab_ml 38) 1 q.1 q.2 = true := List.all_eq_true.mp (by decide +kernel)
theorem lk_X_moodAt {l : Launch} {G : ab_Gt} (hG : ab_GG G) {p1 : Int32} {p2 : Int32} {r : Int32} {σ σ' : Sg} (h : X_moodAt p1 p2 σ = some (r, σ')) : ab_CO l G 38 (2) [(vR 0 0), (.inl p1), (.inl p2)] σ (vI r) σ' := by
  obtain ⟨r0, σ2, hR, hf⟩ := ab_ev_sound (tab := tab_X_moodAt) (Os := [(29, cp_X_isOne), (30, cp_X_isHour)]) (Ks := []) (fin := finI) hG (d := 2) (by omega) rfl (List.forall_mem_cons.mpr ⟨⟨1, by omega, cs_X_isOne hG⟩, (List.forall_mem_cons.mpr ⟨⟨1, by omega, cs_X_isHour hG⟩, (fun _ h => absurd h List.not_mem_nil)⟩)⟩) (fun _ h => absurd h List.not_mem_nil) tb_X_moodAt 300 (ab_row tab_X_moodAt 0) 0 (ab_ini (ab_ml 38) [(vR 0 0), (.inl p1), (.inl p2)]) [] σ (r, σ') (ab_row_bk tb_X_moodAt 0) ((e_X_moodAt _ _ _).trans h)
  obtain ⟨rfl, rfl⟩ := finI_inv hf
  exact ab_met (by decide) rfl (Nat.le_of_ble_eq_true rfl) hR
theorem cs_X_moodAt {l : Launch} {G : ab_Gt} (hG : ab_GG G) {R : Type} : ab_CS (R := R) l G 38 (2) cp_X_moodAt := by
  intro as σ k res h
  unfold cp_X_moodAt at h
  split at h
  · split at h
    · rename_i hb
      simp only [Bool.and_eq_true, Nat.beq_eq] at hb
      obtain ⟨hb1, hb2⟩ := hb
      subst hb1
      subst hb2
      obtain ⟨q, hq, hk⟩ := Option.bind_eq_some_iff.mp h
      exact ⟨_, _, lk_X_moodAt hG hq, rfl, (fun _ => Or.inl ⟨rfl, rfl⟩), hk⟩
    · cases h
  · cases h
theorem tb_X_giveMood : ∀ q ∈ tab_X_giveMood, ab_bk (ab_mo 39) (ab_mb 39) (ab_ml 39) 0 q.1 q.2 = true := List.all_eq_true.mp (by decide +kernel)
theorem lk_X_giveMood {l : Launch} {G : ab_Gt} (hG : ab_GG G) {p1 : Int32} {p2 : Int32} {p3 : Int32} {σ σ' : Sg} (h : X_giveMood p1 p2 p3 σ = some σ') : ab_CO l G 39 (2) [(vR 0 0), (.inl p1), (.inl p2), (.inl p3)] σ vU σ' := by
  obtain ⟨r0, σ2, hR, hf⟩ := ab_ev_sound (tab := tab_X_giveMood) (Os := [(29, cp_X_isOne), (30, cp_X_isHour)]) (Ks := []) (fin := finV) hG (d := 2) (by omega) rfl (List.forall_mem_cons.mpr ⟨⟨1, by omega, cs_X_isOne hG⟩, (List.forall_mem_cons.mpr ⟨⟨1, by omega, cs_X_isHour hG⟩, (fun _ h => absurd h List.not_mem_nil)⟩)⟩) (fun _ h => absurd h List.not_mem_nil) tb_X_giveMood 300 (ab_row tab_X_giveMood 0) 0 (ab_ini (ab_ml 39) [(vR 0 0), (.inl p1), (.inl p2), (.inl p3)]) [] σ σ' (ab_row_bk tb_X_giveMood 0) ((e_X_giveMood _ _ _ _).trans h)
  obtain ⟨rfl, rfl⟩ := finV_inv hf
  exact ab_met (by decide) rfl (Nat.le_of_ble_eq_true rfl) hR
theorem cs_X_giveMood {l : Launch} {G : ab_Gt} (hG : ab_GG G) {R : Type} : ab_CS (R := R) l G 39 (2) cp_X_giveMood := by
  intro as σ k res h
  unfold cp_X_giveMood at h
  split at h
  · split at h
    · rename_i hb
      simp only [Bool.and_eq_true, Nat.beq_eq] at hb
      obtain ⟨hb1, hb2⟩ := hb
      subst hb1
      subst hb2
      obtain ⟨q, hq, hk⟩ := Option.bind_eq_some_iff.mp h
      exact ⟨_, _, lk_X_giveMood hG hq, rfl, (fun _ => Or.inl ⟨rfl, rfl⟩), hk⟩
    · cases h
  · cases h
theorem tb_X_setMood : ∀ q ∈ tab_X_setMood, ab_bk (ab_mo 1) (ab_mb 1) (ab_ml 1) 1 q.1 q.2 = true := List.all_eq_true.mp (by decide +kernel)
theorem lk_X_setMood {l : Launch} {G : ab_Gt} (hG : ab_GG G) {p1 : Int32} {p2 : Int32} {r : Int32} {σ σ' : Sg} (h : X_setMood p1 p2 σ = some (r, σ')) : ab_CO l G 1 (3) [(vR 0 0), (.inl p1), (.inl p2)] σ (vI r) σ' := by
  obtain ⟨r0, σ2, hR, hf⟩ := ab_ev_sound (tab := tab_X_setMood) (Os := [(31, cp_X_isPlace), (38, cp_X_moodAt), (39, cp_X_giveMood)]) (Ks := []) (fin := finI) hG (d := 3) (by omega) rfl (List.forall_mem_cons.mpr ⟨⟨2, by omega, cs_X_isPlace hG⟩, (List.forall_mem_cons.mpr ⟨⟨2, by omega, cs_X_moodAt hG⟩, (List.forall_mem_cons.mpr ⟨⟨2, by omega, cs_X_giveMood hG⟩, (fun _ h => absurd h List.not_mem_nil)⟩)⟩)⟩) (fun _ h => absurd h List.not_mem_nil) tb_X_setMood 300 (ab_row tab_X_setMood 0) 0 (ab_ini (ab_ml 1) [(vR 0 0), (.inl p1), (.inl p2)]) [] σ (r, σ') (ab_row_bk tb_X_setMood 0) ((e_X_setMood _ _ _).trans h)
  obtain ⟨rfl, rfl⟩ := finI_inv hf
  exact ab_met (by decide) rfl (Nat.le_of_ble_eq_true rfl) hR
theorem cs_X_setMood {l : Launch} {G : ab_Gt} (hG : ab_GG G) {R : Type} : ab_CS (R := R) l G 1 (3) cp_X_setMood := by
  intro as σ k res h
  unfold cp_X_setMood at h
  split at h
  · split at h
    · rename_i hb
      simp only [Bool.and_eq_true, Nat.beq_eq] at hb
      obtain ⟨hb1, hb2⟩ := hb
      subst hb1
      subst hb2
      obtain ⟨q, hq, hk⟩ := Option.bind_eq_some_iff.mp h
      exact ⟨_, _, lk_X_setMood hG hq, rfl, (fun _ => Or.inl ⟨rfl, rfl⟩), hk⟩
    · cases h
  · cases h
theorem tb_X_isCoat : ∀ q ∈ tab_X_isCoat, ab_bk (ab_mo 32) (ab_mb 32) (ab_ml 32) 3 q.1 q.2 = true := List.all_eq_true.mp (by decide +kernel)
theorem lk_X_isCoat {l : Launch} {G : ab_Gt} (hG : ab_GG G) {p1 : Int32} {r : Int32} {σ σ' : Sg} (h : X_isCoat p1 σ = some (r, σ')) : ab_CO l G 32 (1) [(vR 0 0), (.inl p1)] σ (vI r) σ' := by
  obtain ⟨r0, σ2, hR, hf⟩ := ab_ev_sound (tab := tab_X_isCoat) (Os := []) (Ks := []) (fin := finI) hG (d := 1) (by omega) rfl (fun _ h => absurd h List.not_mem_nil) (fun _ h => absurd h List.not_mem_nil) tb_X_isCoat 300 (ab_row tab_X_isCoat 0) 0 (ab_ini (ab_ml 32) [(vR 0 0), (.inl p1)]) [] σ (r, σ') (ab_row_bk tb_X_isCoat 0) ((e_X_isCoat _ _).trans h)
  obtain ⟨rfl, rfl⟩ := finI_inv hf
  exact ab_met (by decide) rfl (Nat.le_of_ble_eq_true rfl) hR
theorem cs_X_isCoat {l : Launch} {G : ab_Gt} (hG : ab_GG G) {R : Type} : ab_CS (R := R) l G 32 (1) cp_X_isCoat := by
  intro as σ k res h
  unfold cp_X_isCoat at h
  split at h
  · split at h
    · rename_i hb
      simp only [Bool.and_eq_true, Nat.beq_eq] at hb
      obtain ⟨hb1, hb2⟩ := hb
      subst hb1
      subst hb2
      obtain ⟨q, hq, hk⟩ := Option.bind_eq_some_iff.mp h
      exact ⟨_, _, lk_X_isCoat hG hq, rfl, (fun _ => Or.inl ⟨rfl, rfl⟩), hk⟩
    · cases h
  · cases h
theorem tb_X_mostOf : ∀ q ∈ tab_X_mostOf, ab_bk (ab_mo 35) (ab_mb 35) (ab_ml 35) 1 q.1 q.2 = true := List.all_eq_true.mp (by decide +kernel)
theorem lk_X_mostOf {l : Launch} {G : ab_Gt} (hG : ab_GG G) {p0 : Int32} {r : Int32} {σ σ' : Sg} (h : X_mostOf p0 σ = some (r, σ')) : ab_CO l G 35 (1) [(.inl p0)] σ (vI r) σ' := by
  obtain ⟨r0, σ2, hR, hf⟩ := ab_ev_sound (tab := tab_X_mostOf) (Os := []) (Ks := []) (fin := finI) hG (d := 1) (by omega) rfl (fun _ h => absurd h List.not_mem_nil) (fun _ h => absurd h List.not_mem_nil) tb_X_mostOf 300 (ab_row tab_X_mostOf 0) 0 (ab_ini (ab_ml 35) [(.inl p0)]) [] σ (r, σ') (ab_row_bk tb_X_mostOf 0) ((e_X_mostOf _ _).trans h)
  obtain ⟨rfl, rfl⟩ := finI_inv hf
  exact ab_met (by decide) rfl (Nat.le_of_ble_eq_true rfl) hR
theorem cs_X_mostOf {l : Launch} {G : ab_Gt} (hG : ab_GG G) {R : Type} : ab_CS (R := R) l G 35 (1) cp_X_mostOf := by
  intro as σ k res h
  unfold cp_X_mostOf at h
  split at h
  · obtain ⟨q, hq, hk⟩ := Option.bind_eq_some_iff.mp h
    exact ⟨_, _, lk_X_mostOf hG hq, rfl, (fun h => by cases h), hk⟩
  · cases h
theorem tb_Coat_trait : ∀ q ∈ tab_Coat_trait, ab_bk (ab_mo 179) (ab_mb 179) (ab_ml 179) 1 q.1 q.2 = true := List.all_eq_true.mp (by decide +kernel)
theorem lk_Coat_trait {l : Launch} {G : ab_Gt} (hG : ab_GG G) {p0 : Nat} {p1 : Int32} {r : Int32} {σ σ' : Sg} (h : Coat_trait p0 p1 σ = some (r, σ')) : ab_CO l G 179 (1) [(vR 1 p0), (.inl p1)] σ (vI r) σ' := by
  obtain ⟨r0, σ2, hR, hf⟩ := ab_ev_sound (tab := tab_Coat_trait) (Os := []) (Ks := []) (fin := finI) hG (d := 1) (by omega) rfl (fun _ h => absurd h List.not_mem_nil) (fun _ h => absurd h List.not_mem_nil) tb_Coat_trait 300 (ab_row tab_Coat_trait 0) 0 (ab_ini (ab_ml 179) [(vR 1 p0), (.inl p1)]) [] σ (r, σ') (ab_row_bk tb_Coat_trait 0) ((e_Coat_trait _ _ _).trans h)
  obtain ⟨rfl, rfl⟩ := finI_inv hf
  exact ab_met (by decide) rfl (Nat.le_of_ble_eq_true rfl) hR
theorem cs_Coat_trait {l : Launch} {G : ab_Gt} (hG : ab_GG G) {R : Type} : ab_CS (R := R) l G 179 (1) cp_Coat_trait := by
  intro as σ k res h
  unfold cp_Coat_trait at h
  split at h
  · split at h
    · rename_i hb
      simp only [Bool.and_eq_true, Nat.beq_eq] at hb
      subst hb
      obtain ⟨q, hq, hk⟩ := Option.bind_eq_some_iff.mp h
      exact ⟨_, _, lk_Coat_trait hG hq, rfl, (fun _ => Or.inl ⟨rfl, rfl⟩), hk⟩
    · cases h
  · cases h
theorem tb_Coat_giveTrait : ∀ q ∈ tab_Coat_giveTrait, ab_bk (ab_mo 180) (ab_mb 180) (ab_ml 180) 0 q.1 q.2 = true := List.all_eq_true.mp (by decide +kernel)
theorem lc_Coat_giveTrait_J20 {l : Launch} {G : ab_Gt} (hG : ab_GG G) : ab_KS l G 180 (1) finV 20 (kc_Coat_giveTrait_20 (Coat_giveTrait_J20)) := by
  intro L st σ res h
  unfold kc_Coat_giveTrait_20 at h
  split at h
  · split at h
    · rename_i hb
      simp only [Bool.and_eq_true, Nat.beq_eq] at hb
      subst hb
      exact ab_ev_sound (tab := tab_Coat_giveTrait) (Os := []) (Ks := []) (fin := finV) hG (by omega) rfl (fun _ h => absurd h List.not_mem_nil) (fun _ h => absurd h List.not_mem_nil) tb_Coat_giveTrait 300 (ab_row tab_Coat_giveTrait 20) 20 _ _ σ res (ab_row_bk tb_Coat_giveTrait 20) ((e_Coat_giveTrait_J20  _ _ _ _).trans h)
    · cases h
  · cases h
theorem lc_Coat_giveTrait_J10 {l : Launch} {G : ab_Gt} (hG : ab_GG G) : ab_KS l G 180 (1) finV 10 (kc_Coat_giveTrait_10 (Coat_giveTrait_J10)) := by
  intro L st σ res h
  unfold kc_Coat_giveTrait_10 at h
  split at h
  · split at h
    · rename_i hb
      simp only [Bool.and_eq_true, Nat.beq_eq] at hb
      subst hb
      exact ab_ev_sound (tab := tab_Coat_giveTrait) (Os := []) (Ks := [(20, kc_Coat_giveTrait_20 (Coat_giveTrait_J20))]) (fin := finV) hG (by omega) rfl (fun _ h => absurd h List.not_mem_nil) (List.forall_mem_cons.mpr ⟨lc_Coat_giveTrait_J20 hG, (fun _ h => absurd h List.not_mem_nil)⟩) tb_Coat_giveTrait 300 (ab_row tab_Coat_giveTrait 10) 10 _ _ σ res (ab_row_bk tb_Coat_giveTrait 10) ((e_Coat_giveTrait_J10  _ _ _ _).trans h)
    · cases h
  · cases h
theorem lk_Coat_giveTrait {l : Launch} {G : ab_Gt} (hG : ab_GG G) {p0 : Nat} {p1 : Int32} {p2 : Int32} {σ σ' : Sg} (h : Coat_giveTrait p0 p1 p2 σ = some σ') : ab_CO l G 180 (1) [(vR 1 p0), (.inl p1), (.inl p2)] σ vU σ' := by
  obtain ⟨r0, σ2, hR, hf⟩ := ab_ev_sound (tab := tab_Coat_giveTrait) (Os := []) (Ks := [(10, kc_Coat_giveTrait_10 (Coat_giveTrait_J10))]) (fin := finV) hG (d := 1) (by omega) rfl (fun _ h => absurd h List.not_mem_nil) (List.forall_mem_cons.mpr ⟨lc_Coat_giveTrait_J10 hG, (fun _ h => absurd h List.not_mem_nil)⟩) tb_Coat_giveTrait 300 (ab_row tab_Coat_giveTrait 0) 0 (ab_ini (ab_ml 180) [(vR 1 p0), (.inl p1), (.inl p2)]) [] σ σ' (ab_row_bk tb_Coat_giveTrait 0) ((e_Coat_giveTrait _ _ _ _).trans h)
  obtain ⟨rfl, rfl⟩ := finV_inv hf
  exact ab_met (by decide) rfl (Nat.le_of_ble_eq_true rfl) hR
theorem cs_Coat_giveTrait {l : Launch} {G : ab_Gt} (hG : ab_GG G) {R : Type} : ab_CS (R := R) l G 180 (1) cp_Coat_giveTrait := by
  intro as σ k res h
  unfold cp_Coat_giveTrait at h
  split at h
  · split at h
    · rename_i hb
      simp only [Bool.and_eq_true, Nat.beq_eq] at hb
      subst hb
      obtain ⟨q, hq, hk⟩ := Option.bind_eq_some_iff.mp h
      exact ⟨_, _, lk_Coat_giveTrait hG hq, rfl, (fun _ => Or.inl ⟨rfl, rfl⟩), hk⟩
    · cases h
  · cases h
theorem tb_X_set : ∀ q ∈ tab_X_set, ab_bk (ab_mo 0) (ab_mb 0) (ab_ml 0) 1 q.1 q.2 = true := List.all_eq_true.mp (by decide +kernel)
theorem lk_X_set {l : Launch} {G : ab_Gt} (hG : ab_GG G) {p1 : Int32} {p2 : Int32} {p3 : Int32} {r : Int32} {σ σ' : Sg} (h : X_set p1 p2 p3 σ = some (r, σ')) : ab_CO l G 0 (4) [(vR 0 0), (.inl p1), (.inl p2), (.inl p3)] σ (vI r) σ' := by
  obtain ⟨r0, σ2, hR, hf⟩ := ab_ev_sound (tab := tab_X_set) (Os := [(1, cp_X_setMood), (32, cp_X_isCoat), (35, cp_X_mostOf), (179, cp_Coat_trait), (180, cp_Coat_giveTrait)]) (Ks := []) (fin := finI) hG (d := 4) (by omega) rfl (List.forall_mem_cons.mpr ⟨⟨3, by omega, cs_X_setMood hG⟩, (List.forall_mem_cons.mpr ⟨⟨1, by omega, cs_X_isCoat hG⟩, (List.forall_mem_cons.mpr ⟨⟨1, by omega, cs_X_mostOf hG⟩, (List.forall_mem_cons.mpr ⟨⟨1, by omega, cs_Coat_trait hG⟩, (List.forall_mem_cons.mpr ⟨⟨1, by omega, cs_Coat_giveTrait hG⟩, (fun _ h => absurd h List.not_mem_nil)⟩)⟩)⟩)⟩)⟩) (fun _ h => absurd h List.not_mem_nil) tb_X_set 300 (ab_row tab_X_set 0) 0 (ab_ini (ab_ml 0) [(vR 0 0), (.inl p1), (.inl p2), (.inl p3)]) [] σ (r, σ') (ab_row_bk tb_X_set 0) ((e_X_set _ _ _ _).trans h)
  obtain ⟨rfl, rfl⟩ := finI_inv hf
  exact ab_met (by decide) rfl (Nat.le_of_ble_eq_true rfl) hR
theorem cs_X_set {l : Launch} {G : ab_Gt} (hG : ab_GG G) {R : Type} : ab_CS (R := R) l G 0 (4) cp_X_set := by
  intro as σ k res h
  unfold cp_X_set at h
  split at h
  · split at h
    · rename_i hb
      simp only [Bool.and_eq_true, Nat.beq_eq] at hb
      obtain ⟨hb1, hb2⟩ := hb
      subst hb1
      subst hb2
      obtain ⟨q, hq, hk⟩ := Option.bind_eq_some_iff.mp h
      exact ⟨_, _, lk_X_set hG hq, rfl, (fun _ => Or.inl ⟨rfl, rfl⟩), hk⟩
    · cases h
  · cases h
theorem tb_Coat_comeAs : ∀ q ∈ tab_Coat_comeAs, ab_bk (ab_mo 177) (ab_mb 177) (ab_ml 177) 0 q.1 q.2 = true := List.all_eq_true.mp (by decide +kernel)
theorem lk_Coat_comeAs {l : Launch} {G : ab_Gt} (hG : ab_GG G) {p0 : Nat} {p1 : Int32} {p2 : Int32} {p3 : Int32} {σ σ' : Sg} (h : Coat_comeAs p0 p1 p2 p3 σ = some σ') : ab_CO l G 177 (1) [(vR 1 p0), (.inl p1), (.inl p2), (.inl p3)] σ vU σ' := by
  obtain ⟨r0, σ2, hR, hf⟩ := ab_ev_sound (tab := tab_Coat_comeAs) (Os := []) (Ks := []) (fin := finV) hG (d := 1) (by omega) rfl (fun _ h => absurd h List.not_mem_nil) (fun _ h => absurd h List.not_mem_nil) tb_Coat_comeAs 300 (ab_row tab_Coat_comeAs 0) 0 (ab_ini (ab_ml 177) [(vR 1 p0), (.inl p1), (.inl p2), (.inl p3)]) [] σ σ' (ab_row_bk tb_Coat_comeAs 0) ((e_Coat_comeAs _ _ _ _ _).trans h)
  obtain ⟨rfl, rfl⟩ := finV_inv hf
  exact ab_met (by decide) rfl (Nat.le_of_ble_eq_true rfl) hR
theorem cs_Coat_comeAs {l : Launch} {G : ab_Gt} (hG : ab_GG G) {R : Type} : ab_CS (R := R) l G 177 (1) cp_Coat_comeAs := by
  intro as σ k res h
  unfold cp_Coat_comeAs at h
  split at h
  · split at h
    · rename_i hb
      simp only [Bool.and_eq_true, Nat.beq_eq] at hb
      subst hb
      obtain ⟨q, hq, hk⟩ := Option.bind_eq_some_iff.mp h
      exact ⟨_, _, lk_Coat_comeAs hG hq, rfl, (fun _ => Or.inl ⟨rfl, rfl⟩), hk⟩
    · cases h
  · cases h
theorem tb_X_coat : ∀ q ∈ tab_X_coat, ab_bk (ab_mo 2) (ab_mb 2) (ab_ml 2) 1 q.1 q.2 = true := List.all_eq_true.mp (by decide +kernel)
theorem lk_X_coat {l : Launch} {G : ab_Gt} (hG : ab_GG G) {p1 : Int32} {p2 : Int32} {p3 : Int32} {r : Int32} {σ σ' : Sg} (h : X_coat p1 p2 p3 σ = some (r, σ')) : ab_CO l G 2 (2) [(vR 0 0), (.inl p1), (.inl p2), (.inl p3)] σ (vI r) σ' := by
  obtain ⟨r0, σ2, hR, hf⟩ := ab_ev_sound (tab := tab_X_coat) (Os := [(177, cp_Coat_comeAs)]) (Ks := []) (fin := finI) hG (d := 2) (by omega) rfl (List.forall_mem_cons.mpr ⟨⟨1, by omega, cs_Coat_comeAs hG⟩, (fun _ h => absurd h List.not_mem_nil)⟩) (fun _ h => absurd h List.not_mem_nil) tb_X_coat 300 (ab_row tab_X_coat 0) 0 (ab_ini (ab_ml 2) [(vR 0 0), (.inl p1), (.inl p2), (.inl p3)]) [] σ (r, σ') (ab_row_bk tb_X_coat 0) ((e_X_coat _ _ _ _).trans h)
  obtain ⟨rfl, rfl⟩ := finI_inv hf
  exact ab_met (by decide) rfl (Nat.le_of_ble_eq_true rfl) hR
theorem cs_X_coat {l : Launch} {G : ab_Gt} (hG : ab_GG G) {R : Type} : ab_CS (R := R) l G 2 (2) cp_X_coat := by
  intro as σ k res h
  unfold cp_X_coat at h
  split at h
  · split at h
    · rename_i hb
      simp only [Bool.and_eq_true, Nat.beq_eq] at hb
      obtain ⟨hb1, hb2⟩ := hb
      subst hb1
      subst hb2
      obtain ⟨q, hq, hk⟩ := Option.bind_eq_some_iff.mp h
      exact ⟨_, _, lk_X_coat hG hq, rfl, (fun _ => Or.inl ⟨rfl, rfl⟩), hk⟩
    · cases h
  · cases h
theorem tb_Coat_off : ∀ q ∈ tab_Coat_off, ab_bk (ab_mo 183) (ab_mb 183) (ab_ml 183) 1 q.1 q.2 = true := List.all_eq_true.mp (by decide +kernel)
theorem lk_Coat_off {l : Launch} {G : ab_Gt} (hG : ab_GG G) {p0 : Nat} {p1 : Int32} {r : Int32} {σ σ' : Sg} (h : Coat_off p0 p1 σ = some (r, σ')) : ab_CO l G 183 (1) [(vR 1 p0), (.inl p1)] σ (vI r) σ' := by
  obtain ⟨r0, σ2, hR, hf⟩ := ab_ev_sound (tab := tab_Coat_off) (Os := []) (Ks := []) (fin := finI) hG (d := 1) (by omega) rfl (fun _ h => absurd h List.not_mem_nil) (fun _ h => absurd h List.not_mem_nil) tb_Coat_off 300 (ab_row tab_Coat_off 0) 0 (ab_ini (ab_ml 183) [(vR 1 p0), (.inl p1)]) [] σ (r, σ') (ab_row_bk tb_Coat_off 0) ((e_Coat_off _ _ _).trans h)
  obtain ⟨rfl, rfl⟩ := finI_inv hf
  exact ab_met (by decide) rfl (Nat.le_of_ble_eq_true rfl) hR
theorem cs_Coat_off {l : Launch} {G : ab_Gt} (hG : ab_GG G) {R : Type} : ab_CS (R := R) l G 183 (1) cp_Coat_off := by
  intro as σ k res h
  unfold cp_Coat_off at h
  split at h
  · split at h
    · rename_i hb
      simp only [Bool.and_eq_true, Nat.beq_eq] at hb
      subst hb
      obtain ⟨q, hq, hk⟩ := Option.bind_eq_some_iff.mp h
      exact ⟨_, _, lk_Coat_off hG hq, rfl, (fun _ => Or.inl ⟨rfl, rfl⟩), hk⟩
    · cases h
  · cases h
theorem tb_Coat_fits : ∀ q ∈ tab_Coat_fits, ab_bk (ab_mo 184) (ab_mb 184) (ab_ml 184) 3 q.1 q.2 = true := List.all_eq_true.mp (by decide +kernel)
theorem lk_Coat_fits {l : Launch} {G : ab_Gt} (hG : ab_GG G) {p0 : Nat} {p1 : Int32} {p2 : Int32} {r : Int32} {σ σ' : Sg} (h : Coat_fits p0 p1 p2 σ = some (r, σ')) : ab_CO l G 184 (2) [(vR 1 p0), (.inl p1), (.inl p2)] σ (vI r) σ' := by
  obtain ⟨r0, σ2, hR, hf⟩ := ab_ev_sound (tab := tab_Coat_fits) (Os := [(183, cp_Coat_off)]) (Ks := []) (fin := finI) hG (d := 2) (by omega) rfl (List.forall_mem_cons.mpr ⟨⟨1, by omega, cs_Coat_off hG⟩, (fun _ h => absurd h List.not_mem_nil)⟩) (fun _ h => absurd h List.not_mem_nil) tb_Coat_fits 300 (ab_row tab_Coat_fits 0) 0 (ab_ini (ab_ml 184) [(vR 1 p0), (.inl p1), (.inl p2)]) [] σ (r, σ') (ab_row_bk tb_Coat_fits 0) ((e_Coat_fits _ _ _ _).trans h)
  obtain ⟨rfl, rfl⟩ := finI_inv hf
  exact ab_met (by decide) rfl (Nat.le_of_ble_eq_true rfl) hR
theorem cs_Coat_fits {l : Launch} {G : ab_Gt} (hG : ab_GG G) {R : Type} : ab_CS (R := R) l G 184 (2) cp_Coat_fits := by
  intro as σ k res h
  unfold cp_Coat_fits at h
  split at h
  · split at h
    · rename_i hb
      simp only [Bool.and_eq_true, Nat.beq_eq] at hb
      subst hb
      obtain ⟨q, hq, hk⟩ := Option.bind_eq_some_iff.mp h
      exact ⟨_, _, lk_Coat_fits hG hq, rfl, (fun _ => Or.inl ⟨rfl, rfl⟩), hk⟩
    · cases h
  · cases h
theorem tb_X_bounded : ∀ q ∈ tab_X_bounded, ab_bk (ab_mo 36) (ab_mb 36) (ab_ml 36) 1 q.1 q.2 = true := List.all_eq_true.mp (by decide +kernel)
theorem lk_X_bounded {l : Launch} {G : ab_Gt} (hG : ab_GG G) {p0 : Int32} {r : Int32} {σ σ' : Sg} (h : X_bounded p0 σ = some (r, σ')) : ab_CO l G 36 (1) [(.inl p0)] σ (vI r) σ' := by
  obtain ⟨r0, σ2, hR, hf⟩ := ab_ev_sound (tab := tab_X_bounded) (Os := []) (Ks := []) (fin := finI) hG (d := 1) (by omega) rfl (fun _ h => absurd h List.not_mem_nil) (fun _ h => absurd h List.not_mem_nil) tb_X_bounded 300 (ab_row tab_X_bounded 0) 0 (ab_ini (ab_ml 36) [(.inl p0)]) [] σ (r, σ') (ab_row_bk tb_X_bounded 0) ((e_X_bounded _ _).trans h)
  obtain ⟨rfl, rfl⟩ := finI_inv hf
  exact ab_met (by decide) rfl (Nat.le_of_ble_eq_true rfl) hR
theorem cs_X_bounded {l : Launch} {G : ab_Gt} (hG : ab_GG G) {R : Type} : ab_CS (R := R) l G 36 (1) cp_X_bounded := by
  intro as σ k res h
  unfold cp_X_bounded at h
  split at h
  · obtain ⟨q, hq, hk⟩ := Option.bind_eq_some_iff.mp h
    exact ⟨_, _, lk_X_bounded hG hq, rfl, (fun h => by cases h), hk⟩
  · cases h
theorem tb_Text_lay : ∀ q ∈ tab_Text_lay, ab_bk (ab_mo 222) (ab_mb 222) (ab_ml 222) 0 q.1 q.2 = true := List.all_eq_true.mp (by decide +kernel)
theorem lk_Text_lay {l : Launch} {G : ab_Gt} (hG : ab_GG G) {p0 : Nat} {p1 : Int32} {σ σ' : Sg} (h : Text_lay p0 p1 σ = some σ') : ab_CO l G 222 (1) [(vR 2 p0), (.inl p1)] σ vU σ' := by
  obtain ⟨r0, σ2, hR, hf⟩ := ab_ev_sound (tab := tab_Text_lay) (Os := []) (Ks := []) (fin := finV) hG (d := 1) (by omega) rfl (fun _ h => absurd h List.not_mem_nil) (fun _ h => absurd h List.not_mem_nil) tb_Text_lay 300 (ab_row tab_Text_lay 0) 0 (ab_ini (ab_ml 222) [(vR 2 p0), (.inl p1)]) [] σ σ' (ab_row_bk tb_Text_lay 0) ((e_Text_lay _ _ _).trans h)
  obtain ⟨rfl, rfl⟩ := finV_inv hf
  exact ab_met (by decide) rfl (Nat.le_of_ble_eq_true rfl) hR
theorem cs_Text_lay {l : Launch} {G : ab_Gt} (hG : ab_GG G) {R : Type} : ab_CS (R := R) l G 222 (1) cp_Text_lay := by
  intro as σ k res h
  unfold cp_Text_lay at h
  split at h
  · split at h
    · rename_i hb
      simp only [Bool.and_eq_true, Nat.beq_eq] at hb
      subst hb
      obtain ⟨q, hq, hk⟩ := Option.bind_eq_some_iff.mp h
      exact ⟨_, _, lk_Text_lay hG hq, rfl, (fun _ => Or.inl ⟨rfl, rfl⟩), hk⟩
    · cases h
  · cases h
theorem tb_Text_lift : ∀ q ∈ tab_Text_lift, ab_bk (ab_mo 223) (ab_mb 223) (ab_ml 223) 1 q.1 q.2 = true := List.all_eq_true.mp (by decide +kernel)
theorem lk_Text_lift {l : Launch} {G : ab_Gt} (hG : ab_GG G) {p0 : Nat} {r : Int32} {σ σ' : Sg} (h : Text_lift p0 σ = some (r, σ')) : ab_CO l G 223 (1) [(vR 2 p0)] σ (vI r) σ' := by
  obtain ⟨r0, σ2, hR, hf⟩ := ab_ev_sound (tab := tab_Text_lift) (Os := []) (Ks := []) (fin := finI) hG (d := 1) (by omega) rfl (fun _ h => absurd h List.not_mem_nil) (fun _ h => absurd h List.not_mem_nil) tb_Text_lift 300 (ab_row tab_Text_lift 0) 0 (ab_ini (ab_ml 223) [(vR 2 p0)]) [] σ (r, σ') (ab_row_bk tb_Text_lift 0) ((e_Text_lift _ _).trans h)
  obtain ⟨rfl, rfl⟩ := finI_inv hf
  exact ab_met (by decide) rfl (Nat.le_of_ble_eq_true rfl) hR
theorem cs_Text_lift {l : Launch} {G : ab_Gt} (hG : ab_GG G) {R : Type} : ab_CS (R := R) l G 223 (1) cp_Text_lift := by
  intro as σ k res h
  unfold cp_Text_lift at h
  split at h
  · split at h
    · rename_i hb
      simp only [Bool.and_eq_true, Nat.beq_eq] at hb
      subst hb
      obtain ⟨q, hq, hk⟩ := Option.bind_eq_some_iff.mp h
      exact ⟨_, _, lk_Text_lift hG hq, rfl, (fun _ => Or.inl ⟨rfl, rfl⟩), hk⟩
    · cases h
  · cases h
theorem tb_Text_named : ∀ q ∈ tab_Text_named, ab_bk (ab_mo 224) (ab_mb 224) (ab_ml 224) 1 q.1 q.2 = true := List.all_eq_true.mp (by decide +kernel)
theorem lk_Text_named {l : Launch} {G : ab_Gt} (hG : ab_GG G) {p0 : Int32} {p1 : Nat} {p2 : Int32} {p3 : Int32} {r : Int32} {σ σ' : Sg} (h : Text_named p0 p1 p2 p3 σ = some (r, σ')) : ab_CO l G 224 (2) [(.inl p0), (vR 1 p1), (.inl p2), (.inl p3)] σ (vI r) σ' := by
  obtain ⟨r0, σ2, hR, hf⟩ := ab_ev_sound (tab := tab_Text_named) (Os := [(183, cp_Coat_off)]) (Ks := []) (fin := finI) hG (d := 2) (by omega) rfl (List.forall_mem_cons.mpr ⟨⟨1, by omega, cs_Coat_off hG⟩, (fun _ h => absurd h List.not_mem_nil)⟩) (fun _ h => absurd h List.not_mem_nil) tb_Text_named 300 (ab_row tab_Text_named 0) 0 (ab_ini (ab_ml 224) [(.inl p0), (vR 1 p1), (.inl p2), (.inl p3)]) [] σ (r, σ') (ab_row_bk tb_Text_named 0) ((e_Text_named _ _ _ _ _).trans h)
  obtain ⟨rfl, rfl⟩ := finI_inv hf
  exact ab_met (by decide) rfl (Nat.le_of_ble_eq_true rfl) hR
theorem cs_Text_named {l : Launch} {G : ab_Gt} (hG : ab_GG G) {R : Type} : ab_CS (R := R) l G 224 (2) cp_Text_named := by
  intro as σ k res h
  unfold cp_Text_named at h
  split at h
  · split at h
    · rename_i hb
      simp only [Bool.and_eq_true, Nat.beq_eq] at hb
      subst hb
      obtain ⟨q, hq, hk⟩ := Option.bind_eq_some_iff.mp h
      exact ⟨_, _, lk_Text_named hG hq, rfl, (fun h => by cases h), hk⟩
    · cases h
  · cases h
theorem tb_Text_joined : ∀ q ∈ tab_Text_joined, ab_bk (ab_mo 226) (ab_mb 226) (ab_ml 226) 1 q.1 q.2 = true := List.all_eq_true.mp (by decide +kernel)
theorem lk_Text_joined {l : Launch} {G : ab_Gt} (hG : ab_GG G) {p0 : Int32} {p1 : Int32} {p2 : Int32} {r : Int32} {σ σ' : Sg} (h : Text_joined p0 p1 p2 σ = some (r, σ')) : ab_CO l G 226 (1) [(.inl p0), (.inl p1), (.inl p2)] σ (vI r) σ' := by
  obtain ⟨r0, σ2, hR, hf⟩ := ab_ev_sound (tab := tab_Text_joined) (Os := []) (Ks := []) (fin := finI) hG (d := 1) (by omega) rfl (fun _ h => absurd h List.not_mem_nil) (fun _ h => absurd h List.not_mem_nil) tb_Text_joined 300 (ab_row tab_Text_joined 0) 0 (ab_ini (ab_ml 226) [(.inl p0), (.inl p1), (.inl p2)]) [] σ (r, σ') (ab_row_bk tb_Text_joined 0) ((e_Text_joined _ _ _ _).trans h)
  obtain ⟨rfl, rfl⟩ := finI_inv hf
  exact ab_met (by decide) rfl (Nat.le_of_ble_eq_true rfl) hR
theorem cs_Text_joined {l : Launch} {G : ab_Gt} (hG : ab_GG G) {R : Type} : ab_CS (R := R) l G 226 (1) cp_Text_joined := by
  intro as σ k res h
  unfold cp_Text_joined at h
  split at h
  · obtain ⟨q, hq, hk⟩ := Option.bind_eq_some_iff.mp h
    exact ⟨_, _, lk_Text_joined hG hq, rfl, (fun h => by cases h), hk⟩
  · cases h
theorem tb_Text_join : ∀ q ∈ tab_Text_join, ab_bk (ab_mo 225) (ab_mb 225) (ab_ml 225) 0 q.1 q.2 = true := List.all_eq_true.mp (by decide +kernel)
theorem lk_Text_join {l : Launch} {G : ab_Gt} (hG : ab_GG G) {p0 : Nat} {p1 : Int32} {σ σ' : Sg} (h : Text_join p0 p1 σ = some σ') : ab_CO l G 225 (2) [(vR 2 p0), (.inl p1)] σ vU σ' := by
  obtain ⟨r0, σ2, hR, hf⟩ := ab_ev_sound (tab := tab_Text_join) (Os := [(222, cp_Text_lay), (223, cp_Text_lift), (226, cp_Text_joined)]) (Ks := []) (fin := finV) hG (d := 2) (by omega) rfl (List.forall_mem_cons.mpr ⟨⟨1, by omega, cs_Text_lay hG⟩, (List.forall_mem_cons.mpr ⟨⟨1, by omega, cs_Text_lift hG⟩, (List.forall_mem_cons.mpr ⟨⟨1, by omega, cs_Text_joined hG⟩, (fun _ h => absurd h List.not_mem_nil)⟩)⟩)⟩) (fun _ h => absurd h List.not_mem_nil) tb_Text_join 300 (ab_row tab_Text_join 0) 0 (ab_ini (ab_ml 225) [(vR 2 p0), (.inl p1)]) [] σ σ' (ab_row_bk tb_Text_join 0) ((e_Text_join _ _ _).trans h)
  obtain ⟨rfl, rfl⟩ := finV_inv hf
  exact ab_met (by decide) rfl (Nat.le_of_ble_eq_true rfl) hR
theorem cs_Text_join {l : Launch} {G : ab_Gt} (hG : ab_GG G) {R : Type} : ab_CS (R := R) l G 225 (2) cp_Text_join := by
  intro as σ k res h
  unfold cp_Text_join at h
  split at h
  · split at h
    · rename_i hb
      simp only [Bool.and_eq_true, Nat.beq_eq] at hb
      subst hb
      obtain ⟨q, hq, hk⟩ := Option.bind_eq_some_iff.mp h
      exact ⟨_, _, lk_Text_join hG hq, rfl, (fun _ => Or.inl ⟨rfl, rfl⟩), hk⟩
    · cases h
  · cases h
theorem tb_Text_value : ∀ q ∈ tab_Text_value, ab_bk (ab_mo 221) (ab_mb 221) (ab_ml 221) 1 q.1 q.2 = true := List.all_eq_true.mp (by decide +kernel)
theorem lc_Text_value_L38 {l : Launch} {G : ab_Gt} (hG : ab_GG G) : ∀ n : Nat, ab_KS l G 221 (3) finI 38 (kc_Text_value_38 (Text_value_L38 n)) := by
  intro n
  induction n with
  | zero =>
    intro L st σ res h
    unfold kc_Text_value_38 at h
    split at h
    · split at h
      · rename_i hb
        simp only [Bool.and_eq_true, Nat.beq_eq] at hb
        obtain ⟨hb1, hb2⟩ := hb
        subst hb1
        subst hb2
        exact absurd (show none = some res from h) (fun h => by cases h)
      · cases h
    · cases h
  | succ n ih =>
    intro L st σ res h
    unfold kc_Text_value_38 at h
    split at h
    · split at h
      · rename_i hb
        simp only [Bool.and_eq_true, Nat.beq_eq] at hb
        obtain ⟨hb1, hb2⟩ := hb
        subst hb1
        subst hb2
        exact ab_ev_sound (tab := tab_Text_value) (Os := [(36, cp_X_bounded), (222, cp_Text_lay), (223, cp_Text_lift), (224, cp_Text_named), (225, cp_Text_join)]) (Ks := [(38, kc_Text_value_38 (Text_value_L38 n))]) (fin := finI) hG (by omega) rfl (List.forall_mem_cons.mpr ⟨⟨1, by omega, cs_X_bounded hG⟩, (List.forall_mem_cons.mpr ⟨⟨1, by omega, cs_Text_lay hG⟩, (List.forall_mem_cons.mpr ⟨⟨1, by omega, cs_Text_lift hG⟩, (List.forall_mem_cons.mpr ⟨⟨2, by omega, cs_Text_named hG⟩, (List.forall_mem_cons.mpr ⟨⟨2, by omega, cs_Text_join hG⟩, (fun _ h => absurd h List.not_mem_nil)⟩)⟩)⟩)⟩)⟩) (List.forall_mem_cons.mpr ⟨ih, (fun _ h => absurd h List.not_mem_nil)⟩) tb_Text_value 300 (ab_row tab_Text_value 38) 38 _ _ σ res (ab_row_bk tb_Text_value 38) ((e_Text_value_L38  _ _ _ _ _ _ _ _ _).trans h)
      · cases h
    · cases h
theorem lk_Text_value {l : Launch} {G : ab_Gt} (hG : ab_GG G) {p0 : Nat} {p1 : Int32} {p2 : Nat} {p3 : Int32} {p4 : Int32} {r : Int32} {σ σ' : Sg} (h : Text_value p0 p1 p2 p3 p4 σ = some (r, σ')) : ab_CO l G 221 (3) [(vR 2 p0), (.inl p1), (vR 1 p2), (.inl p3), (.inl p4)] σ (vI r) σ' := by
  obtain ⟨r0, σ2, hR, hf⟩ := ab_ev_sound (tab := tab_Text_value) (Os := [(36, cp_X_bounded), (222, cp_Text_lay), (223, cp_Text_lift), (224, cp_Text_named), (225, cp_Text_join)]) (Ks := [(38, kc_Text_value_38 (Text_value_L38 FU))]) (fin := finI) hG (d := 3) (by omega) rfl (List.forall_mem_cons.mpr ⟨⟨1, by omega, cs_X_bounded hG⟩, (List.forall_mem_cons.mpr ⟨⟨1, by omega, cs_Text_lay hG⟩, (List.forall_mem_cons.mpr ⟨⟨1, by omega, cs_Text_lift hG⟩, (List.forall_mem_cons.mpr ⟨⟨2, by omega, cs_Text_named hG⟩, (List.forall_mem_cons.mpr ⟨⟨2, by omega, cs_Text_join hG⟩, (fun _ h => absurd h List.not_mem_nil)⟩)⟩)⟩)⟩)⟩) (List.forall_mem_cons.mpr ⟨lc_Text_value_L38 hG FU, (fun _ h => absurd h List.not_mem_nil)⟩) tb_Text_value 300 (ab_row tab_Text_value 0) 0 (ab_ini (ab_ml 221) [(vR 2 p0), (.inl p1), (vR 1 p2), (.inl p3), (.inl p4)]) [] σ (r, σ') (ab_row_bk tb_Text_value 0) ((e_Text_value _ _ _ _ _ _).trans h)
  obtain ⟨rfl, rfl⟩ := finI_inv hf
  exact ab_met (by decide) rfl (Nat.le_of_ble_eq_true rfl) hR
theorem cs_Text_value {l : Launch} {G : ab_Gt} (hG : ab_GG G) {R : Type} : ab_CS (R := R) l G 221 (3) cp_Text_value := by
  intro as σ k res h
  unfold cp_Text_value at h
  split at h
  · split at h
    · rename_i hb
      simp only [Bool.and_eq_true, Nat.beq_eq] at hb
      obtain ⟨hb1, hb2⟩ := hb
      subst hb1
      subst hb2
      obtain ⟨q, hq, hk⟩ := Option.bind_eq_some_iff.mp h
      exact ⟨_, _, lk_Text_value hG hq, rfl, (fun _ => Or.inl ⟨rfl, rfl⟩), hk⟩
    · cases h
  · cases h
theorem tb_X_fitsAt : ∀ q ∈ tab_X_fitsAt, ab_bk (ab_mo 40) (ab_mb 40) (ab_ml 40) 3 q.1 q.2 = true := List.all_eq_true.mp (by decide +kernel)
theorem lk_X_fitsAt {l : Launch} {G : ab_Gt} (hG : ab_GG G) {p0 : Nat} {p1 : Nat} {p2 : Int32} {p3 : Int32} {r : Int32} {σ σ' : Sg} (h : X_fitsAt p0 p1 p2 p3 σ = some (r, σ')) : ab_CO l G 40 (4) [(vR 2 p0), (vR 1 p1), (.inl p2), (.inl p3)] σ (vI r) σ' := by
  obtain ⟨r0, σ2, hR, hf⟩ := ab_ev_sound (tab := tab_X_fitsAt) (Os := [(184, cp_Coat_fits), (221, cp_Text_value)]) (Ks := []) (fin := finI) hG (d := 4) (by omega) rfl (List.forall_mem_cons.mpr ⟨⟨2, by omega, cs_Coat_fits hG⟩, (List.forall_mem_cons.mpr ⟨⟨3, by omega, cs_Text_value hG⟩, (fun _ h => absurd h List.not_mem_nil)⟩)⟩) (fun _ h => absurd h List.not_mem_nil) tb_X_fitsAt 300 (ab_row tab_X_fitsAt 0) 0 (ab_ini (ab_ml 40) [(vR 2 p0), (vR 1 p1), (.inl p2), (.inl p3)]) [] σ (r, σ') (ab_row_bk tb_X_fitsAt 0) ((e_X_fitsAt _ _ _ _ _).trans h)
  obtain ⟨rfl, rfl⟩ := finI_inv hf
  exact ab_met (by decide) rfl (Nat.le_of_ble_eq_true rfl) hR
theorem cs_X_fitsAt {l : Launch} {G : ab_Gt} (hG : ab_GG G) {R : Type} : ab_CS (R := R) l G 40 (4) cp_X_fitsAt := by
  intro as σ k res h
  unfold cp_X_fitsAt at h
  split at h
  · split at h
    · rename_i hb
      simp only [Bool.and_eq_true, Nat.beq_eq] at hb
      obtain ⟨hb1, hb2⟩ := hb
      subst hb1
      subst hb2
      obtain ⟨q, hq, hk⟩ := Option.bind_eq_some_iff.mp h
      exact ⟨_, _, lk_X_fitsAt hG hq, rfl, (fun h => by cases h), hk⟩
    · cases h
  · cases h
theorem tb_X_rightAt : ∀ q ∈ tab_X_rightAt, ab_bk (ab_mo 43) (ab_mb 43) (ab_ml 43) 1 q.1 q.2 = true := List.all_eq_true.mp (by decide +kernel)
theorem lc_X_rightAt_L5 {l : Launch} {G : ab_Gt} (hG : ab_GG G) : ∀ n : Nat, ab_KS l G 43 (5) finI 5 (kc_X_rightAt_5 (X_rightAt_L5 n)) := by
  intro n
  induction n with
  | zero =>
    intro L st σ res h
    unfold kc_X_rightAt_5 at h
    split at h
    · split at h
      · rename_i hb
        simp only [Bool.and_eq_true, Nat.beq_eq] at hb
        obtain ⟨hb1, hb2⟩ := hb
        subst hb1
        subst hb2
        exact absurd (show none = some res from h) (fun h => by cases h)
      · cases h
    · cases h
  | succ n ih =>
    intro L st σ res h
    unfold kc_X_rightAt_5 at h
    split at h
    · split at h
      · rename_i hb
        simp only [Bool.and_eq_true, Nat.beq_eq] at hb
        obtain ⟨hb1, hb2⟩ := hb
        subst hb1
        subst hb2
        exact ab_ev_sound (tab := tab_X_rightAt) (Os := [(38, cp_X_moodAt), (40, cp_X_fitsAt)]) (Ks := [(5, kc_X_rightAt_5 (X_rightAt_L5 n))]) (fin := finI) hG (by omega) rfl (List.forall_mem_cons.mpr ⟨⟨2, by omega, cs_X_moodAt hG⟩, (List.forall_mem_cons.mpr ⟨⟨4, by omega, cs_X_fitsAt hG⟩, (fun _ h => absurd h List.not_mem_nil)⟩)⟩) (List.forall_mem_cons.mpr ⟨ih, (fun _ h => absurd h List.not_mem_nil)⟩) tb_X_rightAt 300 (ab_row tab_X_rightAt 5) 5 _ _ σ res (ab_row_bk tb_X_rightAt 5) ((e_X_rightAt_L5  _ _ _ _ _ _).trans h)
      · cases h
    · cases h
theorem lk_X_rightAt {l : Launch} {G : ab_Gt} (hG : ab_GG G) {p1 : Int32} {p2 : Int32} {r : Int32} {σ σ' : Sg} (h : X_rightAt p1 p2 σ = some (r, σ')) : ab_CO l G 43 (5) [(vR 0 0), (.inl p1), (.inl p2)] σ (vI r) σ' := by
  obtain ⟨r0, σ2, hR, hf⟩ := ab_ev_sound (tab := tab_X_rightAt) (Os := [(38, cp_X_moodAt), (40, cp_X_fitsAt)]) (Ks := [(5, kc_X_rightAt_5 (X_rightAt_L5 FU))]) (fin := finI) hG (d := 5) (by omega) rfl (List.forall_mem_cons.mpr ⟨⟨2, by omega, cs_X_moodAt hG⟩, (List.forall_mem_cons.mpr ⟨⟨4, by omega, cs_X_fitsAt hG⟩, (fun _ h => absurd h List.not_mem_nil)⟩)⟩) (List.forall_mem_cons.mpr ⟨lc_X_rightAt_L5 hG FU, (fun _ h => absurd h List.not_mem_nil)⟩) tb_X_rightAt 300 (ab_row tab_X_rightAt 0) 0 (ab_ini (ab_ml 43) [(vR 0 0), (.inl p1), (.inl p2)]) [] σ (r, σ') (ab_row_bk tb_X_rightAt 0) ((e_X_rightAt _ _ _).trans h)
  obtain ⟨rfl, rfl⟩ := finI_inv hf
  exact ab_met (by decide) rfl (Nat.le_of_ble_eq_true rfl) hR
theorem cs_X_rightAt {l : Launch} {G : ab_Gt} (hG : ab_GG G) {R : Type} : ab_CS (R := R) l G 43 (5) cp_X_rightAt := by
  intro as σ k res h
  unfold cp_X_rightAt at h
  split at h
  · split at h
    · rename_i hb
      simp only [Bool.and_eq_true, Nat.beq_eq] at hb
      obtain ⟨hb1, hb2⟩ := hb
      subst hb1
      subst hb2
      obtain ⟨q, hq, hk⟩ := Option.bind_eq_some_iff.mp h
      exact ⟨_, _, lk_X_rightAt hG hq, rfl, (fun _ => Or.inl ⟨rfl, rfl⟩), hk⟩
    · cases h
  · cases h
theorem tb_X_hoursOf : ∀ q ∈ tab_X_hoursOf, ab_bk (ab_mo 44) (ab_mb 44) (ab_ml 44) 1 q.1 q.2 = true := List.all_eq_true.mp (by decide +kernel)
theorem lc_X_hoursOf_L5 {l : Launch} {G : ab_Gt} (hG : ab_GG G) : ∀ n : Nat, ab_KS l G 44 (5) finI 5 (kc_X_hoursOf_5 (X_hoursOf_L5 n)) := by
  intro n
  induction n with
  | zero =>
    intro L st σ res h
    unfold kc_X_hoursOf_5 at h
    split at h
    · split at h
      · rename_i hb
        simp only [Bool.and_eq_true, Nat.beq_eq] at hb
        obtain ⟨⟨hb1, hb2⟩, hb3⟩ := hb
        subst hb1
        subst hb2
        subst hb3
        exact absurd (show none = some res from h) (fun h => by cases h)
      · cases h
    · cases h
  | succ n ih =>
    intro L st σ res h
    unfold kc_X_hoursOf_5 at h
    split at h
    · split at h
      · rename_i hb
        simp only [Bool.and_eq_true, Nat.beq_eq] at hb
        obtain ⟨⟨hb1, hb2⟩, hb3⟩ := hb
        subst hb1
        subst hb2
        subst hb3
        exact ab_ev_sound (tab := tab_X_hoursOf) (Os := [(38, cp_X_moodAt), (40, cp_X_fitsAt)]) (Ks := [(5, kc_X_hoursOf_5 (X_hoursOf_L5 n))]) (fin := finI) hG (by omega) rfl (List.forall_mem_cons.mpr ⟨⟨2, by omega, cs_X_moodAt hG⟩, (List.forall_mem_cons.mpr ⟨⟨4, by omega, cs_X_fitsAt hG⟩, (fun _ h => absurd h List.not_mem_nil)⟩)⟩) (List.forall_mem_cons.mpr ⟨ih, (fun _ h => absurd h List.not_mem_nil)⟩) tb_X_hoursOf 300 (ab_row tab_X_hoursOf 5) 5 _ _ σ res (ab_row_bk tb_X_hoursOf 5) ((e_X_hoursOf_L5  _ _ _ _ _ _).trans h)
      · cases h
    · cases h
theorem lk_X_hoursOf {l : Launch} {G : ab_Gt} (hG : ab_GG G) {p1 : Nat} {p2 : Int32} {r : Int32} {σ σ' : Sg} (h : X_hoursOf p1 p2 σ = some (r, σ')) : ab_CO l G 44 (5) [(vR 0 0), (vR 1 p1), (.inl p2)] σ (vI r) σ' := by
  obtain ⟨r0, σ2, hR, hf⟩ := ab_ev_sound (tab := tab_X_hoursOf) (Os := [(38, cp_X_moodAt), (40, cp_X_fitsAt)]) (Ks := [(5, kc_X_hoursOf_5 (X_hoursOf_L5 FU))]) (fin := finI) hG (d := 5) (by omega) rfl (List.forall_mem_cons.mpr ⟨⟨2, by omega, cs_X_moodAt hG⟩, (List.forall_mem_cons.mpr ⟨⟨4, by omega, cs_X_fitsAt hG⟩, (fun _ h => absurd h List.not_mem_nil)⟩)⟩) (List.forall_mem_cons.mpr ⟨lc_X_hoursOf_L5 hG FU, (fun _ h => absurd h List.not_mem_nil)⟩) tb_X_hoursOf 300 (ab_row tab_X_hoursOf 0) 0 (ab_ini (ab_ml 44) [(vR 0 0), (vR 1 p1), (.inl p2)]) [] σ (r, σ') (ab_row_bk tb_X_hoursOf 0) ((e_X_hoursOf _ _ _).trans h)
  obtain ⟨rfl, rfl⟩ := finI_inv hf
  exact ab_met (by decide) rfl (Nat.le_of_ble_eq_true rfl) hR
theorem cs_X_hoursOf {l : Launch} {G : ab_Gt} (hG : ab_GG G) {R : Type} : ab_CS (R := R) l G 44 (5) cp_X_hoursOf := by
  intro as σ k res h
  unfold cp_X_hoursOf at h
  split at h
  · split at h
    · rename_i hb
      simp only [Bool.and_eq_true, Nat.beq_eq] at hb
      obtain ⟨⟨hb1, hb2⟩, hb3⟩ := hb
      subst hb1
      subst hb2
      subst hb3
      obtain ⟨q, hq, hk⟩ := Option.bind_eq_some_iff.mp h
      exact ⟨_, _, lk_X_hoursOf hG hq, rfl, (fun _ => Or.inl ⟨rfl, rfl⟩), hk⟩
    · cases h
  · cases h
theorem tb_X_hoursOfEverybody : ∀ q ∈ tab_X_hoursOfEverybody, ab_bk (ab_mo 45) (ab_mb 45) (ab_ml 45) 1 q.1 q.2 = true := List.all_eq_true.mp (by decide +kernel)
theorem lc_X_hoursOfEverybody_L4 {l : Launch} {G : ab_Gt} (hG : ab_GG G) : ∀ n : Nat, ab_KS l G 45 (6) finI 4 (kc_X_hoursOfEverybody_4 (X_hoursOfEverybody_L4 n)) := by
  intro n
  induction n with
  | zero =>
    intro L st σ res h
    unfold kc_X_hoursOfEverybody_4 at h
    split at h
    · split at h
      · rename_i hb
        simp only [Bool.and_eq_true, Nat.beq_eq] at hb
        obtain ⟨⟨hb1, hb2⟩, hb3⟩ := hb
        subst hb1
        subst hb2
        subst hb3
        exact absurd (show none = some res from h) (fun h => by cases h)
      · cases h
    · cases h
  | succ n ih =>
    intro L st σ res h
    unfold kc_X_hoursOfEverybody_4 at h
    split at h
    · split at h
      · rename_i hb
        simp only [Bool.and_eq_true, Nat.beq_eq] at hb
        obtain ⟨⟨hb1, hb2⟩, hb3⟩ := hb
        subst hb1
        subst hb2
        subst hb3
        exact ab_ev_sound (tab := tab_X_hoursOfEverybody) (Os := [(44, cp_X_hoursOf)]) (Ks := [(4, kc_X_hoursOfEverybody_4 (X_hoursOfEverybody_L4 n))]) (fin := finI) hG (by omega) rfl (List.forall_mem_cons.mpr ⟨⟨5, by omega, cs_X_hoursOf hG⟩, (fun _ h => absurd h List.not_mem_nil)⟩) (List.forall_mem_cons.mpr ⟨ih, (fun _ h => absurd h List.not_mem_nil)⟩) tb_X_hoursOfEverybody 300 (ab_row tab_X_hoursOfEverybody 4) 4 _ _ σ res (ab_row_bk tb_X_hoursOfEverybody 4) ((e_X_hoursOfEverybody_L4  _ _ _ _ _).trans h)
      · cases h
    · cases h
theorem lk_X_hoursOfEverybody {l : Launch} {G : ab_Gt} (hG : ab_GG G) {p1 : Nat} {r : Int32} {σ σ' : Sg} (h : X_hoursOfEverybody p1 σ = some (r, σ')) : ab_CO l G 45 (6) [(vR 0 0), (vR 1 p1)] σ (vI r) σ' := by
  obtain ⟨r0, σ2, hR, hf⟩ := ab_ev_sound (tab := tab_X_hoursOfEverybody) (Os := [(44, cp_X_hoursOf)]) (Ks := [(4, kc_X_hoursOfEverybody_4 (X_hoursOfEverybody_L4 FU))]) (fin := finI) hG (d := 6) (by omega) rfl (List.forall_mem_cons.mpr ⟨⟨5, by omega, cs_X_hoursOf hG⟩, (fun _ h => absurd h List.not_mem_nil)⟩) (List.forall_mem_cons.mpr ⟨lc_X_hoursOfEverybody_L4 hG FU, (fun _ h => absurd h List.not_mem_nil)⟩) tb_X_hoursOfEverybody 300 (ab_row tab_X_hoursOfEverybody 0) 0 (ab_ini (ab_ml 45) [(vR 0 0), (vR 1 p1)]) [] σ (r, σ') (ab_row_bk tb_X_hoursOfEverybody 0) ((e_X_hoursOfEverybody _ _).trans h)
  obtain ⟨rfl, rfl⟩ := finI_inv hf
  exact ab_met (by decide) rfl (Nat.le_of_ble_eq_true rfl) hR
theorem cs_X_hoursOfEverybody {l : Launch} {G : ab_Gt} (hG : ab_GG G) {R : Type} : ab_CS (R := R) l G 45 (6) cp_X_hoursOfEverybody := by
  intro as σ k res h
  unfold cp_X_hoursOfEverybody at h
  split at h
  · split at h
    · rename_i hb
      simp only [Bool.and_eq_true, Nat.beq_eq] at hb
      obtain ⟨⟨hb1, hb2⟩, hb3⟩ := hb
      subst hb1
      subst hb2
      subst hb3
      obtain ⟨q, hq, hk⟩ := Option.bind_eq_some_iff.mp h
      exact ⟨_, _, lk_X_hoursOfEverybody hG hq, rfl, (fun _ => Or.inl ⟨rfl, rfl⟩), hk⟩
    · cases h
  · cases h
theorem tb_X_told : ∀ q ∈ tab_X_told, ab_bk (ab_mo 3) (ab_mb 3) (ab_ml 3) 1 q.1 q.2 = true := List.all_eq_true.mp (by decide +kernel)
theorem lk_X_told {l : Launch} {G : ab_Gt} (hG : ab_GG G) {p1 : Int32} {p2 : Int32} {r : Int32} {σ σ' : Sg} (h : X_told p1 p2 σ = some (r, σ')) : ab_CO l G 3 (7) [(vR 0 0), (.inl p1), (.inl p2)] σ (vI r) σ' := by
  obtain ⟨r0, σ2, hR, hf⟩ := ab_ev_sound (tab := tab_X_told) (Os := [(31, cp_X_isPlace), (32, cp_X_isCoat), (38, cp_X_moodAt), (43, cp_X_rightAt), (45, cp_X_hoursOfEverybody), (179, cp_Coat_trait)]) (Ks := []) (fin := finI) hG (d := 7) (by omega) rfl (List.forall_mem_cons.mpr ⟨⟨2, by omega, cs_X_isPlace hG⟩, (List.forall_mem_cons.mpr ⟨⟨1, by omega, cs_X_isCoat hG⟩, (List.forall_mem_cons.mpr ⟨⟨2, by omega, cs_X_moodAt hG⟩, (List.forall_mem_cons.mpr ⟨⟨5, by omega, cs_X_rightAt hG⟩, (List.forall_mem_cons.mpr ⟨⟨6, by omega, cs_X_hoursOfEverybody hG⟩, (List.forall_mem_cons.mpr ⟨⟨1, by omega, cs_Coat_trait hG⟩, (fun _ h => absurd h List.not_mem_nil)⟩)⟩)⟩)⟩)⟩)⟩) (fun _ h => absurd h List.not_mem_nil) tb_X_told 300 (ab_row tab_X_told 0) 0 (ab_ini (ab_ml 3) [(vR 0 0), (.inl p1), (.inl p2)]) [] σ (r, σ') (ab_row_bk tb_X_told 0) ((e_X_told _ _ _).trans h)
  obtain ⟨rfl, rfl⟩ := finI_inv hf
  exact ab_met (by decide) rfl (Nat.le_of_ble_eq_true rfl) hR
theorem cs_X_told {l : Launch} {G : ab_Gt} (hG : ab_GG G) {R : Type} : ab_CS (R := R) l G 3 (7) cp_X_told := by
  intro as σ k res h
  unfold cp_X_told at h
  split at h
  · split at h
    · rename_i hb
      simp only [Bool.and_eq_true, Nat.beq_eq] at hb
      obtain ⟨hb1, hb2⟩ := hb
      subst hb1
      subst hb2
      obtain ⟨q, hq, hk⟩ := Option.bind_eq_some_iff.mp h
      exact ⟨_, _, lk_X_told hG hq, rfl, (fun _ => Or.inl ⟨rfl, rfl⟩), hk⟩
    · cases h
  · cases h
theorem tb_Coat_fine : ∀ q ∈ tab_Coat_fine, ab_bk (ab_mo 185) (ab_mb 185) (ab_ml 185) 1 q.1 q.2 = true := List.all_eq_true.mp (by decide +kernel)
theorem lk_Coat_fine {l : Launch} {G : ab_Gt} (hG : ab_GG G) {p0 : Nat} {p1 : Int32} {r : Int32} {σ σ' : Sg} (h : Coat_fine p0 p1 σ = some (r, σ')) : ab_CO l G 185 (2) [(vR 1 p0), (.inl p1)] σ (vI r) σ' := by
  obtain ⟨r0, σ2, hR, hf⟩ := ab_ev_sound (tab := tab_Coat_fine) (Os := [(36, cp_X_bounded)]) (Ks := []) (fin := finI) hG (d := 2) (by omega) rfl (List.forall_mem_cons.mpr ⟨⟨1, by omega, cs_X_bounded hG⟩, (fun _ h => absurd h List.not_mem_nil)⟩) (fun _ h => absurd h List.not_mem_nil) tb_Coat_fine 300 (ab_row tab_Coat_fine 0) 0 (ab_ini (ab_ml 185) [(vR 1 p0), (.inl p1)]) [] σ (r, σ') (ab_row_bk tb_Coat_fine 0) ((e_Coat_fine _ _ _).trans h)
  obtain ⟨rfl, rfl⟩ := finI_inv hf
  exact ab_met (by decide) rfl (Nat.le_of_ble_eq_true rfl) hR
theorem cs_Coat_fine {l : Launch} {G : ab_Gt} (hG : ab_GG G) {R : Type} : ab_CS (R := R) l G 185 (2) cp_Coat_fine := by
  intro as σ k res h
  unfold cp_Coat_fine at h
  split at h
  · split at h
    · rename_i hb
      simp only [Bool.and_eq_true, Nat.beq_eq] at hb
      subst hb
      obtain ⟨q, hq, hk⟩ := Option.bind_eq_some_iff.mp h
      exact ⟨_, _, lk_Coat_fine hG hq, rfl, (fun _ => Or.inl ⟨rfl, rfl⟩), hk⟩
    · cases h
  · cases h
theorem tb_X_fineAt : ∀ q ∈ tab_X_fineAt, ab_bk (ab_mo 41) (ab_mb 41) (ab_ml 41) 1 q.1 q.2 = true := List.all_eq_true.mp (by decide +kernel)
theorem lk_X_fineAt {l : Launch} {G : ab_Gt} (hG : ab_GG G) {p1 : Int32} {p2 : Int32} {p3 : Int32} {r : Int32} {σ σ' : Sg} (h : X_fineAt p1 p2 p3 σ = some (r, σ')) : ab_CO l G 41 (4) [(vR 0 0), (.inl p1), (.inl p2), (.inl p3)] σ (vI r) σ' := by
  obtain ⟨r0, σ2, hR, hf⟩ := ab_ev_sound (tab := tab_X_fineAt) (Os := [(32, cp_X_isCoat), (185, cp_Coat_fine), (221, cp_Text_value)]) (Ks := []) (fin := finI) hG (d := 4) (by omega) rfl (List.forall_mem_cons.mpr ⟨⟨1, by omega, cs_X_isCoat hG⟩, (List.forall_mem_cons.mpr ⟨⟨2, by omega, cs_Coat_fine hG⟩, (List.forall_mem_cons.mpr ⟨⟨3, by omega, cs_Text_value hG⟩, (fun _ h => absurd h List.not_mem_nil)⟩)⟩)⟩) (fun _ h => absurd h List.not_mem_nil) tb_X_fineAt 300 (ab_row tab_X_fineAt 0) 0 (ab_ini (ab_ml 41) [(vR 0 0), (.inl p1), (.inl p2), (.inl p3)]) [] σ (r, σ') (ab_row_bk tb_X_fineAt 0) ((e_X_fineAt _ _ _ _).trans h)
  obtain ⟨rfl, rfl⟩ := finI_inv hf
  exact ab_met (by decide) rfl (Nat.le_of_ble_eq_true rfl) hR
theorem cs_X_fineAt {l : Launch} {G : ab_Gt} (hG : ab_GG G) {R : Type} : ab_CS (R := R) l G 41 (4) cp_X_fineAt := by
  intro as σ k res h
  unfold cp_X_fineAt at h
  split at h
  · split at h
    · rename_i hb
      simp only [Bool.and_eq_true, Nat.beq_eq] at hb
      obtain ⟨hb1, hb2⟩ := hb
      subst hb1
      subst hb2
      obtain ⟨q, hq, hk⟩ := Option.bind_eq_some_iff.mp h
      exact ⟨_, _, lk_X_fineAt hG hq, rfl, (fun _ => Or.inl ⟨rfl, rfl⟩), hk⟩
    · cases h
  · cases h
theorem tb_Coat_cost : ∀ q ∈ tab_Coat_cost, ab_bk (ab_mo 186) (ab_mb 186) (ab_ml 186) 1 q.1 q.2 = true := List.all_eq_true.mp (by decide +kernel)
theorem lk_Coat_cost {l : Launch} {G : ab_Gt} (hG : ab_GG G) {p0 : Nat} {p1 : Int32} {r : Int32} {σ σ' : Sg} (h : Coat_cost p0 p1 σ = some (r, σ')) : ab_CO l G 186 (2) [(vR 1 p0), (.inl p1)] σ (vI r) σ' := by
  obtain ⟨r0, σ2, hR, hf⟩ := ab_ev_sound (tab := tab_Coat_cost) (Os := [(36, cp_X_bounded)]) (Ks := []) (fin := finI) hG (d := 2) (by omega) rfl (List.forall_mem_cons.mpr ⟨⟨1, by omega, cs_X_bounded hG⟩, (fun _ h => absurd h List.not_mem_nil)⟩) (fun _ h => absurd h List.not_mem_nil) tb_Coat_cost 300 (ab_row tab_Coat_cost 0) 0 (ab_ini (ab_ml 186) [(vR 1 p0), (.inl p1)]) [] σ (r, σ') (ab_row_bk tb_Coat_cost 0) ((e_Coat_cost _ _ _).trans h)
  obtain ⟨rfl, rfl⟩ := finI_inv hf
  exact ab_met (by decide) rfl (Nat.le_of_ble_eq_true rfl) hR
theorem cs_Coat_cost {l : Launch} {G : ab_Gt} (hG : ab_GG G) {R : Type} : ab_CS (R := R) l G 186 (2) cp_Coat_cost := by
  intro as σ k res h
  unfold cp_Coat_cost at h
  split at h
  · split at h
    · rename_i hb
      simp only [Bool.and_eq_true, Nat.beq_eq] at hb
      subst hb
      obtain ⟨q, hq, hk⟩ := Option.bind_eq_some_iff.mp h
      exact ⟨_, _, lk_Coat_cost hG hq, rfl, (fun _ => Or.inl ⟨rfl, rfl⟩), hk⟩
    · cases h
  · cases h
theorem tb_X_costAt : ∀ q ∈ tab_X_costAt, ab_bk (ab_mo 42) (ab_mb 42) (ab_ml 42) 1 q.1 q.2 = true := List.all_eq_true.mp (by decide +kernel)
theorem lk_X_costAt {l : Launch} {G : ab_Gt} (hG : ab_GG G) {p1 : Int32} {p2 : Int32} {p3 : Int32} {r : Int32} {σ σ' : Sg} (h : X_costAt p1 p2 p3 σ = some (r, σ')) : ab_CO l G 42 (4) [(vR 0 0), (.inl p1), (.inl p2), (.inl p3)] σ (vI r) σ' := by
  obtain ⟨r0, σ2, hR, hf⟩ := ab_ev_sound (tab := tab_X_costAt) (Os := [(32, cp_X_isCoat), (186, cp_Coat_cost), (221, cp_Text_value)]) (Ks := []) (fin := finI) hG (d := 4) (by omega) rfl (List.forall_mem_cons.mpr ⟨⟨1, by omega, cs_X_isCoat hG⟩, (List.forall_mem_cons.mpr ⟨⟨2, by omega, cs_Coat_cost hG⟩, (List.forall_mem_cons.mpr ⟨⟨3, by omega, cs_Text_value hG⟩, (fun _ h => absurd h List.not_mem_nil)⟩)⟩)⟩) (fun _ h => absurd h List.not_mem_nil) tb_X_costAt 300 (ab_row tab_X_costAt 0) 0 (ab_ini (ab_ml 42) [(vR 0 0), (.inl p1), (.inl p2), (.inl p3)]) [] σ (r, σ') (ab_row_bk tb_X_costAt 0) ((e_X_costAt _ _ _ _).trans h)
  obtain ⟨rfl, rfl⟩ := finI_inv hf
  exact ab_met (by decide) rfl (Nat.le_of_ble_eq_true rfl) hR
theorem cs_X_costAt {l : Launch} {G : ab_Gt} (hG : ab_GG G) {R : Type} : ab_CS (R := R) l G 42 (4) cp_X_costAt := by
  intro as σ k res h
  unfold cp_X_costAt at h
  split at h
  · split at h
    · rename_i hb
      simp only [Bool.and_eq_true, Nat.beq_eq] at hb
      obtain ⟨hb1, hb2⟩ := hb
      subst hb1
      subst hb2
      obtain ⟨q, hq, hk⟩ := Option.bind_eq_some_iff.mp h
      exact ⟨_, _, lk_X_costAt hG hq, rfl, (fun _ => Or.inl ⟨rfl, rfl⟩), hk⟩
    · cases h
  · cases h
theorem tb_X_asks : ∀ q ∈ tab_X_asks, ab_bk (ab_mo 4) (ab_mb 4) (ab_ml 4) 1 q.1 q.2 = true := List.all_eq_true.mp (by decide +kernel)
theorem lc_X_asks_J16 {l : Launch} {G : ab_Gt} (hG : ab_GG G) : ab_KS l G 4 (5) finI 16 (kc_X_asks_16 (X_asks_J16)) := by
  intro L st σ res h
  unfold kc_X_asks_16 at h
  split at h
  · split at h
    · rename_i hb
      simp only [Bool.and_eq_true, Nat.beq_eq] at hb
      obtain ⟨hb1, hb2⟩ := hb
      subst hb1
      subst hb2
      exact ab_ev_sound (tab := tab_X_asks) (Os := [(32, cp_X_isCoat), (40, cp_X_fitsAt), (41, cp_X_fineAt), (42, cp_X_costAt), (183, cp_Coat_off)]) (Ks := []) (fin := finI) hG (by omega) rfl (List.forall_mem_cons.mpr ⟨⟨1, by omega, cs_X_isCoat hG⟩, (List.forall_mem_cons.mpr ⟨⟨4, by omega, cs_X_fitsAt hG⟩, (List.forall_mem_cons.mpr ⟨⟨4, by omega, cs_X_fineAt hG⟩, (List.forall_mem_cons.mpr ⟨⟨4, by omega, cs_X_costAt hG⟩, (List.forall_mem_cons.mpr ⟨⟨1, by omega, cs_Coat_off hG⟩, (fun _ h => absurd h List.not_mem_nil)⟩)⟩)⟩)⟩)⟩) (fun _ h => absurd h List.not_mem_nil) tb_X_asks 300 (ab_row tab_X_asks 16) 16 _ _ σ res (ab_row_bk tb_X_asks 16) ((e_X_asks_J16  _ _ _ _ _ _).trans h)
    · cases h
  · cases h
theorem lk_X_asks {l : Launch} {G : ab_Gt} (hG : ab_GG G) {p1 : Int32} {p2 : Int32} {p3 : Int32} {r : Int32} {σ σ' : Sg} (h : X_asks p1 p2 p3 σ = some (r, σ')) : ab_CO l G 4 (5) [(vR 0 0), (.inl p1), (.inl p2), (.inl p3)] σ (vI r) σ' := by
  obtain ⟨r0, σ2, hR, hf⟩ := ab_ev_sound (tab := tab_X_asks) (Os := [(32, cp_X_isCoat), (40, cp_X_fitsAt), (41, cp_X_fineAt), (42, cp_X_costAt), (183, cp_Coat_off)]) (Ks := [(16, kc_X_asks_16 (X_asks_J16))]) (fin := finI) hG (d := 5) (by omega) rfl (List.forall_mem_cons.mpr ⟨⟨1, by omega, cs_X_isCoat hG⟩, (List.forall_mem_cons.mpr ⟨⟨4, by omega, cs_X_fitsAt hG⟩, (List.forall_mem_cons.mpr ⟨⟨4, by omega, cs_X_fineAt hG⟩, (List.forall_mem_cons.mpr ⟨⟨4, by omega, cs_X_costAt hG⟩, (List.forall_mem_cons.mpr ⟨⟨1, by omega, cs_Coat_off hG⟩, (fun _ h => absurd h List.not_mem_nil)⟩)⟩)⟩)⟩)⟩) (List.forall_mem_cons.mpr ⟨lc_X_asks_J16 hG, (fun _ h => absurd h List.not_mem_nil)⟩) tb_X_asks 300 (ab_row tab_X_asks 0) 0 (ab_ini (ab_ml 4) [(vR 0 0), (.inl p1), (.inl p2), (.inl p3)]) [] σ (r, σ') (ab_row_bk tb_X_asks 0) ((e_X_asks _ _ _ _).trans h)
  obtain ⟨rfl, rfl⟩ := finI_inv hf
  exact ab_met (by decide) rfl (Nat.le_of_ble_eq_true rfl) hR
theorem cs_X_asks {l : Launch} {G : ab_Gt} (hG : ab_GG G) {R : Type} : ab_CS (R := R) l G 4 (5) cp_X_asks := by
  intro as σ k res h
  unfold cp_X_asks at h
  split at h
  · split at h
    · rename_i hb
      simp only [Bool.and_eq_true, Nat.beq_eq] at hb
      obtain ⟨hb1, hb2⟩ := hb
      subst hb1
      subst hb2
      obtain ⟨q, hq, hk⟩ := Option.bind_eq_some_iff.mp h
      exact ⟨_, _, lk_X_asks hG hq, rfl, (fun _ => Or.inl ⟨rfl, rfl⟩), hk⟩
    · cases h
  · cases h
theorem tb_Tape_add : ∀ q ∈ tab_Tape_add, ab_bk (ab_mo 202) (ab_mb 202) (ab_ml 202) 3 q.1 q.2 = true := List.all_eq_true.mp (by decide +kernel)
theorem lk_Tape_add {l : Launch} {G : ab_Gt} (hG : ab_GG G) {p1 : Int32} {r : Int32} {σ σ' : Sg} (h : Tape_add p1 σ = some (r, σ')) : ab_CO l G 202 (1) [(vR 6 0), (.inl p1)] σ (vI r) σ' := by
  obtain ⟨r0, σ2, hR, hf⟩ := ab_ev_sound (tab := tab_Tape_add) (Os := []) (Ks := []) (fin := finI) hG (d := 1) (by omega) rfl (fun _ h => absurd h List.not_mem_nil) (fun _ h => absurd h List.not_mem_nil) tb_Tape_add 300 (ab_row tab_Tape_add 0) 0 (ab_ini (ab_ml 202) [(vR 6 0), (.inl p1)]) [] σ (r, σ') (ab_row_bk tb_Tape_add 0) ((e_Tape_add _ _).trans h)
  obtain ⟨rfl, rfl⟩ := finI_inv hf
  exact ab_met (by decide) rfl (Nat.le_of_ble_eq_true rfl) hR
theorem cs_Tape_add {l : Launch} {G : ab_Gt} (hG : ab_GG G) {R : Type} : ab_CS (R := R) l G 202 (1) cp_Tape_add := by
  intro as σ k res h
  unfold cp_Tape_add at h
  split at h
  · split at h
    · rename_i hb
      simp only [Bool.and_eq_true, Nat.beq_eq] at hb
      obtain ⟨hb1, hb2⟩ := hb
      subst hb1
      subst hb2
      obtain ⟨q, hq, hk⟩ := Option.bind_eq_some_iff.mp h
      exact ⟨_, _, lk_Tape_add hG hq, rfl, (fun _ => Or.inl ⟨rfl, rfl⟩), hk⟩
    · cases h
  · cases h
theorem tb_X_feed : ∀ q ∈ tab_X_feed, ab_bk (ab_mo 5) (ab_mb 5) (ab_ml 5) 1 q.1 q.2 = true := List.all_eq_true.mp (by decide +kernel)
theorem lk_X_feed {l : Launch} {G : ab_Gt} (hG : ab_GG G) {p1 : Int32} {r : Int32} {σ σ' : Sg} (h : X_feed p1 σ = some (r, σ')) : ab_CO l G 5 (2) [(vR 0 0), (.inl p1)] σ (vI r) σ' := by
  obtain ⟨r0, σ2, hR, hf⟩ := ab_ev_sound (tab := tab_X_feed) (Os := [(202, cp_Tape_add)]) (Ks := []) (fin := finI) hG (d := 2) (by omega) rfl (List.forall_mem_cons.mpr ⟨⟨1, by omega, cs_Tape_add hG⟩, (fun _ h => absurd h List.not_mem_nil)⟩) (fun _ h => absurd h List.not_mem_nil) tb_X_feed 300 (ab_row tab_X_feed 0) 0 (ab_ini (ab_ml 5) [(vR 0 0), (.inl p1)]) [] σ (r, σ') (ab_row_bk tb_X_feed 0) ((e_X_feed _ _).trans h)
  obtain ⟨rfl, rfl⟩ := finI_inv hf
  exact ab_met (by decide) rfl (Nat.le_of_ble_eq_true rfl) hR
theorem cs_X_feed {l : Launch} {G : ab_Gt} (hG : ab_GG G) {R : Type} : ab_CS (R := R) l G 5 (2) cp_X_feed := by
  intro as σ k res h
  unfold cp_X_feed at h
  split at h
  · split at h
    · rename_i hb
      simp only [Bool.and_eq_true, Nat.beq_eq] at hb
      obtain ⟨hb1, hb2⟩ := hb
      subst hb1
      subst hb2
      obtain ⟨q, hq, hk⟩ := Option.bind_eq_some_iff.mp h
      exact ⟨_, _, lk_X_feed hG hq, rfl, (fun _ => Or.inl ⟨rfl, rfl⟩), hk⟩
    · cases h
  · cases h
theorem tb_Tape_token : ∀ q ∈ tab_Tape_token, ab_bk (ab_mo 204) (ab_mb 204) (ab_ml 204) 1 q.1 q.2 = true := List.all_eq_true.mp (by decide +kernel)
theorem lk_Tape_token {l : Launch} {G : ab_Gt} (hG : ab_GG G) {p1 : Int32} {r : Int32} {σ σ' : Sg} (h : Tape_token p1 σ = some (r, σ')) : ab_CO l G 204 (1) [(vR 6 0), (.inl p1)] σ (vI r) σ' := by
  obtain ⟨r0, σ2, hR, hf⟩ := ab_ev_sound (tab := tab_Tape_token) (Os := []) (Ks := []) (fin := finI) hG (d := 1) (by omega) rfl (fun _ h => absurd h List.not_mem_nil) (fun _ h => absurd h List.not_mem_nil) tb_Tape_token 300 (ab_row tab_Tape_token 0) 0 (ab_ini (ab_ml 204) [(vR 6 0), (.inl p1)]) [] σ (r, σ') (ab_row_bk tb_Tape_token 0) ((e_Tape_token _ _).trans h)
  obtain ⟨rfl, rfl⟩ := finI_inv hf
  exact ab_met (by decide) rfl (Nat.le_of_ble_eq_true rfl) hR
theorem cs_Tape_token {l : Launch} {G : ab_Gt} (hG : ab_GG G) {R : Type} : ab_CS (R := R) l G 204 (1) cp_Tape_token := by
  intro as σ k res h
  unfold cp_Tape_token at h
  split at h
  · split at h
    · rename_i hb
      simp only [Bool.and_eq_true, Nat.beq_eq] at hb
      obtain ⟨hb1, hb2⟩ := hb
      subst hb1
      subst hb2
      obtain ⟨q, hq, hk⟩ := Option.bind_eq_some_iff.mp h
      exact ⟨_, _, lk_Tape_token hG hq, rfl, (fun _ => Or.inl ⟨rfl, rfl⟩), hk⟩
    · cases h
  · cases h
theorem tb_Reader_stepOver : ∀ q ∈ tab_Reader_stepOver, ab_bk (ab_mo 192) (ab_mb 192) (ab_ml 192) 3 q.1 q.2 = true := List.all_eq_true.mp (by decide +kernel)
theorem lk_Reader_stepOver {l : Launch} {G : ab_Gt} (hG : ab_GG G) {p1 : Int32} {r : Int32} {σ σ' : Sg} (h : Reader_stepOver p1 σ = some (r, σ')) : ab_CO l G 192 (2) [(vR 11 0), (.inl p1)] σ (vI r) σ' := by
  obtain ⟨r0, σ2, hR, hf⟩ := ab_ev_sound (tab := tab_Reader_stepOver) (Os := [(204, cp_Tape_token)]) (Ks := []) (fin := finI) hG (d := 2) (by omega) rfl (List.forall_mem_cons.mpr ⟨⟨1, by omega, cs_Tape_token hG⟩, (fun _ h => absurd h List.not_mem_nil)⟩) (fun _ h => absurd h List.not_mem_nil) tb_Reader_stepOver 300 (ab_row tab_Reader_stepOver 0) 0 (ab_ini (ab_ml 192) [(vR 11 0), (.inl p1)]) [] σ (r, σ') (ab_row_bk tb_Reader_stepOver 0) ((e_Reader_stepOver _ _).trans h)
  obtain ⟨rfl, rfl⟩ := finI_inv hf
  exact ab_met (by decide) rfl (Nat.le_of_ble_eq_true rfl) hR
theorem cs_Reader_stepOver {l : Launch} {G : ab_Gt} (hG : ab_GG G) {R : Type} : ab_CS (R := R) l G 192 (2) cp_Reader_stepOver := by
  intro as σ k res h
  unfold cp_Reader_stepOver at h
  split at h
  · split at h
    · rename_i hb
      simp only [Bool.and_eq_true, Nat.beq_eq] at hb
      obtain ⟨hb1, hb2⟩ := hb
      subst hb1
      subst hb2
      obtain ⟨q, hq, hk⟩ := Option.bind_eq_some_iff.mp h
      exact ⟨_, _, lk_Reader_stepOver hG hq, rfl, (fun _ => Or.inl ⟨rfl, rfl⟩), hk⟩
    · cases h
  · cases h
theorem tb_Reader_joins : ∀ q ∈ tab_Reader_joins, ab_bk (ab_mo 194) (ab_mb 194) (ab_ml 194) 3 q.1 q.2 = true := List.all_eq_true.mp (by decide +kernel)
theorem lk_Reader_joins {l : Launch} {G : ab_Gt} (hG : ab_GG G) {p0 : Int32} {p1 : Int32} {r : Int32} {σ σ' : Sg} (h : Reader_joins p0 p1 σ = some (r, σ')) : ab_CO l G 194 (1) [(.inl p0), (.inl p1)] σ (vI r) σ' := by
  obtain ⟨r0, σ2, hR, hf⟩ := ab_ev_sound (tab := tab_Reader_joins) (Os := []) (Ks := []) (fin := finI) hG (d := 1) (by omega) rfl (fun _ h => absurd h List.not_mem_nil) (fun _ h => absurd h List.not_mem_nil) tb_Reader_joins 300 (ab_row tab_Reader_joins 0) 0 (ab_ini (ab_ml 194) [(.inl p0), (.inl p1)]) [] σ (r, σ') (ab_row_bk tb_Reader_joins 0) ((e_Reader_joins _ _ _).trans h)
  obtain ⟨rfl, rfl⟩ := finI_inv hf
  exact ab_met (by decide) rfl (Nat.le_of_ble_eq_true rfl) hR
theorem cs_Reader_joins {l : Launch} {G : ab_Gt} (hG : ab_GG G) {R : Type} : ab_CS (R := R) l G 194 (1) cp_Reader_joins := by
  intro as σ k res h
  unfold cp_Reader_joins at h
  split at h
  · obtain ⟨q, hq, hk⟩ := Option.bind_eq_some_iff.mp h
    exact ⟨_, _, lk_Reader_joins hG hq, rfl, (fun h => by cases h), hk⟩
  · cases h
theorem tb_Text_addNumber : ∀ q ∈ tab_Text_addNumber, ab_bk (ab_mo 218) (ab_mb 218) (ab_ml 218) 0 q.1 q.2 = true := List.all_eq_true.mp (by decide +kernel)
theorem lk_Text_addNumber {l : Launch} {G : ab_Gt} (hG : ab_GG G) {p0 : Nat} {p1 : Int32} {σ σ' : Sg} (h : Text_addNumber p0 p1 σ = some σ') : ab_CO l G 218 (1) [(vR 2 p0), (.inl p1)] σ vU σ' := by
  obtain ⟨r0, σ2, hR, hf⟩ := ab_ev_sound (tab := tab_Text_addNumber) (Os := []) (Ks := []) (fin := finV) hG (d := 1) (by omega) rfl (fun _ h => absurd h List.not_mem_nil) (fun _ h => absurd h List.not_mem_nil) tb_Text_addNumber 300 (ab_row tab_Text_addNumber 0) 0 (ab_ini (ab_ml 218) [(vR 2 p0), (.inl p1)]) [] σ σ' (ab_row_bk tb_Text_addNumber 0) ((e_Text_addNumber _ _ _).trans h)
  obtain ⟨rfl, rfl⟩ := finV_inv hf
  exact ab_met (by decide) rfl (Nat.le_of_ble_eq_true rfl) hR
theorem cs_Text_addNumber {l : Launch} {G : ab_Gt} (hG : ab_GG G) {R : Type} : ab_CS (R := R) l G 218 (1) cp_Text_addNumber := by
  intro as σ k res h
  unfold cp_Text_addNumber at h
  split at h
  · split at h
    · rename_i hb
      simp only [Bool.and_eq_true, Nat.beq_eq] at hb
      subst hb
      obtain ⟨q, hq, hk⟩ := Option.bind_eq_some_iff.mp h
      exact ⟨_, _, lk_Text_addNumber hG hq, rfl, (fun _ => Or.inl ⟨rfl, rfl⟩), hk⟩
    · cases h
  · cases h
theorem tb_Text_addToken : ∀ q ∈ tab_Text_addToken, ab_bk (ab_mo 219) (ab_mb 219) (ab_ml 219) 0 q.1 q.2 = true := List.all_eq_true.mp (by decide +kernel)
theorem lk_Text_addToken {l : Launch} {G : ab_Gt} (hG : ab_GG G) {p0 : Nat} {p1 : Int32} {σ σ' : Sg} (h : Text_addToken p0 p1 σ = some σ') : ab_CO l G 219 (2) [(vR 2 p0), (.inl p1)] σ vU σ' := by
  obtain ⟨r0, σ2, hR, hf⟩ := ab_ev_sound (tab := tab_Text_addToken) (Os := [(218, cp_Text_addNumber)]) (Ks := []) (fin := finV) hG (d := 2) (by omega) rfl (List.forall_mem_cons.mpr ⟨⟨1, by omega, cs_Text_addNumber hG⟩, (fun _ h => absurd h List.not_mem_nil)⟩) (fun _ h => absurd h List.not_mem_nil) tb_Text_addToken 300 (ab_row tab_Text_addToken 0) 0 (ab_ini (ab_ml 219) [(vR 2 p0), (.inl p1)]) [] σ σ' (ab_row_bk tb_Text_addToken 0) ((e_Text_addToken _ _ _).trans h)
  obtain ⟨rfl, rfl⟩ := finV_inv hf
  exact ab_met (by decide) rfl (Nat.le_of_ble_eq_true rfl) hR
theorem cs_Text_addToken {l : Launch} {G : ab_Gt} (hG : ab_GG G) {R : Type} : ab_CS (R := R) l G 219 (2) cp_Text_addToken := by
  intro as σ k res h
  unfold cp_Text_addToken at h
  split at h
  · split at h
    · rename_i hb
      simp only [Bool.and_eq_true, Nat.beq_eq] at hb
      subst hb
      obtain ⟨q, hq, hk⟩ := Option.bind_eq_some_iff.mp h
      exact ⟨_, _, lk_Text_addToken hG hq, rfl, (fun _ => Or.inl ⟨rfl, rfl⟩), hk⟩
    · cases h
  · cases h
theorem tb_Tape_number : ∀ q ∈ tab_Tape_number, ab_bk (ab_mo 206) (ab_mb 206) (ab_ml 206) 1 q.1 q.2 = true := List.all_eq_true.mp (by decide +kernel)
theorem lk_Tape_number {l : Launch} {G : ab_Gt} (hG : ab_GG G) {p1 : Int32} {r : Int32} {σ σ' : Sg} (h : Tape_number p1 σ = some (r, σ')) : ab_CO l G 206 (1) [(vR 6 0), (.inl p1)] σ (vI r) σ' := by
  obtain ⟨r0, σ2, hR, hf⟩ := ab_ev_sound (tab := tab_Tape_number) (Os := []) (Ks := []) (fin := finI) hG (d := 1) (by omega) rfl (fun _ h => absurd h List.not_mem_nil) (fun _ h => absurd h List.not_mem_nil) tb_Tape_number 300 (ab_row tab_Tape_number 0) 0 (ab_ini (ab_ml 206) [(vR 6 0), (.inl p1)]) [] σ (r, σ') (ab_row_bk tb_Tape_number 0) ((e_Tape_number _ _).trans h)
  obtain ⟨rfl, rfl⟩ := finI_inv hf
  exact ab_met (by decide) rfl (Nat.le_of_ble_eq_true rfl) hR
theorem cs_Tape_number {l : Launch} {G : ab_Gt} (hG : ab_GG G) {R : Type} : ab_CS (R := R) l G 206 (1) cp_Tape_number := by
  intro as σ k res h
  unfold cp_Tape_number at h
  split at h
  · split at h
    · rename_i hb
      simp only [Bool.and_eq_true, Nat.beq_eq] at hb
      obtain ⟨hb1, hb2⟩ := hb
      subst hb1
      subst hb2
      obtain ⟨q, hq, hk⟩ := Option.bind_eq_some_iff.mp h
      exact ⟨_, _, lk_Tape_number hG hq, rfl, (fun _ => Or.inl ⟨rfl, rfl⟩), hk⟩
    · cases h
  · cases h
theorem tb_Tape_place : ∀ q ∈ tab_Tape_place, ab_bk (ab_mo 205) (ab_mb 205) (ab_ml 205) 1 q.1 q.2 = true := List.all_eq_true.mp (by decide +kernel)
theorem lk_Tape_place {l : Launch} {G : ab_Gt} (hG : ab_GG G) {p1 : Int32} {r : Int32} {σ σ' : Sg} (h : Tape_place p1 σ = some (r, σ')) : ab_CO l G 205 (1) [(vR 6 0), (.inl p1)] σ (vI r) σ' := by
  obtain ⟨r0, σ2, hR, hf⟩ := ab_ev_sound (tab := tab_Tape_place) (Os := []) (Ks := []) (fin := finI) hG (d := 1) (by omega) rfl (fun _ h => absurd h List.not_mem_nil) (fun _ h => absurd h List.not_mem_nil) tb_Tape_place 300 (ab_row tab_Tape_place 0) 0 (ab_ini (ab_ml 205) [(vR 6 0), (.inl p1)]) [] σ (r, σ') (ab_row_bk tb_Tape_place 0) ((e_Tape_place _ _).trans h)
  obtain ⟨rfl, rfl⟩ := finI_inv hf
  exact ab_met (by decide) rfl (Nat.le_of_ble_eq_true rfl) hR
theorem cs_Tape_place {l : Launch} {G : ab_Gt} (hG : ab_GG G) {R : Type} : ab_CS (R := R) l G 205 (1) cp_Tape_place := by
  intro as σ k res h
  unfold cp_Tape_place at h
  split at h
  · split at h
    · rename_i hb
      simp only [Bool.and_eq_true, Nat.beq_eq] at hb
      obtain ⟨hb1, hb2⟩ := hb
      subst hb1
      subst hb2
      obtain ⟨q, hq, hk⟩ := Option.bind_eq_some_iff.mp h
      exact ⟨_, _, lk_Tape_place hG hq, rfl, (fun _ => Or.inl ⟨rfl, rfl⟩), hk⟩
    · cases h
  · cases h
theorem tb_Tape_byteAt : ∀ q ∈ tab_Tape_byteAt, ab_bk (ab_mo 212) (ab_mb 212) (ab_ml 212) 1 q.1 q.2 = true := List.all_eq_true.mp (by decide +kernel)
theorem lk_Tape_byteAt {l : Launch} {G : ab_Gt} (hG : ab_GG G) {p1 : Int32} {r : Int32} {σ σ' : Sg} (h : Tape_byteAt p1 σ = some (r, σ')) : ab_CO l G 212 (1) [(vR 6 0), (.inl p1)] σ (vI r) σ' := by
  obtain ⟨r0, σ2, hR, hf⟩ := ab_ev_sound (tab := tab_Tape_byteAt) (Os := []) (Ks := []) (fin := finI) hG (d := 1) (by omega) rfl (fun _ h => absurd h List.not_mem_nil) (fun _ h => absurd h List.not_mem_nil) tb_Tape_byteAt 300 (ab_row tab_Tape_byteAt 0) 0 (ab_ini (ab_ml 212) [(vR 6 0), (.inl p1)]) [] σ (r, σ') (ab_row_bk tb_Tape_byteAt 0) ((e_Tape_byteAt _ _).trans h)
  obtain ⟨rfl, rfl⟩ := finI_inv hf
  exact ab_met (by decide) rfl (Nat.le_of_ble_eq_true rfl) hR
theorem cs_Tape_byteAt {l : Launch} {G : ab_Gt} (hG : ab_GG G) {R : Type} : ab_CS (R := R) l G 212 (1) cp_Tape_byteAt := by
  intro as σ k res h
  unfold cp_Tape_byteAt at h
  split at h
  · split at h
    · rename_i hb
      simp only [Bool.and_eq_true, Nat.beq_eq] at hb
      obtain ⟨hb1, hb2⟩ := hb
      subst hb1
      subst hb2
      obtain ⟨q, hq, hk⟩ := Option.bind_eq_some_iff.mp h
      exact ⟨_, _, lk_Tape_byteAt hG hq, rfl, (fun _ => Or.inl ⟨rfl, rfl⟩), hk⟩
    · cases h
  · cases h
theorem tb_Tape_isDigit : ∀ q ∈ tab_Tape_isDigit, ab_bk (ab_mo 215) (ab_mb 215) (ab_ml 215) 3 q.1 q.2 = true := List.all_eq_true.mp (by decide +kernel)
theorem lk_Tape_isDigit {l : Launch} {G : ab_Gt} (hG : ab_GG G) {p0 : Int32} {r : Int32} {σ σ' : Sg} (h : Tape_isDigit p0 σ = some (r, σ')) : ab_CO l G 215 (1) [(.inl p0)] σ (vI r) σ' := by
  obtain ⟨r0, σ2, hR, hf⟩ := ab_ev_sound (tab := tab_Tape_isDigit) (Os := []) (Ks := []) (fin := finI) hG (d := 1) (by omega) rfl (fun _ h => absurd h List.not_mem_nil) (fun _ h => absurd h List.not_mem_nil) tb_Tape_isDigit 300 (ab_row tab_Tape_isDigit 0) 0 (ab_ini (ab_ml 215) [(.inl p0)]) [] σ (r, σ') (ab_row_bk tb_Tape_isDigit 0) ((e_Tape_isDigit _ _).trans h)
  obtain ⟨rfl, rfl⟩ := finI_inv hf
  exact ab_met (by decide) rfl (Nat.le_of_ble_eq_true rfl) hR
theorem cs_Tape_isDigit {l : Launch} {G : ab_Gt} (hG : ab_GG G) {R : Type} : ab_CS (R := R) l G 215 (1) cp_Tape_isDigit := by
  intro as σ k res h
  unfold cp_Tape_isDigit at h
  split at h
  · obtain ⟨q, hq, hk⟩ := Option.bind_eq_some_iff.mp h
    exact ⟨_, _, lk_Tape_isDigit hG hq, rfl, (fun h => by cases h), hk⟩
  · cases h
theorem tb_Tape_scanNumber : ∀ q ∈ tab_Tape_scanNumber, ab_bk (ab_mo 209) (ab_mb 209) (ab_ml 209) 1 q.1 q.2 = true := List.all_eq_true.mp (by decide +kernel)
theorem lc_Tape_scanNumber_L4 {l : Launch} {G : ab_Gt} (hG : ab_GG G) : ∀ n : Nat, ab_KS l G 209 (2) finI 4 (kc_Tape_scanNumber_4 (Tape_scanNumber_L4 n)) := by
  intro n
  induction n with
  | zero =>
    intro L st σ res h
    unfold kc_Tape_scanNumber_4 at h
    split at h
    · split at h
      · rename_i hb
        simp only [Bool.and_eq_true, Nat.beq_eq] at hb
        obtain ⟨hb1, hb2⟩ := hb
        subst hb1
        subst hb2
        exact absurd (show none = some res from h) (fun h => by cases h)
      · cases h
    · cases h
  | succ n ih =>
    intro L st σ res h
    unfold kc_Tape_scanNumber_4 at h
    split at h
    · split at h
      · rename_i hb
        simp only [Bool.and_eq_true, Nat.beq_eq] at hb
        obtain ⟨hb1, hb2⟩ := hb
        subst hb1
        subst hb2
        exact ab_ev_sound (tab := tab_Tape_scanNumber) (Os := [(212, cp_Tape_byteAt), (215, cp_Tape_isDigit)]) (Ks := [(4, kc_Tape_scanNumber_4 (Tape_scanNumber_L4 n))]) (fin := finI) hG (by omega) rfl (List.forall_mem_cons.mpr ⟨⟨1, by omega, cs_Tape_byteAt hG⟩, (List.forall_mem_cons.mpr ⟨⟨1, by omega, cs_Tape_isDigit hG⟩, (fun _ h => absurd h List.not_mem_nil)⟩)⟩) (List.forall_mem_cons.mpr ⟨ih, (fun _ h => absurd h List.not_mem_nil)⟩) tb_Tape_scanNumber 300 (ab_row tab_Tape_scanNumber 4) 4 _ _ σ res (ab_row_bk tb_Tape_scanNumber 4) ((e_Tape_scanNumber_L4  _ _ _ _ _).trans h)
      · cases h
    · cases h
theorem lk_Tape_scanNumber {l : Launch} {G : ab_Gt} (hG : ab_GG G) {p1 : Int32} {r : Int32} {σ σ' : Sg} (h : Tape_scanNumber p1 σ = some (r, σ')) : ab_CO l G 209 (2) [(vR 6 0), (.inl p1)] σ (vI r) σ' := by
  obtain ⟨r0, σ2, hR, hf⟩ := ab_ev_sound (tab := tab_Tape_scanNumber) (Os := [(212, cp_Tape_byteAt), (215, cp_Tape_isDigit)]) (Ks := [(4, kc_Tape_scanNumber_4 (Tape_scanNumber_L4 FU))]) (fin := finI) hG (d := 2) (by omega) rfl (List.forall_mem_cons.mpr ⟨⟨1, by omega, cs_Tape_byteAt hG⟩, (List.forall_mem_cons.mpr ⟨⟨1, by omega, cs_Tape_isDigit hG⟩, (fun _ h => absurd h List.not_mem_nil)⟩)⟩) (List.forall_mem_cons.mpr ⟨lc_Tape_scanNumber_L4 hG FU, (fun _ h => absurd h List.not_mem_nil)⟩) tb_Tape_scanNumber 300 (ab_row tab_Tape_scanNumber 0) 0 (ab_ini (ab_ml 209) [(vR 6 0), (.inl p1)]) [] σ (r, σ') (ab_row_bk tb_Tape_scanNumber 0) ((e_Tape_scanNumber _ _).trans h)
  obtain ⟨rfl, rfl⟩ := finI_inv hf
  exact ab_met (by decide) rfl (Nat.le_of_ble_eq_true rfl) hR
theorem cs_Tape_scanNumber {l : Launch} {G : ab_Gt} (hG : ab_GG G) {R : Type} : ab_CS (R := R) l G 209 (2) cp_Tape_scanNumber := by
  intro as σ k res h
  unfold cp_Tape_scanNumber at h
  split at h
  · split at h
    · rename_i hb
      simp only [Bool.and_eq_true, Nat.beq_eq] at hb
      obtain ⟨hb1, hb2⟩ := hb
      subst hb1
      subst hb2
      obtain ⟨q, hq, hk⟩ := Option.bind_eq_some_iff.mp h
      exact ⟨_, _, lk_Tape_scanNumber hG hq, rfl, (fun _ => Or.inl ⟨rfl, rfl⟩), hk⟩
    · cases h
  · cases h
theorem tb_Tape_isWord : ∀ q ∈ tab_Tape_isWord, ab_bk (ab_mo 211) (ab_mb 211) (ab_ml 211) 3 q.1 q.2 = true := List.all_eq_true.mp (by decide +kernel)
theorem lc_Tape_isWord_L17 {l : Launch} {G : ab_Gt} (hG : ab_GG G) : ∀ n : Nat, ab_KS l G 211 (6) finI 17 (kc_Tape_isWord_17 (Tape_isWord_L17 n)) := by
  intro n
  induction n with
  | zero =>
    intro L st σ res h
    unfold kc_Tape_isWord_17 at h
    split at h
    · split at h
      · rename_i hb
        simp only [Bool.and_eq_true, Nat.beq_eq] at hb
        obtain ⟨⟨hb1, hb2⟩, hb3⟩ := hb
        subst hb1
        subst hb2
        subst hb3
        exact absurd (show none = some res from h) (fun h => by cases h)
      · cases h
    · cases h
  | succ n ih =>
    intro L st σ res h
    unfold kc_Tape_isWord_17 at h
    split at h
    · split at h
      · rename_i hb
        simp only [Bool.and_eq_true, Nat.beq_eq] at hb
        obtain ⟨⟨hb1, hb2⟩, hb3⟩ := hb
        subst hb1
        subst hb2
        subst hb3
        exact ab_ev_sound (tab := tab_Tape_isWord) (Os := [(212, cp_Tape_byteAt), (228, cp_Str_length), (229, cp_Str_charAt)]) (Ks := [(17, kc_Tape_isWord_17 (Tape_isWord_L17 n))]) (fin := finI) hG (by omega) rfl (List.forall_mem_cons.mpr ⟨⟨1, by omega, cs_Tape_byteAt hG⟩, (List.forall_mem_cons.mpr ⟨⟨5, by omega, cs_Str_length hG⟩, (List.forall_mem_cons.mpr ⟨⟨5, by omega, cs_Str_charAt hG⟩, (fun _ h => absurd h List.not_mem_nil)⟩)⟩)⟩) (List.forall_mem_cons.mpr ⟨ih, (fun _ h => absurd h List.not_mem_nil)⟩) tb_Tape_isWord 300 (ab_row tab_Tape_isWord 17) 17 _ _ σ res (ab_row_bk tb_Tape_isWord 17) ((e_Tape_isWord_L17  _ _ _ _ _).trans h)
      · cases h
    · cases h
theorem lk_Tape_isWord {l : Launch} {G : ab_Gt} (hG : ab_GG G) {p1 : Int32} {p2 : Nat} {r : Int32} {σ σ' : Sg} (h : Tape_isWord p1 p2 σ = some (r, σ')) : ab_CO l G 211 (6) [(vR 6 0), (.inl p1), (vR 60 p2)] σ (vI r) σ' := by
  obtain ⟨r0, σ2, hR, hf⟩ := ab_ev_sound (tab := tab_Tape_isWord) (Os := [(212, cp_Tape_byteAt), (228, cp_Str_length), (229, cp_Str_charAt)]) (Ks := [(17, kc_Tape_isWord_17 (Tape_isWord_L17 FU))]) (fin := finI) hG (d := 6) (by omega) rfl (List.forall_mem_cons.mpr ⟨⟨1, by omega, cs_Tape_byteAt hG⟩, (List.forall_mem_cons.mpr ⟨⟨5, by omega, cs_Str_length hG⟩, (List.forall_mem_cons.mpr ⟨⟨5, by omega, cs_Str_charAt hG⟩, (fun _ h => absurd h List.not_mem_nil)⟩)⟩)⟩) (List.forall_mem_cons.mpr ⟨lc_Tape_isWord_L17 hG FU, (fun _ h => absurd h List.not_mem_nil)⟩) tb_Tape_isWord 300 (ab_row tab_Tape_isWord 0) 0 (ab_ini (ab_ml 211) [(vR 6 0), (.inl p1), (vR 60 p2)]) [] σ (r, σ') (ab_row_bk tb_Tape_isWord 0) ((e_Tape_isWord _ _ _).trans h)
  obtain ⟨rfl, rfl⟩ := finI_inv hf
  exact ab_met (by decide) rfl (Nat.le_of_ble_eq_true rfl) hR
theorem cs_Tape_isWord {l : Launch} {G : ab_Gt} (hG : ab_GG G) {R : Type} : ab_CS (R := R) l G 211 (6) cp_Tape_isWord := by
  intro as σ k res h
  unfold cp_Tape_isWord at h
  split at h
  · split at h
    · rename_i hb
      simp only [Bool.and_eq_true, Nat.beq_eq] at hb
      obtain ⟨⟨hb1, hb2⟩, hb3⟩ := hb
      subst hb1
      subst hb2
      subst hb3
      obtain ⟨q, hq, hk⟩ := Option.bind_eq_some_iff.mp h
      exact ⟨_, _, lk_Tape_isWord hG hq, rfl, (fun _ => Or.inl ⟨rfl, rfl⟩), hk⟩
    · cases h
  · cases h
theorem tb_Tape_isLetter : ∀ q ∈ tab_Tape_isLetter, ab_bk (ab_mo 214) (ab_mb 214) (ab_ml 214) 3 q.1 q.2 = true := List.all_eq_true.mp (by decide +kernel)
theorem lk_Tape_isLetter {l : Launch} {G : ab_Gt} (hG : ab_GG G) {p0 : Int32} {r : Int32} {σ σ' : Sg} (h : Tape_isLetter p0 σ = some (r, σ')) : ab_CO l G 214 (1) [(.inl p0)] σ (vI r) σ' := by
  obtain ⟨r0, σ2, hR, hf⟩ := ab_ev_sound (tab := tab_Tape_isLetter) (Os := []) (Ks := []) (fin := finI) hG (d := 1) (by omega) rfl (fun _ h => absurd h List.not_mem_nil) (fun _ h => absurd h List.not_mem_nil) tb_Tape_isLetter 300 (ab_row tab_Tape_isLetter 0) 0 (ab_ini (ab_ml 214) [(.inl p0)]) [] σ (r, σ') (ab_row_bk tb_Tape_isLetter 0) ((e_Tape_isLetter _ _).trans h)
  obtain ⟨rfl, rfl⟩ := finI_inv hf
  exact ab_met (by decide) rfl (Nat.le_of_ble_eq_true rfl) hR
theorem cs_Tape_isLetter {l : Launch} {G : ab_Gt} (hG : ab_GG G) {R : Type} : ab_CS (R := R) l G 214 (1) cp_Tape_isLetter := by
  intro as σ k res h
  unfold cp_Tape_isLetter at h
  split at h
  · obtain ⟨q, hq, hk⟩ := Option.bind_eq_some_iff.mp h
    exact ⟨_, _, lk_Tape_isLetter hG hq, rfl, (fun h => by cases h), hk⟩
  · cases h
theorem tb_Tape_scanWord : ∀ q ∈ tab_Tape_scanWord, ab_bk (ab_mo 210) (ab_mb 210) (ab_ml 210) 1 q.1 q.2 = true := List.all_eq_true.mp (by decide +kernel)
theorem lc_Tape_scanWord_J39 {l : Launch} {G : ab_Gt} (hG : ab_GG G) : ab_KS l G 210 (7) finI 39 (kc_Tape_scanWord_39 (Tape_scanWord_J39)) := by
  intro L st σ res h
  unfold kc_Tape_scanWord_39 at h
  split at h
  · split at h
    · rename_i hb
      simp only [Bool.and_eq_true, Nat.beq_eq] at hb
      obtain ⟨hb1, hb2⟩ := hb
      subst hb1
      subst hb2
      exact ab_ev_sound (tab := tab_Tape_scanWord) (Os := [(211, cp_Tape_isWord), (212, cp_Tape_byteAt), (214, cp_Tape_isLetter)]) (Ks := []) (fin := finI) hG (by omega) rfl (List.forall_mem_cons.mpr ⟨⟨6, by omega, cs_Tape_isWord hG⟩, (List.forall_mem_cons.mpr ⟨⟨1, by omega, cs_Tape_byteAt hG⟩, (List.forall_mem_cons.mpr ⟨⟨1, by omega, cs_Tape_isLetter hG⟩, (fun _ h => absurd h List.not_mem_nil)⟩)⟩)⟩) (fun _ h => absurd h List.not_mem_nil) tb_Tape_scanWord 300 (ab_row tab_Tape_scanWord 39) 39 _ _ σ res (ab_row_bk tb_Tape_scanWord 39) ((e_Tape_scanWord_J39  _ _ _).trans h)
    · cases h
  · cases h
theorem lc_Tape_scanWord_L2 {l : Launch} {G : ab_Gt} (hG : ab_GG G) : ∀ n : Nat, ab_KS l G 210 (7) finI 2 (kc_Tape_scanWord_2 (Tape_scanWord_L2 n)) := by
  intro n
  induction n with
  | zero =>
    intro L st σ res h
    unfold kc_Tape_scanWord_2 at h
    split at h
    · split at h
      · rename_i hb
        simp only [Bool.and_eq_true, Nat.beq_eq] at hb
        obtain ⟨hb1, hb2⟩ := hb
        subst hb1
        subst hb2
        exact absurd (show none = some res from h) (fun h => by cases h)
      · cases h
    · cases h
  | succ n ih =>
    intro L st σ res h
    unfold kc_Tape_scanWord_2 at h
    split at h
    · split at h
      · rename_i hb
        simp only [Bool.and_eq_true, Nat.beq_eq] at hb
        obtain ⟨hb1, hb2⟩ := hb
        subst hb1
        subst hb2
        exact ab_ev_sound (tab := tab_Tape_scanWord) (Os := [(211, cp_Tape_isWord), (212, cp_Tape_byteAt), (214, cp_Tape_isLetter)]) (Ks := [(2, kc_Tape_scanWord_2 (Tape_scanWord_L2 n)), (39, kc_Tape_scanWord_39 (Tape_scanWord_J39))]) (fin := finI) hG (by omega) rfl (List.forall_mem_cons.mpr ⟨⟨6, by omega, cs_Tape_isWord hG⟩, (List.forall_mem_cons.mpr ⟨⟨1, by omega, cs_Tape_byteAt hG⟩, (List.forall_mem_cons.mpr ⟨⟨1, by omega, cs_Tape_isLetter hG⟩, (fun _ h => absurd h List.not_mem_nil)⟩)⟩)⟩) (List.forall_mem_cons.mpr ⟨ih, (List.forall_mem_cons.mpr ⟨lc_Tape_scanWord_J39 hG, (fun _ h => absurd h List.not_mem_nil)⟩)⟩) tb_Tape_scanWord 300 (ab_row tab_Tape_scanWord 2) 2 _ _ σ res (ab_row_bk tb_Tape_scanWord 2) ((e_Tape_scanWord_L2  _ _ _ _).trans h)
      · cases h
    · cases h
theorem lk_Tape_scanWord {l : Launch} {G : ab_Gt} (hG : ab_GG G) {p1 : Int32} {r : Int32} {σ σ' : Sg} (h : Tape_scanWord p1 σ = some (r, σ')) : ab_CO l G 210 (7) [(vR 6 0), (.inl p1)] σ (vI r) σ' := by
  obtain ⟨r0, σ2, hR, hf⟩ := ab_ev_sound (tab := tab_Tape_scanWord) (Os := [(211, cp_Tape_isWord), (212, cp_Tape_byteAt), (214, cp_Tape_isLetter)]) (Ks := [(2, kc_Tape_scanWord_2 (Tape_scanWord_L2 FU))]) (fin := finI) hG (d := 7) (by omega) rfl (List.forall_mem_cons.mpr ⟨⟨6, by omega, cs_Tape_isWord hG⟩, (List.forall_mem_cons.mpr ⟨⟨1, by omega, cs_Tape_byteAt hG⟩, (List.forall_mem_cons.mpr ⟨⟨1, by omega, cs_Tape_isLetter hG⟩, (fun _ h => absurd h List.not_mem_nil)⟩)⟩)⟩) (List.forall_mem_cons.mpr ⟨lc_Tape_scanWord_L2 hG FU, (fun _ h => absurd h List.not_mem_nil)⟩) tb_Tape_scanWord 300 (ab_row tab_Tape_scanWord 0) 0 (ab_ini (ab_ml 210) [(vR 6 0), (.inl p1)]) [] σ (r, σ') (ab_row_bk tb_Tape_scanWord 0) ((e_Tape_scanWord _ _).trans h)
  obtain ⟨rfl, rfl⟩ := finI_inv hf
  exact ab_met (by decide) rfl (Nat.le_of_ble_eq_true rfl) hR
theorem cs_Tape_scanWord {l : Launch} {G : ab_Gt} (hG : ab_GG G) {R : Type} : ab_CS (R := R) l G 210 (7) cp_Tape_scanWord := by
  intro as σ k res h
  unfold cp_Tape_scanWord at h
  split at h
  · split at h
    · rename_i hb
      simp only [Bool.and_eq_true, Nat.beq_eq] at hb
      obtain ⟨hb1, hb2⟩ := hb
      subst hb1
      subst hb2
      obtain ⟨q, hq, hk⟩ := Option.bind_eq_some_iff.mp h
      exact ⟨_, _, lk_Tape_scanWord hG hq, rfl, (fun _ => Or.inl ⟨rfl, rfl⟩), hk⟩
    · cases h
  · cases h
theorem tb_Tape_isSign : ∀ q ∈ tab_Tape_isSign, ab_bk (ab_mo 216) (ab_mb 216) (ab_ml 216) 3 q.1 q.2 = true := List.all_eq_true.mp (by decide +kernel)
theorem lk_Tape_isSign {l : Launch} {G : ab_Gt} (hG : ab_GG G) {p0 : Int32} {r : Int32} {σ σ' : Sg} (h : Tape_isSign p0 σ = some (r, σ')) : ab_CO l G 216 (1) [(.inl p0)] σ (vI r) σ' := by
  obtain ⟨r0, σ2, hR, hf⟩ := ab_ev_sound (tab := tab_Tape_isSign) (Os := []) (Ks := []) (fin := finI) hG (d := 1) (by omega) rfl (fun _ h => absurd h List.not_mem_nil) (fun _ h => absurd h List.not_mem_nil) tb_Tape_isSign 300 (ab_row tab_Tape_isSign 0) 0 (ab_ini (ab_ml 216) [(.inl p0)]) [] σ (r, σ') (ab_row_bk tb_Tape_isSign 0) ((e_Tape_isSign _ _).trans h)
  obtain ⟨rfl, rfl⟩ := finI_inv hf
  exact ab_met (by decide) rfl (Nat.le_of_ble_eq_true rfl) hR
theorem cs_Tape_isSign {l : Launch} {G : ab_Gt} (hG : ab_GG G) {R : Type} : ab_CS (R := R) l G 216 (1) cp_Tape_isSign := by
  intro as σ k res h
  unfold cp_Tape_isSign at h
  split at h
  · obtain ⟨q, hq, hk⟩ := Option.bind_eq_some_iff.mp h
    exact ⟨_, _, lk_Tape_isSign hG hq, rfl, (fun h => by cases h), hk⟩
  · cases h
theorem tb_Tape_scanOne : ∀ q ∈ tab_Tape_scanOne, ab_bk (ab_mo 208) (ab_mb 208) (ab_ml 208) 1 q.1 q.2 = true := List.all_eq_true.mp (by decide +kernel)
theorem lk_Tape_scanOne {l : Launch} {G : ab_Gt} (hG : ab_GG G) {p1 : Int32} {r : Int32} {σ σ' : Sg} (h : Tape_scanOne p1 σ = some (r, σ')) : ab_CO l G 208 (8) [(vR 6 0), (.inl p1)] σ (vI r) σ' := by
  obtain ⟨r0, σ2, hR, hf⟩ := ab_ev_sound (tab := tab_Tape_scanOne) (Os := [(209, cp_Tape_scanNumber), (210, cp_Tape_scanWord), (212, cp_Tape_byteAt), (214, cp_Tape_isLetter), (215, cp_Tape_isDigit), (216, cp_Tape_isSign)]) (Ks := []) (fin := finI) hG (d := 8) (by omega) rfl (List.forall_mem_cons.mpr ⟨⟨2, by omega, cs_Tape_scanNumber hG⟩, (List.forall_mem_cons.mpr ⟨⟨7, by omega, cs_Tape_scanWord hG⟩, (List.forall_mem_cons.mpr ⟨⟨1, by omega, cs_Tape_byteAt hG⟩, (List.forall_mem_cons.mpr ⟨⟨1, by omega, cs_Tape_isLetter hG⟩, (List.forall_mem_cons.mpr ⟨⟨1, by omega, cs_Tape_isDigit hG⟩, (List.forall_mem_cons.mpr ⟨⟨1, by omega, cs_Tape_isSign hG⟩, (fun _ h => absurd h List.not_mem_nil)⟩)⟩)⟩)⟩)⟩)⟩) (fun _ h => absurd h List.not_mem_nil) tb_Tape_scanOne 300 (ab_row tab_Tape_scanOne 0) 0 (ab_ini (ab_ml 208) [(vR 6 0), (.inl p1)]) [] σ (r, σ') (ab_row_bk tb_Tape_scanOne 0) ((e_Tape_scanOne _ _).trans h)
  obtain ⟨rfl, rfl⟩ := finI_inv hf
  exact ab_met (by decide) rfl (Nat.le_of_ble_eq_true rfl) hR
theorem cs_Tape_scanOne {l : Launch} {G : ab_Gt} (hG : ab_GG G) {R : Type} : ab_CS (R := R) l G 208 (8) cp_Tape_scanOne := by
  intro as σ k res h
  unfold cp_Tape_scanOne at h
  split at h
  · split at h
    · rename_i hb
      simp only [Bool.and_eq_true, Nat.beq_eq] at hb
      obtain ⟨hb1, hb2⟩ := hb
      subst hb1
      subst hb2
      obtain ⟨q, hq, hk⟩ := Option.bind_eq_some_iff.mp h
      exact ⟨_, _, lk_Tape_scanOne hG hq, rfl, (fun _ => Or.inl ⟨rfl, rfl⟩), hk⟩
    · cases h
  · cases h
theorem tb_Tape_isBlank : ∀ q ∈ tab_Tape_isBlank, ab_bk (ab_mo 213) (ab_mb 213) (ab_ml 213) 3 q.1 q.2 = true := List.all_eq_true.mp (by decide +kernel)
theorem lk_Tape_isBlank {l : Launch} {G : ab_Gt} (hG : ab_GG G) {p0 : Int32} {r : Int32} {σ σ' : Sg} (h : Tape_isBlank p0 σ = some (r, σ')) : ab_CO l G 213 (1) [(.inl p0)] σ (vI r) σ' := by
  obtain ⟨r0, σ2, hR, hf⟩ := ab_ev_sound (tab := tab_Tape_isBlank) (Os := []) (Ks := []) (fin := finI) hG (d := 1) (by omega) rfl (fun _ h => absurd h List.not_mem_nil) (fun _ h => absurd h List.not_mem_nil) tb_Tape_isBlank 300 (ab_row tab_Tape_isBlank 0) 0 (ab_ini (ab_ml 213) [(.inl p0)]) [] σ (r, σ') (ab_row_bk tb_Tape_isBlank 0) ((e_Tape_isBlank _ _).trans h)
  obtain ⟨rfl, rfl⟩ := finI_inv hf
  exact ab_met (by decide) rfl (Nat.le_of_ble_eq_true rfl) hR
theorem cs_Tape_isBlank {l : Launch} {G : ab_Gt} (hG : ab_GG G) {R : Type} : ab_CS (R := R) l G 213 (1) cp_Tape_isBlank := by
  intro as σ k res h
  unfold cp_Tape_isBlank at h
  split at h
  · obtain ⟨q, hq, hk⟩ := Option.bind_eq_some_iff.mp h
    exact ⟨_, _, lk_Tape_isBlank hG hq, rfl, (fun h => by cases h), hk⟩
  · cases h
theorem tb_Tape_scan : ∀ q ∈ tab_Tape_scan, ab_bk (ab_mo 207) (ab_mb 207) (ab_ml 207) 0 q.1 q.2 = true := List.all_eq_true.mp (by decide +kernel)
theorem lc_Tape_scan_J58 {l : Launch} {G : ab_Gt} (hG : ab_GG G) {k12 : Int32 → Sg → Option (Sg)} (h12 : ab_KS l G 207 (9) finV 12 (kc_Tape_scan_12 k12)) : ab_KS l G 207 (9) finV 58 (kc_Tape_scan_58 (Tape_scan_J58 k12)) := by
  intro L st σ res h
  unfold kc_Tape_scan_58 at h
  split at h
  · split at h
    · rename_i hb
      simp only [Bool.and_eq_true, Nat.beq_eq] at hb
      obtain ⟨hb1, hb2⟩ := hb
      subst hb1
      subst hb2
      exact ab_ev_sound (tab := tab_Tape_scan) (Os := [(208, cp_Tape_scanOne), (212, cp_Tape_byteAt), (213, cp_Tape_isBlank)]) (Ks := [(12, kc_Tape_scan_12 k12)]) (fin := finV) hG (by omega) rfl (List.forall_mem_cons.mpr ⟨⟨8, by omega, cs_Tape_scanOne hG⟩, (List.forall_mem_cons.mpr ⟨⟨1, by omega, cs_Tape_byteAt hG⟩, (List.forall_mem_cons.mpr ⟨⟨1, by omega, cs_Tape_isBlank hG⟩, (fun _ h => absurd h List.not_mem_nil)⟩)⟩)⟩) (List.forall_mem_cons.mpr ⟨h12, (fun _ h => absurd h List.not_mem_nil)⟩) tb_Tape_scan 300 (ab_row tab_Tape_scan 58) 58 _ _ σ res (ab_row_bk tb_Tape_scan 58) ((e_Tape_scan_J58 _ _ _ _).trans h)
    · cases h
  · cases h
theorem lc_Tape_scan_L21 {l : Launch} {G : ab_Gt} (hG : ab_GG G) {k12 : Int32 → Sg → Option (Sg)} (h12 : ab_KS l G 207 (9) finV 12 (kc_Tape_scan_12 k12)) : ∀ n : Nat, ab_KS l G 207 (9) finV 21 (kc_Tape_scan_21 (Tape_scan_L21 k12 n)) := by
  intro n
  induction n with
  | zero =>
    intro L st σ res h
    unfold kc_Tape_scan_21 at h
    split at h
    · split at h
      · rename_i hb
        simp only [Bool.and_eq_true, Nat.beq_eq] at hb
        obtain ⟨hb1, hb2⟩ := hb
        subst hb1
        subst hb2
        exact absurd (show none = some res from h) (fun h => by cases h)
      · cases h
    · cases h
  | succ n ih =>
    intro L st σ res h
    unfold kc_Tape_scan_21 at h
    split at h
    · split at h
      · rename_i hb
        simp only [Bool.and_eq_true, Nat.beq_eq] at hb
        obtain ⟨hb1, hb2⟩ := hb
        subst hb1
        subst hb2
        exact ab_ev_sound (tab := tab_Tape_scan) (Os := [(208, cp_Tape_scanOne), (212, cp_Tape_byteAt), (213, cp_Tape_isBlank)]) (Ks := [(21, kc_Tape_scan_21 (Tape_scan_L21 k12 n)), (58, kc_Tape_scan_58 (Tape_scan_J58 k12))]) (fin := finV) hG (by omega) rfl (List.forall_mem_cons.mpr ⟨⟨8, by omega, cs_Tape_scanOne hG⟩, (List.forall_mem_cons.mpr ⟨⟨1, by omega, cs_Tape_byteAt hG⟩, (List.forall_mem_cons.mpr ⟨⟨1, by omega, cs_Tape_isBlank hG⟩, (fun _ h => absurd h List.not_mem_nil)⟩)⟩)⟩) (List.forall_mem_cons.mpr ⟨ih, (List.forall_mem_cons.mpr ⟨lc_Tape_scan_J58 hG h12, (fun _ h => absurd h List.not_mem_nil)⟩)⟩) tb_Tape_scan 300 (ab_row tab_Tape_scan 21) 21 _ _ σ res (ab_row_bk tb_Tape_scan 21) ((e_Tape_scan_L21 _ _ _ _ _).trans h)
      · cases h
    · cases h
theorem lc_Tape_scan_L12 {l : Launch} {G : ab_Gt} (hG : ab_GG G) : ∀ n : Nat, ab_KS l G 207 (9) finV 12 (kc_Tape_scan_12 (Tape_scan_L12 n)) := by
  intro n
  induction n with
  | zero =>
    intro L st σ res h
    unfold kc_Tape_scan_12 at h
    split at h
    · split at h
      · rename_i hb
        simp only [Bool.and_eq_true, Nat.beq_eq] at hb
        obtain ⟨hb1, hb2⟩ := hb
        subst hb1
        subst hb2
        exact absurd (show none = some res from h) (fun h => by cases h)
      · cases h
    · cases h
  | succ n ih =>
    intro L st σ res h
    unfold kc_Tape_scan_12 at h
    split at h
    · split at h
      · rename_i hb
        simp only [Bool.and_eq_true, Nat.beq_eq] at hb
        obtain ⟨hb1, hb2⟩ := hb
        subst hb1
        subst hb2
        exact ab_ev_sound (tab := tab_Tape_scan) (Os := [(208, cp_Tape_scanOne), (212, cp_Tape_byteAt), (213, cp_Tape_isBlank)]) (Ks := [(21, kc_Tape_scan_21 (Tape_scan_L21 (fun y0 τ => Tape_scan_L12 n y0 τ) FU))]) (fin := finV) hG (by omega) rfl (List.forall_mem_cons.mpr ⟨⟨8, by omega, cs_Tape_scanOne hG⟩, (List.forall_mem_cons.mpr ⟨⟨1, by omega, cs_Tape_byteAt hG⟩, (List.forall_mem_cons.mpr ⟨⟨1, by omega, cs_Tape_isBlank hG⟩, (fun _ h => absurd h List.not_mem_nil)⟩)⟩)⟩) (List.forall_mem_cons.mpr ⟨lc_Tape_scan_L21 hG ih FU, (fun _ h => absurd h List.not_mem_nil)⟩) tb_Tape_scan 300 (ab_row tab_Tape_scan 12) 12 _ _ σ res (ab_row_bk tb_Tape_scan 12) ((e_Tape_scan_L12  _ _ _ _).trans h)
      · cases h
    · cases h
theorem lk_Tape_scan {l : Launch} {G : ab_Gt} (hG : ab_GG G) {σ σ' : Sg} (h : Tape_scan  σ = some σ') : ab_CO l G 207 (9) [(vR 6 0)] σ vU σ' := by
  obtain ⟨r0, σ2, hR, hf⟩ := ab_ev_sound (tab := tab_Tape_scan) (Os := [(208, cp_Tape_scanOne), (212, cp_Tape_byteAt), (213, cp_Tape_isBlank)]) (Ks := [(12, kc_Tape_scan_12 (Tape_scan_L12 FU))]) (fin := finV) hG (d := 9) (by omega) rfl (List.forall_mem_cons.mpr ⟨⟨8, by omega, cs_Tape_scanOne hG⟩, (List.forall_mem_cons.mpr ⟨⟨1, by omega, cs_Tape_byteAt hG⟩, (List.forall_mem_cons.mpr ⟨⟨1, by omega, cs_Tape_isBlank hG⟩, (fun _ h => absurd h List.not_mem_nil)⟩)⟩)⟩) (List.forall_mem_cons.mpr ⟨lc_Tape_scan_L12 hG FU, (fun _ h => absurd h List.not_mem_nil)⟩) tb_Tape_scan 300 (ab_row tab_Tape_scan 0) 0 (ab_ini (ab_ml 207) [(vR 6 0)]) [] σ σ' (ab_row_bk tb_Tape_scan 0) ((e_Tape_scan _).trans h)
  obtain ⟨rfl, rfl⟩ := finV_inv hf
  exact ab_met (by decide) rfl (Nat.le_of_ble_eq_true rfl) hR
theorem cs_Tape_scan {l : Launch} {G : ab_Gt} (hG : ab_GG G) {R : Type} : ab_CS (R := R) l G 207 (9) cp_Tape_scan := by
  intro as σ k res h
  unfold cp_Tape_scan at h
  split at h
  · split at h
    · rename_i hb
      simp only [Bool.and_eq_true, Nat.beq_eq] at hb
      obtain ⟨hb1, hb2⟩ := hb
      subst hb1
      subst hb2
      obtain ⟨q, hq, hk⟩ := Option.bind_eq_some_iff.mp h
      exact ⟨_, _, lk_Tape_scan hG hq, rfl, (fun _ => Or.inl ⟨rfl, rfl⟩), hk⟩
    · cases h
  · cases h
theorem tb_Text_clear : ∀ q ∈ tab_Text_clear, ab_bk (ab_mo 217) (ab_mb 217) (ab_ml 217) 0 q.1 q.2 = true := List.all_eq_true.mp (by decide +kernel)
theorem lk_Text_clear {l : Launch} {G : ab_Gt} (hG : ab_GG G) {p0 : Nat} {σ σ' : Sg} (h : Text_clear p0 σ = some σ') : ab_CO l G 217 (1) [(vR 2 p0)] σ vU σ' := by
  obtain ⟨r0, σ2, hR, hf⟩ := ab_ev_sound (tab := tab_Text_clear) (Os := []) (Ks := []) (fin := finV) hG (d := 1) (by omega) rfl (fun _ h => absurd h List.not_mem_nil) (fun _ h => absurd h List.not_mem_nil) tb_Text_clear 300 (ab_row tab_Text_clear 0) 0 (ab_ini (ab_ml 217) [(vR 2 p0)]) [] σ σ' (ab_row_bk tb_Text_clear 0) ((e_Text_clear _ _).trans h)
  obtain ⟨rfl, rfl⟩ := finV_inv hf
  exact ab_met (by decide) rfl (Nat.le_of_ble_eq_true rfl) hR
theorem cs_Text_clear {l : Launch} {G : ab_Gt} (hG : ab_GG G) {R : Type} : ab_CS (R := R) l G 217 (1) cp_Text_clear := by
  intro as σ k res h
  unfold cp_Text_clear at h
  split at h
  · split at h
    · rename_i hb
      simp only [Bool.and_eq_true, Nat.beq_eq] at hb
      subst hb
      obtain ⟨q, hq, hk⟩ := Option.bind_eq_some_iff.mp h
      exact ⟨_, _, lk_Text_clear hG hq, rfl, (fun _ => Or.inl ⟨rfl, rfl⟩), hk⟩
    · cases h
  · cases h
theorem tb_Text_endPart : ∀ q ∈ tab_Text_endPart, ab_bk (ab_mo 220) (ab_mb 220) (ab_ml 220) 0 q.1 q.2 = true := List.all_eq_true.mp (by decide +kernel)
theorem lk_Text_endPart {l : Launch} {G : ab_Gt} (hG : ab_GG G) {p0 : Nat} {p1 : Int32} {σ σ' : Sg} (h : Text_endPart p0 p1 σ = some σ') : ab_CO l G 220 (1) [(vR 2 p0), (.inl p1)] σ vU σ' := by
  obtain ⟨r0, σ2, hR, hf⟩ := ab_ev_sound (tab := tab_Text_endPart) (Os := []) (Ks := []) (fin := finV) hG (d := 1) (by omega) rfl (fun _ h => absurd h List.not_mem_nil) (fun _ h => absurd h List.not_mem_nil) tb_Text_endPart 300 (ab_row tab_Text_endPart 0) 0 (ab_ini (ab_ml 220) [(vR 2 p0), (.inl p1)]) [] σ σ' (ab_row_bk tb_Text_endPart 0) ((e_Text_endPart _ _ _).trans h)
  obtain ⟨rfl, rfl⟩ := finV_inv hf
  exact ab_met (by decide) rfl (Nat.le_of_ble_eq_true rfl) hR
theorem cs_Text_endPart {l : Launch} {G : ab_Gt} (hG : ab_GG G) {R : Type} : ab_CS (R := R) l G 220 (1) cp_Text_endPart := by
  intro as σ k res h
  unfold cp_Text_endPart at h
  split at h
  · split at h
    · rename_i hb
      simp only [Bool.and_eq_true, Nat.beq_eq] at hb
      subst hb
      obtain ⟨q, hq, hk⟩ := Option.bind_eq_some_iff.mp h
      exact ⟨_, _, lk_Text_endPart hG hq, rfl, (fun _ => Or.inl ⟨rfl, rfl⟩), hk⟩
    · cases h
  · cases h
theorem tb_Reader_prefixed : ∀ q ∈ tab_Reader_prefixed, ab_bk (ab_mo 196) (ab_mb 196) (ab_ml 196) 3 q.1 q.2 = true := List.all_eq_true.mp (by decide +kernel)
theorem lk_Reader_prefixed {rc : Nat → Int32 → Int32 → Sg → Option (Int32 × Sg)} {l : Launch} {G : ab_Gt} (hG : ab_GG G) {dr : Nat} (hdr : 10 ≤ dr) (hrc : ∀ {R : Type}, ab_CS (R := R) l G 193 dr (cp_Reader_level rc)) {p1 : Nat} {p2 : Int32} {p3 : Int32} {p4 : Int32} {r : Int32} {σ σ' : Sg} (h : Reader_prefixed rc p1 p2 p3 p4 σ = some (r, σ')) : ab_CO l G 196 (dr + 1) [(vR 11 0), (vR 2 p1), (.inl p2), (.inl p3), (.inl p4)] σ (vI r) σ' := by
  obtain ⟨r0, σ2, hR, hf⟩ := ab_ev_sound (tab := tab_Reader_prefixed) (Os := [(193, (cp_Reader_level rc)), (219, cp_Text_addToken)]) (Ks := []) (fin := finI) hG (d := dr + 1) (by omega) rfl (List.forall_mem_cons.mpr ⟨⟨dr, by omega, hrc⟩, (List.forall_mem_cons.mpr ⟨⟨2, by omega, cs_Text_addToken hG⟩, (fun _ h => absurd h List.not_mem_nil)⟩)⟩) (fun _ h => absurd h List.not_mem_nil) tb_Reader_prefixed 300 (ab_row tab_Reader_prefixed 0) 0 (ab_ini (ab_ml 196) [(vR 11 0), (vR 2 p1), (.inl p2), (.inl p3), (.inl p4)]) [] σ (r, σ') (ab_row_bk tb_Reader_prefixed 0) ((e_Reader_prefixed _ _ _ _ _ _).trans h)
  obtain ⟨rfl, rfl⟩ := finI_inv hf
  exact ab_met (by decide) rfl (Nat.le_of_ble_eq_true rfl) hR
theorem cs_Reader_prefixed {rc : Nat → Int32 → Int32 → Sg → Option (Int32 × Sg)} {l : Launch} {G : ab_Gt} (hG : ab_GG G) {dr : Nat} (hdr : 10 ≤ dr) (hrc : ∀ {R : Type}, ab_CS (R := R) l G 193 dr (cp_Reader_level rc)) {R : Type} : ab_CS (R := R) l G 196 (dr + 1) (cp_Reader_prefixed rc) := by
  intro as σ k res h
  unfold cp_Reader_prefixed at h
  split at h
  · split at h
    · rename_i hb
      simp only [Bool.and_eq_true, Nat.beq_eq] at hb
      obtain ⟨⟨hb1, hb2⟩, hb3⟩ := hb
      subst hb1
      subst hb2
      subst hb3
      obtain ⟨q, hq, hk⟩ := Option.bind_eq_some_iff.mp h
      exact ⟨_, _, lk_Reader_prefixed hG hdr hrc hq, rfl, (fun _ => Or.inl ⟨rfl, rfl⟩), hk⟩
    · cases h
  · cases h
theorem tb_Reader_bracketed : ∀ q ∈ tab_Reader_bracketed, ab_bk (ab_mo 197) (ab_mb 197) (ab_ml 197) 3 q.1 q.2 = true := List.all_eq_true.mp (by decide +kernel)
theorem lk_Reader_bracketed {rc : Nat → Int32 → Int32 → Sg → Option (Int32 × Sg)} {l : Launch} {G : ab_Gt} (hG : ab_GG G) {dr : Nat} (hdr : 10 ≤ dr) (hrc : ∀ {R : Type}, ab_CS (R := R) l G 193 dr (cp_Reader_level rc)) {p1 : Nat} {p2 : Int32} {r : Int32} {σ σ' : Sg} (h : Reader_bracketed rc p1 p2 σ = some (r, σ')) : ab_CO l G 197 (dr + 1) [(vR 11 0), (vR 2 p1), (.inl p2)] σ (vI r) σ' := by
  obtain ⟨r0, σ2, hR, hf⟩ := ab_ev_sound (tab := tab_Reader_bracketed) (Os := [(192, cp_Reader_stepOver), (193, (cp_Reader_level rc))]) (Ks := []) (fin := finI) hG (d := dr + 1) (by omega) rfl (List.forall_mem_cons.mpr ⟨⟨2, by omega, cs_Reader_stepOver hG⟩, (List.forall_mem_cons.mpr ⟨⟨dr, by omega, hrc⟩, (fun _ h => absurd h List.not_mem_nil)⟩)⟩) (fun _ h => absurd h List.not_mem_nil) tb_Reader_bracketed 300 (ab_row tab_Reader_bracketed 0) 0 (ab_ini (ab_ml 197) [(vR 11 0), (vR 2 p1), (.inl p2)]) [] σ (r, σ') (ab_row_bk tb_Reader_bracketed 0) ((e_Reader_bracketed _ _ _ _).trans h)
  obtain ⟨rfl, rfl⟩ := finI_inv hf
  exact ab_met (by decide) rfl (Nat.le_of_ble_eq_true rfl) hR
theorem cs_Reader_bracketed {rc : Nat → Int32 → Int32 → Sg → Option (Int32 × Sg)} {l : Launch} {G : ab_Gt} (hG : ab_GG G) {dr : Nat} (hdr : 10 ≤ dr) (hrc : ∀ {R : Type}, ab_CS (R := R) l G 193 dr (cp_Reader_level rc)) {R : Type} : ab_CS (R := R) l G 197 (dr + 1) (cp_Reader_bracketed rc) := by
  intro as σ k res h
  unfold cp_Reader_bracketed at h
  split at h
  · split at h
    · rename_i hb
      simp only [Bool.and_eq_true, Nat.beq_eq] at hb
      obtain ⟨⟨hb1, hb2⟩, hb3⟩ := hb
      subst hb1
      subst hb2
      subst hb3
      obtain ⟨q, hq, hk⟩ := Option.bind_eq_some_iff.mp h
      exact ⟨_, _, lk_Reader_bracketed hG hdr hrc hq, rfl, (fun _ => Or.inl ⟨rfl, rfl⟩), hk⟩
    · cases h
  · cases h
theorem tb_Reader_one : ∀ q ∈ tab_Reader_one, ab_bk (ab_mo 195) (ab_mb 195) (ab_ml 195) 3 q.1 q.2 = true := List.all_eq_true.mp (by decide +kernel)
theorem lk_Reader_one {rc : Nat → Int32 → Int32 → Sg → Option (Int32 × Sg)} {l : Launch} {G : ab_Gt} (hG : ab_GG G) {dr : Nat} (hdr : 10 ≤ dr) (hrc : ∀ {R : Type}, ab_CS (R := R) l G 193 dr (cp_Reader_level rc)) {p1 : Nat} {p2 : Int32} {r : Int32} {σ σ' : Sg} (h : Reader_one rc p1 p2 σ = some (r, σ')) : ab_CO l G 195 (dr + 2) [(vR 11 0), (vR 2 p1), (.inl p2)] σ (vI r) σ' := by
  obtain ⟨r0, σ2, hR, hf⟩ := ab_ev_sound (tab := tab_Reader_one) (Os := [(196, (cp_Reader_prefixed rc)), (197, (cp_Reader_bracketed rc)), (204, cp_Tape_token), (206, cp_Tape_number), (218, cp_Text_addNumber), (219, cp_Text_addToken)]) (Ks := []) (fin := finI) hG (d := dr + 2) (by omega) rfl (List.forall_mem_cons.mpr ⟨⟨dr + 1, by omega, cs_Reader_prefixed hG hdr hrc⟩, (List.forall_mem_cons.mpr ⟨⟨dr + 1, by omega, cs_Reader_bracketed hG hdr hrc⟩, (List.forall_mem_cons.mpr ⟨⟨1, by omega, cs_Tape_token hG⟩, (List.forall_mem_cons.mpr ⟨⟨1, by omega, cs_Tape_number hG⟩, (List.forall_mem_cons.mpr ⟨⟨1, by omega, cs_Text_addNumber hG⟩, (List.forall_mem_cons.mpr ⟨⟨2, by omega, cs_Text_addToken hG⟩, (fun _ h => absurd h List.not_mem_nil)⟩)⟩)⟩)⟩)⟩)⟩) (fun _ h => absurd h List.not_mem_nil) tb_Reader_one 300 (ab_row tab_Reader_one 0) 0 (ab_ini (ab_ml 195) [(vR 11 0), (vR 2 p1), (.inl p2)]) [] σ (r, σ') (ab_row_bk tb_Reader_one 0) ((e_Reader_one _ _ _ _).trans h)
  obtain ⟨rfl, rfl⟩ := finI_inv hf
  exact ab_met (by decide) rfl (Nat.le_of_ble_eq_true rfl) hR
theorem cs_Reader_one {rc : Nat → Int32 → Int32 → Sg → Option (Int32 × Sg)} {l : Launch} {G : ab_Gt} (hG : ab_GG G) {dr : Nat} (hdr : 10 ≤ dr) (hrc : ∀ {R : Type}, ab_CS (R := R) l G 193 dr (cp_Reader_level rc)) {R : Type} : ab_CS (R := R) l G 195 (dr + 2) (cp_Reader_one rc) := by
  intro as σ k res h
  unfold cp_Reader_one at h
  split at h
  · split at h
    · rename_i hb
      simp only [Bool.and_eq_true, Nat.beq_eq] at hb
      obtain ⟨⟨hb1, hb2⟩, hb3⟩ := hb
      subst hb1
      subst hb2
      subst hb3
      obtain ⟨q, hq, hk⟩ := Option.bind_eq_some_iff.mp h
      exact ⟨_, _, lk_Reader_one hG hdr hrc hq, rfl, (fun _ => Or.inl ⟨rfl, rfl⟩), hk⟩
    · cases h
  · cases h
theorem tb_Reader_level : ∀ q ∈ tab_Reader_level, ab_bk (ab_mo 193) (ab_mb 193) (ab_ml 193) 3 q.1 q.2 = true := List.all_eq_true.mp (by decide +kernel)
theorem lc_Reader_level_L76 {rc : Nat → Int32 → Int32 → Sg → Option (Int32 × Sg)} {l : Launch} {G : ab_Gt} (hG : ab_GG G) {dr : Nat} (hdr : 10 ≤ dr) (hrc : ∀ {R : Type}, ab_CS (R := R) l G 193 dr (cp_Reader_level rc)) : ∀ n : Nat, ab_KS l G 193 (dr + 3) finI 76 (kc_Reader_level_76 (Reader_level_L76 rc n)) := by
  intro n
  induction n with
  | zero =>
    intro L st σ res h
    unfold kc_Reader_level_76 at h
    split at h
    · split at h
      · rename_i hb
        simp only [Bool.and_eq_true, Nat.beq_eq] at hb
        obtain ⟨⟨hb1, hb2⟩, hb3⟩ := hb
        subst hb1
        subst hb2
        subst hb3
        exact absurd (show none = some res from h) (fun h => by cases h)
      · cases h
    · cases h
  | succ n ih =>
    intro L st σ res h
    unfold kc_Reader_level_76 at h
    split at h
    · split at h
      · rename_i hb
        simp only [Bool.and_eq_true, Nat.beq_eq] at hb
        obtain ⟨⟨hb1, hb2⟩, hb3⟩ := hb
        subst hb1
        subst hb2
        subst hb3
        exact ab_ev_sound (tab := tab_Reader_level) (Os := [(193, (cp_Reader_level rc)), (194, cp_Reader_joins), (195, (cp_Reader_one rc)), (196, (cp_Reader_prefixed rc)), (204, cp_Tape_token), (219, cp_Text_addToken)]) (Ks := [(76, kc_Reader_level_76 (Reader_level_L76 rc n))]) (fin := finI) hG (by omega) rfl (List.forall_mem_cons.mpr ⟨⟨dr, by omega, hrc⟩, (List.forall_mem_cons.mpr ⟨⟨1, by omega, cs_Reader_joins hG⟩, (List.forall_mem_cons.mpr ⟨⟨dr + 2, by omega, cs_Reader_one hG hdr hrc⟩, (List.forall_mem_cons.mpr ⟨⟨dr + 1, by omega, cs_Reader_prefixed hG hdr hrc⟩, (List.forall_mem_cons.mpr ⟨⟨1, by omega, cs_Tape_token hG⟩, (List.forall_mem_cons.mpr ⟨⟨2, by omega, cs_Text_addToken hG⟩, (fun _ h => absurd h List.not_mem_nil)⟩)⟩)⟩)⟩)⟩)⟩) (List.forall_mem_cons.mpr ⟨ih, (fun _ h => absurd h List.not_mem_nil)⟩) tb_Reader_level 300 (ab_row tab_Reader_level 76) 76 _ _ σ res (ab_row_bk tb_Reader_level 76) ((e_Reader_level_L76 _  _ _ _ _ _ _ _ _).trans h)
      · cases h
    · cases h
theorem lc_Reader_level_J45 {rc : Nat → Int32 → Int32 → Sg → Option (Int32 × Sg)} {l : Launch} {G : ab_Gt} (hG : ab_GG G) {dr : Nat} (hdr : 10 ≤ dr) (hrc : ∀ {R : Type}, ab_CS (R := R) l G 193 dr (cp_Reader_level rc)) : ab_KS l G 193 (dr + 3) finI 45 (kc_Reader_level_45 (Reader_level_J45 rc)) := by
  intro L st σ res h
  unfold kc_Reader_level_45 at h
  split at h
  · split at h
    · rename_i hb
      simp only [Bool.and_eq_true, Nat.beq_eq] at hb
      obtain ⟨⟨hb1, hb2⟩, hb3⟩ := hb
      subst hb1
      subst hb2
      subst hb3
      exact ab_ev_sound (tab := tab_Reader_level) (Os := [(193, (cp_Reader_level rc)), (194, cp_Reader_joins), (195, (cp_Reader_one rc)), (196, (cp_Reader_prefixed rc)), (204, cp_Tape_token), (219, cp_Text_addToken)]) (Ks := [(76, kc_Reader_level_76 (Reader_level_L76 rc FU))]) (fin := finI) hG (by omega) rfl (List.forall_mem_cons.mpr ⟨⟨dr, by omega, hrc⟩, (List.forall_mem_cons.mpr ⟨⟨1, by omega, cs_Reader_joins hG⟩, (List.forall_mem_cons.mpr ⟨⟨dr + 2, by omega, cs_Reader_one hG hdr hrc⟩, (List.forall_mem_cons.mpr ⟨⟨dr + 1, by omega, cs_Reader_prefixed hG hdr hrc⟩, (List.forall_mem_cons.mpr ⟨⟨1, by omega, cs_Tape_token hG⟩, (List.forall_mem_cons.mpr ⟨⟨2, by omega, cs_Text_addToken hG⟩, (fun _ h => absurd h List.not_mem_nil)⟩)⟩)⟩)⟩)⟩)⟩) (List.forall_mem_cons.mpr ⟨lc_Reader_level_L76 hG hdr hrc FU, (fun _ h => absurd h List.not_mem_nil)⟩) tb_Reader_level 300 (ab_row tab_Reader_level 45) 45 _ _ σ res (ab_row_bk tb_Reader_level 45) ((e_Reader_level_J45 _  _ _ _ _ _ _ _).trans h)
    · cases h
  · cases h
theorem lk_Reader_level {rc : Nat → Int32 → Int32 → Sg → Option (Int32 × Sg)} {l : Launch} {G : ab_Gt} (hG : ab_GG G) {dr : Nat} (hdr : 10 ≤ dr) (hrc : ∀ {R : Type}, ab_CS (R := R) l G 193 dr (cp_Reader_level rc)) {p1 : Nat} {p2 : Int32} {p3 : Int32} {r : Int32} {σ σ' : Sg} (h : Reader_levelB rc p1 p2 p3 σ = some (r, σ')) : ab_CO l G 193 (dr + 3) [(vR 11 0), (vR 2 p1), (.inl p2), (.inl p3)] σ (vI r) σ' := by
  obtain ⟨r0, σ2, hR, hf⟩ := ab_ev_sound (tab := tab_Reader_level) (Os := [(193, (cp_Reader_level rc)), (194, cp_Reader_joins), (195, (cp_Reader_one rc)), (196, (cp_Reader_prefixed rc)), (204, cp_Tape_token), (219, cp_Text_addToken)]) (Ks := [(45, kc_Reader_level_45 (Reader_level_J45 rc))]) (fin := finI) hG (d := dr + 3) (by omega) rfl (List.forall_mem_cons.mpr ⟨⟨dr, by omega, hrc⟩, (List.forall_mem_cons.mpr ⟨⟨1, by omega, cs_Reader_joins hG⟩, (List.forall_mem_cons.mpr ⟨⟨dr + 2, by omega, cs_Reader_one hG hdr hrc⟩, (List.forall_mem_cons.mpr ⟨⟨dr + 1, by omega, cs_Reader_prefixed hG hdr hrc⟩, (List.forall_mem_cons.mpr ⟨⟨1, by omega, cs_Tape_token hG⟩, (List.forall_mem_cons.mpr ⟨⟨2, by omega, cs_Text_addToken hG⟩, (fun _ h => absurd h List.not_mem_nil)⟩)⟩)⟩)⟩)⟩)⟩) (List.forall_mem_cons.mpr ⟨lc_Reader_level_J45 hG hdr hrc, (fun _ h => absurd h List.not_mem_nil)⟩) tb_Reader_level 300 (ab_row tab_Reader_level 0) 0 (ab_ini (ab_ml 193) [(vR 11 0), (vR 2 p1), (.inl p2), (.inl p3)]) [] σ (r, σ') (ab_row_bk tb_Reader_level 0) ((e_Reader_level _ _ _ _ _).trans h)
  obtain ⟨rfl, rfl⟩ := finI_inv hf
  exact ab_met (by decide) rfl (Nat.le_of_ble_eq_true rfl) hR
theorem cs_Reader_level {l : Launch} {G : ab_Gt} (hG : ab_GG G) : ∀ (n : Nat) {R : Type}, ab_CS (R := R) l G 193 (12 + 3 * n) (cp_Reader_level (Reader_level n)) := by
  intro n
  induction n with
  | zero =>
    intro R as σ k res h
    unfold cp_Reader_level at h
    split at h
    · split at h
      · exact absurd (show none = some res from h) (fun h => by cases h)
      · cases h
    · cases h
  | succ n ih =>
    intro R as σ k res h
    unfold cp_Reader_level at h
    split at h
    · split at h
      · rename_i hb
        simp only [Bool.and_eq_true, Nat.beq_eq] at hb
        obtain ⟨⟨hb1, hb2⟩, hb3⟩ := hb
        subst hb1
        subst hb2
        subst hb3
        obtain ⟨q, hq, hk⟩ := Option.bind_eq_some_iff.mp h
        have e : 12 + 3 * (n + 1) = 12 + 3 * n + 3 := by omega
        rw [e]
        exact ⟨_, _, lk_Reader_level hG (by omega) (fun {R} => ih) hq, rfl, (fun _ => Or.inl ⟨rfl, rfl⟩), hk⟩
      · cases h
    · cases h
theorem cs_Reader_level_RD {l : Launch} {G : ab_Gt} (hG : ab_GG G) {R : Type} : ab_CS (R := R) l G 193 132 (cp_Reader_level (Reader_level RD)) := by
  rw [RD_eq]
  exact cs_Reader_level hG 40
theorem tb_Reader_readText : ∀ q ∈ tab_Reader_readText, ab_bk (ab_mo 191) (ab_mb 191) (ab_ml 191) 1 q.1 q.2 = true := List.all_eq_true.mp (by decide +kernel)
theorem lc_Reader_readText_L18 {l : Launch} {G : ab_Gt} (hG : ab_GG G) : ∀ n : Nat, ab_KS l G 191 (133) finI 18 (kc_Reader_readText_18 (Reader_readText_L18 n)) := by
  intro n
  induction n with
  | zero =>
    intro L st σ res h
    unfold kc_Reader_readText_18 at h
    split at h
    · split at h
      · rename_i hb
        simp only [Bool.and_eq_true, Nat.beq_eq] at hb
        obtain ⟨⟨hb1, hb2⟩, hb3⟩ := hb
        subst hb1
        subst hb2
        subst hb3
        exact absurd (show none = some res from h) (fun h => by cases h)
      · cases h
    · cases h
  | succ n ih =>
    intro L st σ res h
    unfold kc_Reader_readText_18 at h
    split at h
    · split at h
      · rename_i hb
        simp only [Bool.and_eq_true, Nat.beq_eq] at hb
        obtain ⟨⟨hb1, hb2⟩, hb3⟩ := hb
        subst hb1
        subst hb2
        subst hb3
        exact ab_ev_sound (tab := tab_Reader_readText) (Os := [(192, cp_Reader_stepOver), (193, (cp_Reader_level (Reader_level RD))), (204, cp_Tape_token), (205, cp_Tape_place), (207, cp_Tape_scan), (217, cp_Text_clear), (220, cp_Text_endPart)]) (Ks := [(18, kc_Reader_readText_18 (Reader_readText_L18 n))]) (fin := finI) hG (by omega) rfl (List.forall_mem_cons.mpr ⟨⟨2, by omega, cs_Reader_stepOver hG⟩, (List.forall_mem_cons.mpr ⟨⟨132, by omega, cs_Reader_level_RD hG⟩, (List.forall_mem_cons.mpr ⟨⟨1, by omega, cs_Tape_token hG⟩, (List.forall_mem_cons.mpr ⟨⟨1, by omega, cs_Tape_place hG⟩, (List.forall_mem_cons.mpr ⟨⟨9, by omega, cs_Tape_scan hG⟩, (List.forall_mem_cons.mpr ⟨⟨1, by omega, cs_Text_clear hG⟩, (List.forall_mem_cons.mpr ⟨⟨1, by omega, cs_Text_endPart hG⟩, (fun _ h => absurd h List.not_mem_nil)⟩)⟩)⟩)⟩)⟩)⟩)⟩) (List.forall_mem_cons.mpr ⟨ih, (fun _ h => absurd h List.not_mem_nil)⟩) tb_Reader_readText 300 (ab_row tab_Reader_readText 18) 18 _ _ σ res (ab_row_bk tb_Reader_readText 18) ((e_Reader_readText_L18  _ _ _ _).trans h)
      · cases h
    · cases h
theorem lk_Reader_readText {l : Launch} {G : ab_Gt} (hG : ab_GG G) {p1 : Nat} {r : Int32} {σ σ' : Sg} (h : Reader_readText p1 σ = some (r, σ')) : ab_CO l G 191 (133) [(vR 11 0), (vR 2 p1)] σ (vI r) σ' := by
  obtain ⟨r0, σ2, hR, hf⟩ := ab_ev_sound (tab := tab_Reader_readText) (Os := [(192, cp_Reader_stepOver), (193, (cp_Reader_level (Reader_level RD))), (204, cp_Tape_token), (205, cp_Tape_place), (207, cp_Tape_scan), (217, cp_Text_clear), (220, cp_Text_endPart)]) (Ks := [(18, kc_Reader_readText_18 (Reader_readText_L18 FU))]) (fin := finI) hG (d := 133) (by omega) rfl (List.forall_mem_cons.mpr ⟨⟨2, by omega, cs_Reader_stepOver hG⟩, (List.forall_mem_cons.mpr ⟨⟨132, by omega, cs_Reader_level_RD hG⟩, (List.forall_mem_cons.mpr ⟨⟨1, by omega, cs_Tape_token hG⟩, (List.forall_mem_cons.mpr ⟨⟨1, by omega, cs_Tape_place hG⟩, (List.forall_mem_cons.mpr ⟨⟨9, by omega, cs_Tape_scan hG⟩, (List.forall_mem_cons.mpr ⟨⟨1, by omega, cs_Text_clear hG⟩, (List.forall_mem_cons.mpr ⟨⟨1, by omega, cs_Text_endPart hG⟩, (fun _ h => absurd h List.not_mem_nil)⟩)⟩)⟩)⟩)⟩)⟩)⟩) (List.forall_mem_cons.mpr ⟨lc_Reader_readText_L18 hG FU, (fun _ h => absurd h List.not_mem_nil)⟩) tb_Reader_readText 300 (ab_row tab_Reader_readText 0) 0 (ab_ini (ab_ml 191) [(vR 11 0), (vR 2 p1)]) [] σ (r, σ') (ab_row_bk tb_Reader_readText 0) ((e_Reader_readText _ _).trans h)
  obtain ⟨rfl, rfl⟩ := finI_inv hf
  exact ab_met (by decide) rfl (Nat.le_of_ble_eq_true rfl) hR
theorem cs_Reader_readText {l : Launch} {G : ab_Gt} (hG : ab_GG G) {R : Type} : ab_CS (R := R) l G 191 (133) cp_Reader_readText := by
  intro as σ k res h
  unfold cp_Reader_readText at h
  split at h
  · split at h
    · rename_i hb
      simp only [Bool.and_eq_true, Nat.beq_eq] at hb
      obtain ⟨⟨hb1, hb2⟩, hb3⟩ := hb
      subst hb1
      subst hb2
      subst hb3
      obtain ⟨q, hq, hk⟩ := Option.bind_eq_some_iff.mp h
      exact ⟨_, _, lk_Reader_readText hG hq, rfl, (fun _ => Or.inl ⟨rfl, rfl⟩), hk⟩
    · cases h
  · cases h
theorem tb_Tape_clear : ∀ q ∈ tab_Tape_clear, ab_bk (ab_mo 203) (ab_mb 203) (ab_ml 203) 0 q.1 q.2 = true := List.all_eq_true.mp (by decide +kernel)
theorem lk_Tape_clear {l : Launch} {G : ab_Gt} (hG : ab_GG G) {σ σ' : Sg} (h : Tape_clear  σ = some σ') : ab_CO l G 203 (1) [(vR 6 0)] σ vU σ' := by
  obtain ⟨r0, σ2, hR, hf⟩ := ab_ev_sound (tab := tab_Tape_clear) (Os := []) (Ks := []) (fin := finV) hG (d := 1) (by omega) rfl (fun _ h => absurd h List.not_mem_nil) (fun _ h => absurd h List.not_mem_nil) tb_Tape_clear 300 (ab_row tab_Tape_clear 0) 0 (ab_ini (ab_ml 203) [(vR 6 0)]) [] σ σ' (ab_row_bk tb_Tape_clear 0) ((e_Tape_clear _).trans h)
  obtain ⟨rfl, rfl⟩ := finV_inv hf
  exact ab_met (by decide) rfl (Nat.le_of_ble_eq_true rfl) hR
theorem cs_Tape_clear {l : Launch} {G : ab_Gt} (hG : ab_GG G) {R : Type} : ab_CS (R := R) l G 203 (1) cp_Tape_clear := by
  intro as σ k res h
  unfold cp_Tape_clear at h
  split at h
  · split at h
    · rename_i hb
      simp only [Bool.and_eq_true, Nat.beq_eq] at hb
      obtain ⟨hb1, hb2⟩ := hb
      subst hb1
      subst hb2
      obtain ⟨q, hq, hk⟩ := Option.bind_eq_some_iff.mp h
      exact ⟨_, _, lk_Tape_clear hG hq, rfl, (fun _ => Or.inl ⟨rfl, rfl⟩), hk⟩
    · cases h
  · cases h
theorem tb_X_text : ∀ q ∈ tab_X_text, ab_bk (ab_mo 6) (ab_mb 6) (ab_ml 6) 1 q.1 q.2 = true := List.all_eq_true.mp (by decide +kernel)
theorem lk_X_text {l : Launch} {G : ab_Gt} (hG : ab_GG G) {r : Int32} {σ σ' : Sg} (h : X_text  σ = some (r, σ')) : ab_CO l G 6 (134) [(vR 0 0)] σ (vI r) σ' := by
  obtain ⟨r0, σ2, hR, hf⟩ := ab_ev_sound (tab := tab_X_text) (Os := [(191, cp_Reader_readText), (203, cp_Tape_clear)]) (Ks := []) (fin := finI) hG (d := 134) (by omega) rfl (List.forall_mem_cons.mpr ⟨⟨133, by omega, cs_Reader_readText hG⟩, (List.forall_mem_cons.mpr ⟨⟨1, by omega, cs_Tape_clear hG⟩, (fun _ h => absurd h List.not_mem_nil)⟩)⟩) (fun _ h => absurd h List.not_mem_nil) tb_X_text 300 (ab_row tab_X_text 0) 0 (ab_ini (ab_ml 6) [(vR 0 0)]) [] σ (r, σ') (ab_row_bk tb_X_text 0) ((e_X_text _).trans h)
  obtain ⟨rfl, rfl⟩ := finI_inv hf
  exact ab_met (by decide) rfl (Nat.le_of_ble_eq_true rfl) hR
theorem cs_X_text {l : Launch} {G : ab_Gt} (hG : ab_GG G) {R : Type} : ab_CS (R := R) l G 6 (134) cp_X_text := by
  intro as σ k res h
  unfold cp_X_text at h
  split at h
  · split at h
    · rename_i hb
      simp only [Bool.and_eq_true, Nat.beq_eq] at hb
      obtain ⟨hb1, hb2⟩ := hb
      subst hb1
      subst hb2
      obtain ⟨q, hq, hk⟩ := Option.bind_eq_some_iff.mp h
      exact ⟨_, _, lk_X_text hG hq, rfl, (fun _ => Or.inl ⟨rfl, rfl⟩), hk⟩
    · cases h
  · cases h
theorem tb_X_force : ∀ q ∈ tab_X_force, ab_bk (ab_mo 7) (ab_mb 7) (ab_ml 7) 1 q.1 q.2 = true := List.all_eq_true.mp (by decide +kernel)
theorem lk_X_force {l : Launch} {G : ab_Gt} (hG : ab_GG G) {p1 : Int32} {r : Int32} {σ σ' : Sg} (h : X_force p1 σ = some (r, σ')) : ab_CO l G 7 (1) [(vR 0 0), (.inl p1)] σ (vI r) σ' := by
  obtain ⟨r0, σ2, hR, hf⟩ := ab_ev_sound (tab := tab_X_force) (Os := []) (Ks := []) (fin := finI) hG (d := 1) (by omega) rfl (fun _ h => absurd h List.not_mem_nil) (fun _ h => absurd h List.not_mem_nil) tb_X_force 300 (ab_row tab_X_force 0) 0 (ab_ini (ab_ml 7) [(vR 0 0), (.inl p1)]) [] σ (r, σ') (ab_row_bk tb_X_force 0) ((e_X_force _ _).trans h)
  obtain ⟨rfl, rfl⟩ := finI_inv hf
  exact ab_met (by decide) rfl (Nat.le_of_ble_eq_true rfl) hR
theorem cs_X_force {l : Launch} {G : ab_Gt} (hG : ab_GG G) {R : Type} : ab_CS (R := R) l G 7 (1) cp_X_force := by
  intro as σ k res h
  unfold cp_X_force at h
  split at h
  · split at h
    · rename_i hb
      simp only [Bool.and_eq_true, Nat.beq_eq] at hb
      obtain ⟨hb1, hb2⟩ := hb
      subst hb1
      subst hb2
      obtain ⟨q, hq, hk⟩ := Option.bind_eq_some_iff.mp h
      exact ⟨_, _, lk_X_force hG hq, rfl, (fun _ => Or.inl ⟨rfl, rfl⟩), hk⟩
    · cases h
  · cases h
theorem tb_X_isPush : ∀ q ∈ tab_X_isPush, ab_bk (ab_mo 34) (ab_mb 34) (ab_ml 34) 3 q.1 q.2 = true := List.all_eq_true.mp (by decide +kernel)
theorem lk_X_isPush {l : Launch} {G : ab_Gt} (hG : ab_GG G) {p0 : Int32} {r : Int32} {σ σ' : Sg} (h : X_isPush p0 σ = some (r, σ')) : ab_CO l G 34 (1) [(.inl p0)] σ (vI r) σ' := by
  obtain ⟨r0, σ2, hR, hf⟩ := ab_ev_sound (tab := tab_X_isPush) (Os := []) (Ks := []) (fin := finI) hG (d := 1) (by omega) rfl (fun _ h => absurd h List.not_mem_nil) (fun _ h => absurd h List.not_mem_nil) tb_X_isPush 300 (ab_row tab_X_isPush 0) 0 (ab_ini (ab_ml 34) [(.inl p0)]) [] σ (r, σ') (ab_row_bk tb_X_isPush 0) ((e_X_isPush _ _).trans h)
  obtain ⟨rfl, rfl⟩ := finI_inv hf
  exact ab_met (by decide) rfl (Nat.le_of_ble_eq_true rfl) hR
theorem cs_X_isPush {l : Launch} {G : ab_Gt} (hG : ab_GG G) {R : Type} : ab_CS (R := R) l G 34 (1) cp_X_isPush := by
  intro as σ k res h
  unfold cp_X_isPush at h
  split at h
  · obtain ⟨q, hq, hk⟩ := Option.bind_eq_some_iff.mp h
    exact ⟨_, _, lk_X_isPush hG hq, rfl, (fun h => by cases h), hk⟩
  · cases h
theorem tb_X_push : ∀ q ∈ tab_X_push, ab_bk (ab_mo 8) (ab_mb 8) (ab_ml 8) 1 q.1 q.2 = true := List.all_eq_true.mp (by decide +kernel)
theorem lc_X_push_L27 {l : Launch} {G : ab_Gt} (hG : ab_GG G) : ∀ n : Nat, ab_KS l G 8 (3) finI 27 (kc_X_push_27 (X_push_L27 n)) := by
  intro n
  induction n with
  | zero =>
    intro L st σ res h
    unfold kc_X_push_27 at h
    split at h
    · split at h
      · rename_i hb
        simp only [Bool.and_eq_true, Nat.beq_eq] at hb
        obtain ⟨hb1, hb2⟩ := hb
        subst hb1
        subst hb2
        exact absurd (show none = some res from h) (fun h => by cases h)
      · cases h
    · cases h
  | succ n ih =>
    intro L st σ res h
    unfold kc_X_push_27 at h
    split at h
    · split at h
      · rename_i hb
        simp only [Bool.and_eq_true, Nat.beq_eq] at hb
        obtain ⟨hb1, hb2⟩ := hb
        subst hb1
        subst hb2
        exact ab_ev_sound (tab := tab_X_push) (Os := [(29, cp_X_isOne), (30, cp_X_isHour), (34, cp_X_isPush), (36, cp_X_bounded), (38, cp_X_moodAt), (39, cp_X_giveMood)]) (Ks := [(27, kc_X_push_27 (X_push_L27 n))]) (fin := finI) hG (by omega) rfl (List.forall_mem_cons.mpr ⟨⟨1, by omega, cs_X_isOne hG⟩, (List.forall_mem_cons.mpr ⟨⟨1, by omega, cs_X_isHour hG⟩, (List.forall_mem_cons.mpr ⟨⟨1, by omega, cs_X_isPush hG⟩, (List.forall_mem_cons.mpr ⟨⟨1, by omega, cs_X_bounded hG⟩, (List.forall_mem_cons.mpr ⟨⟨2, by omega, cs_X_moodAt hG⟩, (List.forall_mem_cons.mpr ⟨⟨2, by omega, cs_X_giveMood hG⟩, (fun _ h => absurd h List.not_mem_nil)⟩)⟩)⟩)⟩)⟩)⟩) (List.forall_mem_cons.mpr ⟨ih, (fun _ h => absurd h List.not_mem_nil)⟩) tb_X_push 300 (ab_row tab_X_push 27) 27 _ _ σ res (ab_row_bk tb_X_push 27) ((e_X_push_L27  _ _ _ _ _ _).trans h)
      · cases h
    · cases h
theorem lk_X_push {l : Launch} {G : ab_Gt} (hG : ab_GG G) {p1 : Int32} {p2 : Int32} {p3 : Int32} {r : Int32} {σ σ' : Sg} (h : X_push p1 p2 p3 σ = some (r, σ')) : ab_CO l G 8 (3) [(vR 0 0), (.inl p1), (.inl p2), (.inl p3)] σ (vI r) σ' := by
  obtain ⟨r0, σ2, hR, hf⟩ := ab_ev_sound (tab := tab_X_push) (Os := [(29, cp_X_isOne), (30, cp_X_isHour), (34, cp_X_isPush), (36, cp_X_bounded), (38, cp_X_moodAt), (39, cp_X_giveMood)]) (Ks := [(27, kc_X_push_27 (X_push_L27 FU))]) (fin := finI) hG (d := 3) (by omega) rfl (List.forall_mem_cons.mpr ⟨⟨1, by omega, cs_X_isOne hG⟩, (List.forall_mem_cons.mpr ⟨⟨1, by omega, cs_X_isHour hG⟩, (List.forall_mem_cons.mpr ⟨⟨1, by omega, cs_X_isPush hG⟩, (List.forall_mem_cons.mpr ⟨⟨1, by omega, cs_X_bounded hG⟩, (List.forall_mem_cons.mpr ⟨⟨2, by omega, cs_X_moodAt hG⟩, (List.forall_mem_cons.mpr ⟨⟨2, by omega, cs_X_giveMood hG⟩, (fun _ h => absurd h List.not_mem_nil)⟩)⟩)⟩)⟩)⟩)⟩) (List.forall_mem_cons.mpr ⟨lc_X_push_L27 hG FU, (fun _ h => absurd h List.not_mem_nil)⟩) tb_X_push 300 (ab_row tab_X_push 0) 0 (ab_ini (ab_ml 8) [(vR 0 0), (.inl p1), (.inl p2), (.inl p3)]) [] σ (r, σ') (ab_row_bk tb_X_push 0) ((e_X_push _ _ _ _).trans h)
  obtain ⟨rfl, rfl⟩ := finI_inv hf
  exact ab_met (by decide) rfl (Nat.le_of_ble_eq_true rfl) hR
theorem cs_X_push {l : Launch} {G : ab_Gt} (hG : ab_GG G) {R : Type} : ab_CS (R := R) l G 8 (3) cp_X_push := by
  intro as σ k res h
  unfold cp_X_push at h
  split at h
  · split at h
    · rename_i hb
      simp only [Bool.and_eq_true, Nat.beq_eq] at hb
      obtain ⟨hb1, hb2⟩ := hb
      subst hb1
      subst hb2
      obtain ⟨q, hq, hk⟩ := Option.bind_eq_some_iff.mp h
      exact ⟨_, _, lk_X_push hG hq, rfl, (fun _ => Or.inl ⟨rfl, rfl⟩), hk⟩
    · cases h
  · cases h
theorem tb_X_isSheet : ∀ q ∈ tab_X_isSheet, ab_bk (ab_mo 33) (ab_mb 33) (ab_ml 33) 3 q.1 q.2 = true := List.all_eq_true.mp (by decide +kernel)
theorem lk_X_isSheet {l : Launch} {G : ab_Gt} (hG : ab_GG G) {p0 : Int32} {r : Int32} {σ σ' : Sg} (h : X_isSheet p0 σ = some (r, σ')) : ab_CO l G 33 (1) [(.inl p0)] σ (vI r) σ' := by
  obtain ⟨r0, σ2, hR, hf⟩ := ab_ev_sound (tab := tab_X_isSheet) (Os := []) (Ks := []) (fin := finI) hG (d := 1) (by omega) rfl (fun _ h => absurd h List.not_mem_nil) (fun _ h => absurd h List.not_mem_nil) tb_X_isSheet 300 (ab_row tab_X_isSheet 0) 0 (ab_ini (ab_ml 33) [(.inl p0)]) [] σ (r, σ') (ab_row_bk tb_X_isSheet 0) ((e_X_isSheet _ _).trans h)
  obtain ⟨rfl, rfl⟩ := finI_inv hf
  exact ab_met (by decide) rfl (Nat.le_of_ble_eq_true rfl) hR
theorem cs_X_isSheet {l : Launch} {G : ab_Gt} (hG : ab_GG G) {R : Type} : ab_CS (R := R) l G 33 (1) cp_X_isSheet := by
  intro as σ k res h
  unfold cp_X_isSheet at h
  split at h
  · obtain ⟨q, hq, hk⟩ := Option.bind_eq_some_iff.mp h
    exact ⟨_, _, lk_X_isSheet hG hq, rfl, (fun h => by cases h), hk⟩
  · cases h
theorem tb_Sheet_hasRow : ∀ q ∈ tab_Sheet_hasRow, ab_bk (ab_mo 201) (ab_mb 201) (ab_ml 201) 3 q.1 q.2 = true := List.all_eq_true.mp (by decide +kernel)
theorem lk_Sheet_hasRow {l : Launch} {G : ab_Gt} (hG : ab_GG G) {p0 : Nat} {p1 : Int32} {p2 : Int32} {r : Int32} {σ σ' : Sg} (h : Sheet_hasRow p0 p1 p2 σ = some (r, σ')) : ab_CO l G 201 (1) [(vR 12 p0), (.inl p1), (.inl p2)] σ (vI r) σ' := by
  obtain ⟨r0, σ2, hR, hf⟩ := ab_ev_sound (tab := tab_Sheet_hasRow) (Os := []) (Ks := []) (fin := finI) hG (d := 1) (by omega) rfl (fun _ h => absurd h List.not_mem_nil) (fun _ h => absurd h List.not_mem_nil) tb_Sheet_hasRow 300 (ab_row tab_Sheet_hasRow 0) 0 (ab_ini (ab_ml 201) [(vR 12 p0), (.inl p1), (.inl p2)]) [] σ (r, σ') (ab_row_bk tb_Sheet_hasRow 0) ((e_Sheet_hasRow _ _ _ _).trans h)
  obtain ⟨rfl, rfl⟩ := finI_inv hf
  exact ab_met (by decide) rfl (Nat.le_of_ble_eq_true rfl) hR
theorem cs_Sheet_hasRow {l : Launch} {G : ab_Gt} (hG : ab_GG G) {R : Type} : ab_CS (R := R) l G 201 (1) cp_Sheet_hasRow := by
  intro as σ k res h
  unfold cp_Sheet_hasRow at h
  split at h
  · split at h
    · rename_i hb
      simp only [Bool.and_eq_true, Nat.beq_eq] at hb
      subst hb
      obtain ⟨q, hq, hk⟩ := Option.bind_eq_some_iff.mp h
      exact ⟨_, _, lk_Sheet_hasRow hG hq, rfl, (fun _ => Or.inl ⟨rfl, rfl⟩), hk⟩
    · cases h
  · cases h
theorem tb_Sheet_item : ∀ q ∈ tab_Sheet_item, ab_bk (ab_mo 200) (ab_mb 200) (ab_ml 200) 1 q.1 q.2 = true := List.all_eq_true.mp (by decide +kernel)
theorem lk_Sheet_item {l : Launch} {G : ab_Gt} (hG : ab_GG G) {p0 : Nat} {p1 : Int32} {r : Int32} {σ σ' : Sg} (h : Sheet_item p0 p1 σ = some (r, σ')) : ab_CO l G 200 (2) [(vR 12 p0), (.inl p1)] σ (vI r) σ' := by
  obtain ⟨r0, σ2, hR, hf⟩ := ab_ev_sound (tab := tab_Sheet_item) (Os := [(201, cp_Sheet_hasRow)]) (Ks := []) (fin := finI) hG (d := 2) (by omega) rfl (List.forall_mem_cons.mpr ⟨⟨1, by omega, cs_Sheet_hasRow hG⟩, (fun _ h => absurd h List.not_mem_nil)⟩) (fun _ h => absurd h List.not_mem_nil) tb_Sheet_item 300 (ab_row tab_Sheet_item 0) 0 (ab_ini (ab_ml 200) [(vR 12 p0), (.inl p1)]) [] σ (r, σ') (ab_row_bk tb_Sheet_item 0) ((e_Sheet_item _ _ _).trans h)
  obtain ⟨rfl, rfl⟩ := finI_inv hf
  exact ab_met (by decide) rfl (Nat.le_of_ble_eq_true rfl) hR
theorem cs_Sheet_item {l : Launch} {G : ab_Gt} (hG : ab_GG G) {R : Type} : ab_CS (R := R) l G 200 (2) cp_Sheet_item := by
  intro as σ k res h
  unfold cp_Sheet_item at h
  split at h
  · split at h
    · rename_i hb
      simp only [Bool.and_eq_true, Nat.beq_eq] at hb
      subst hb
      obtain ⟨q, hq, hk⟩ := Option.bind_eq_some_iff.mp h
      exact ⟨_, _, lk_Sheet_item hG hq, rfl, (fun _ => Or.inl ⟨rfl, rfl⟩), hk⟩
    · cases h
  · cases h
