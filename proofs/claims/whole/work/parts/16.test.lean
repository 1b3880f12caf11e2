theorem tb_X_isOne : ∀ q ∈ tab_X_isOne, ab_bk (ab_mo 29) (ab_mb 29) (ab_ml 29) 3 q.1 q.2 = true := List.all_eq_true.mp (by decide +kernel)
theorem lk_X_isOne {l : Launch} {G : ab_Gt} (hG : ab_GG G) {p0 : Int32} {r : Int32} {σ σ' : Sg} (h : X_isOne p0 σ = some (r, σ')) : ab_CO l G 29 (1) [(.inl p0)] σ (vI r) σ' := by
  obtain ⟨r0, σ2, hR, hf⟩ := ab_ev_sound (tab := tab_X_isOne) (Os := []) (Ks := []) (fin := finI) hG (d := 1) (by omega) rfl (fun _ h => absurd h List.not_mem_nil) (fun _ h => absurd h List.not_mem_nil) tb_X_isOne 300 (ab_row tab_X_isOne 0) 0 (ab_ini (ab_ml 29) [(.inl p0)]) [] σ (r, σ') (ab_row_bk tb_X_isOne 0) ((e_X_isOne _ _).trans h)
  obtain ⟨rfl, rfl⟩ := finI_inv hf
  exact ab_met (by decide) rfl (Nat.le_of_ble_eq_true rfl) hR
theorem cs_X_isOne {l : Launch} {G : ab_Gt} (hG : ab_GG G) {R : Type} : ab_CS (R := R) l G 29 (1) cp_X_isOne := by
  intro as σ k res h
  unfold cp_X_isOne at h
  split at h
  · obtain ⟨q, hq, hk⟩ := Option.bind_eq_some_iff.mp h
    exact ⟨_, _, lk_X_isOne hG hq, rfl, (fun h => by cases h), hk⟩
  · cases h
theorem tb_X_isHour : ∀ q ∈ tab_X_isHour, ab_bk (ab_mo 30) (ab_mb 30) (ab_ml 30) 3 q.1 q.2 = true := List.all_eq_true.mp (by decide +kernel)
theorem lk_X_isHour {l : Launch} {G : ab_Gt} (hG : ab_GG G) {p0 : Int32} {r : Int32} {σ σ' : Sg} (h : X_isHour p0 σ = some (r, σ')) : ab_CO l G 30 (1) [(.inl p0)] σ (vI r) σ' := by
  obtain ⟨r0, σ2, hR, hf⟩ := ab_ev_sound (tab := tab_X_isHour) (Os := []) (Ks := []) (fin := finI) hG (d := 1) (by omega) rfl (fun _ h => absurd h List.not_mem_nil) (fun _ h => absurd h List.not_mem_nil) tb_X_isHour 300 (ab_row tab_X_isHour 0) 0 (ab_ini (ab_ml 30) [(.inl p0)]) [] σ (r, σ') (ab_row_bk tb_X_isHour 0) ((e_X_isHour _ _).trans h)
  obtain ⟨rfl, rfl⟩ := finI_inv hf
  exact ab_met (by decide) rfl (Nat.le_of_ble_eq_true rfl) hR
theorem cs_X_isHour {l : Launch} {G : ab_Gt} (hG : ab_GG G) {R : Type} : ab_CS (R := R) l G 30 (1) cp_X_isHour := by
  intro as σ k res h
  unfold cp_X_isHour at h
  split at h
  · obtain ⟨q, hq, hk⟩ := Option.bind_eq_some_iff.mp h
    exact ⟨_, _, lk_X_isHour hG hq, rfl, (fun h => by cases h), hk⟩
  · cases h
theorem tb_X_isPlace : ∀ q ∈ tab_X_isPlace, ab_bk (ab_mo 31) (ab_mb 31) (ab_ml 31) 3 q.1 q.2 = true := List.all_eq_true.mp (by decide +kernel)
theorem lk_X_isPlace {l : Launch} {G : ab_Gt} (hG : ab_GG G) {p0 : Int32} {r : Int32} {σ σ' : Sg} (h : X_isPlace p0 σ = some (r, σ')) : ab_CO l G 31 (2) [(.inl p0)] σ (vI r) σ' := by
  obtain ⟨r0, σ2, hR, hf⟩ := ab_ev_sound (tab := tab_X_isPlace) (Os := [(29, cp_X_isOne), (30, cp_X_isHour)]) (Ks := []) (fin := finI) hG (d := 2) (by omega) rfl (List.forall_mem_cons.mpr ⟨⟨1, by omega, cs_X_isOne hG⟩, (List.forall_mem_cons.mpr ⟨⟨1, by omega, cs_X_isHour hG⟩, (fun _ h => absurd h List.not_mem_nil)⟩)⟩) (fun _ h => absurd h List.not_mem_nil) tb_X_isPlace 300 (ab_row tab_X_isPlace 0) 0 (ab_ini (ab_ml 31) [(.inl p0)]) [] σ (r, σ') (ab_row_bk tb_X_isPlace 0) ((e_X_isPlace _ _).trans h)
  obtain ⟨rfl, rfl⟩ := finI_inv hf
  exact ab_met (by decide) rfl (Nat.le_of_ble_eq_true rfl) hR
theorem cs_X_isPlace {l : Launch} {G : ab_Gt} (hG : ab_GG G) {R : Type} : ab_CS (R := R) l G 31 (2) cp_X_isPlace := by
  intro as σ k res h
  unfold cp_X_isPlace at h
  split at h
  · obtain ⟨q, hq, hk⟩ := Option.bind_eq_some_iff.mp h
    exact ⟨_, _, lk_X_isPlace hG hq, rfl, (fun h => by cases h), hk⟩
  · cases h
theorem tb_X_moodAt : ∀ q ∈ tab_X_moodAt, ab_bk (ab_mo 38) (ab_mb 38) (ab_ml 38) 1 q.1 q.2 = true := List.all_eq_true.mp (by decide +kernel)
theorem lk_X_moodAt {l : Launch} {G : ab_Gt} (hG : ab_GG G) {p1 : Int32} {p2 : Int32} {r : Int32} {σ σ' : Sg} (h : X_moodAt p1 p2 σ = some (r, σ')) : ab_CO l G 38 (2) [(vR 0 0), (.inl p1), (.inl p2)] σ (vI r) σ' := by
  obtain ⟨r0, σ2, hR, hf⟩ := ab_ev_sound (tab := tab_X_moodAt) (Os := [(29, cp_X_isOne), (30, cp_X_isHour)]) (Ks := []) (fin := finI) hG (d := 2) (by omega) rfl (List.forall_mem_cons.mpr ⟨⟨1, by omega, cs_X_isOne hG⟩, (List.forall_mem_cons.mpr ⟨⟨1, by omega, cs_X_isHour hG⟩, (fun _ h => absurd h List.not_mem_nil)⟩)⟩) (fun _ h => absurd h List.not_mem_nil) tb_X_moodAt 300 (ab_row tab_X_moodAt 0) 0 (ab_ini (ab_ml 38) [(vR 0 0), (.inl p1), (.inl p2)]) [] σ (r, σ') (ab_row_bk tb_X_moodAt 0) ((e_X_moodAt _ _ _).trans h)
  obtain ⟨rfl, rfl⟩ := finI_inv hf
  exact ab_met (by decide) rfl (Nat.le_of_ble_eq_true rfl) hR
theorem cs_X_moodAt {l : Launch} {G : ab_Gt} (hG : ab_GG G) {R : Type} : ab_CS (R := R) l G 38 (2) cp_X_moodAt := by
  intro as σ k res h
  unfold cp_X_moodAt at h
  split at h
  · split at h
    · rename_i hb
      simp only [Bool.and_eq_true, Nat.beq_eq] at hb
      obtain ⟨hb1, hb2⟩ := hb
      subst hb1
      subst hb2
      obtain ⟨q, hq, hk⟩ := Option.bind_eq_some_iff.mp h
      exact ⟨_, _, lk_X_moodAt hG hq, rfl, (fun _ => Or.inl ⟨rfl, rfl⟩), hk⟩
    · cases h
  · cases h
