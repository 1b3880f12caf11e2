theorem tb_X_planRefusal : ∀ q ∈ tab_X_planRefusal, ab_bk (ab_mo 47) (ab_mb 47) (ab_ml 47) 1 q.1 q.2 = true := List.all_eq_true.mp (by decide +kernel)
theorem lc_X_planRefusal_L25 {l : Launch} {G : ab_Gt} (hG : ab_GG G) : ∀ n : Nat, ab_KS l G 47 (3) finI 25 (kc_X_planRefusal_25 (X_planRefusal_L25 n)) := by
  intro n
  induction n with
  | zero =>
    intro L st σ res h
    unfold kc_X_planRefusal_25 at h
    split at h
    · split at h
      · rename_i hb
        simp only [Bool.and_eq_true, Nat.beq_eq] at hb
        obtain ⟨⟨hb1, hb2⟩, hb3⟩ := hb
        subst hb1
        subst hb2
        subst hb3
        exact absurd (show none = some res from h) (fun h => by cases h)
      · cases h
    · cases h
  | succ n ih =>
    intro L st σ res h
    unfold kc_X_planRefusal_25 at h
    split at h
    · split at h
      · rename_i hb
        simp only [Bool.and_eq_true, Nat.beq_eq] at hb
        obtain ⟨⟨hb1, hb2⟩, hb3⟩ := hb
        subst hb1
        subst hb2
        subst hb3
        exact ab_ev_sound (tab := tab_X_planRefusal) (Os := [(32, cp_X_isCoat), (200, cp_Sheet_item)]) (Ks := [(25, kc_X_planRefusal_25 (X_planRefusal_L25 n))]) (fin := finI) hG (by omega) rfl (List.forall_mem_cons.mpr ⟨⟨1, by omega, cs_X_isCoat hG⟩, (List.forall_mem_cons.mpr ⟨⟨2, by omega, cs_Sheet_item hG⟩, (fun _ h => absurd h List.not_mem_nil)⟩)⟩) (List.forall_mem_cons.mpr ⟨ih, (fun _ h => absurd h List.not_mem_nil)⟩) tb_X_planRefusal 300 (ab_row tab_X_planRefusal 25) 25 _ _ σ res (ab_row_bk tb_X_planRefusal 25) ((e_X_planRefusal_L25  _ _ _ _ _).trans h)
      · cases h
    · cases h
theorem lk_X_planRefusal {l : Launch} {G : ab_Gt} (hG : ab_GG G) {p1 : Nat} {r : Int32} {σ σ' : Sg} (h : X_planRefusal p1 σ = some (r, σ')) : ab_CO l G 47 (3) [(vR 0 0), (vR 12 p1)] σ (vI r) σ' := by
  obtain ⟨r0, σ2, hR, hf⟩ := ab_ev_sound (tab := tab_X_planRefusal) (Os := [(32, cp_X_isCoat), (200, cp_Sheet_item)]) (Ks := [(25, kc_X_planRefusal_25 (X_planRefusal_L25 FU))]) (fin := finI) hG (d := 3) (by omega) rfl (List.forall_mem_cons.mpr ⟨⟨1, by omega, cs_X_isCoat hG⟩, (List.forall_mem_cons.mpr ⟨⟨2, by omega, cs_Sheet_item hG⟩, (fun _ h => absurd h List.not_mem_nil)⟩)⟩) (List.forall_mem_cons.mpr ⟨lc_X_planRefusal_L25 hG FU, (fun _ h => absurd h List.not_mem_nil)⟩) tb_X_planRefusal 300 (ab_row tab_X_planRefusal 0) 0 (ab_ini (ab_ml 47) [(vR 0 0), (vR 12 p1)]) [] σ (r, σ') (ab_row_bk tb_X_planRefusal 0) ((e_X_planRefusal _ _).trans h)
  obtain ⟨rfl, rfl⟩ := finI_inv hf
  exact ab_met (by decide) rfl (Nat.le_of_ble_eq_true rfl) hR
theorem cs_X_planRefusal {l : Launch} {G : ab_Gt} (hG : ab_GG G) {R : Type} : ab_CS (R := R) l G 47 (3) cp_X_planRefusal := by
  intro as σ k res h
  unfold cp_X_planRefusal at h
  split at h
  · split at h
    · rename_i hb
      simp only [Bool.and_eq_true, Nat.beq_eq] at hb
      obtain ⟨⟨hb1, hb2⟩, hb3⟩ := hb
      subst hb1
      subst hb2
      subst hb3
      obtain ⟨q, hq, hk⟩ := Option.bind_eq_some_iff.mp h
      exact ⟨_, _, lk_X_planRefusal hG hq, rfl, (fun _ => Or.inl ⟨rfl, rfl⟩), hk⟩
    · cases h
  · cases h
theorem tb_X_planTold : ∀ q ∈ tab_X_planTold, ab_bk (ab_mo 48) (ab_mb 48) (ab_ml 48) 1 q.1 q.2 = true := List.all_eq_true.mp (by decide +kernel)
theorem lc_X_planTold_J105 {l : Launch} {G : ab_Gt} (hG : ab_GG G) {k15 : Nat → Int32 → Int32 → Int32 → Int32 → Int32 → Int32 → Int32 → Sg → Option (Int32 × Sg)} (h15 : ab_KS l G 48 (5) finI 15 (kc_X_planTold_15 k15)) : ab_KS l G 48 (5) finI 105 (kc_X_planTold_105 (X_planTold_J105 k15)) := by
  intro L st σ res h
  unfold kc_X_planTold_105 at h
  split at h
  · split at h
    · rename_i hb
      simp only [Bool.and_eq_true, Nat.beq_eq] at hb
      obtain ⟨⟨hb1, hb2⟩, hb3⟩ := hb
      subst hb1
      subst hb2
      subst hb3
      exact ab_ev_sound (tab := tab_X_planTold) (Os := [(32, cp_X_isCoat), (38, cp_X_moodAt), (40, cp_X_fitsAt), (41, cp_X_fineAt), (42, cp_X_costAt), (200, cp_Sheet_item)]) (Ks := [(15, kc_X_planTold_15 k15)]) (fin := finI) hG (by omega) rfl (List.forall_mem_cons.mpr ⟨⟨1, by omega, cs_X_isCoat hG⟩, (List.forall_mem_cons.mpr ⟨⟨2, by omega, cs_X_moodAt hG⟩, (List.forall_mem_cons.mpr ⟨⟨4, by omega, cs_X_fitsAt hG⟩, (List.forall_mem_cons.mpr ⟨⟨4, by omega, cs_X_fineAt hG⟩, (List.forall_mem_cons.mpr ⟨⟨4, by omega, cs_X_costAt hG⟩, (List.forall_mem_cons.mpr ⟨⟨2, by omega, cs_Sheet_item hG⟩, (fun _ h => absurd h List.not_mem_nil)⟩)⟩)⟩)⟩)⟩)⟩) (List.forall_mem_cons.mpr ⟨h15, (fun _ h => absurd h List.not_mem_nil)⟩) tb_X_planTold 300 (ab_row tab_X_planTold 105) 105 _ _ σ res (ab_row_bk tb_X_planTold 105) ((e_X_planTold_J105 _ _ _ _ _ _ _ _ _ _ _ _).trans h)
    · cases h
  · cases h
theorem lc_X_planTold_J87 {l : Launch} {G : ab_Gt} (hG : ab_GG G) {k15 : Nat → Int32 → Int32 → Int32 → Int32 → Int32 → Int32 → Int32 → Sg → Option (Int32 × Sg)} (h15 : ab_KS l G 48 (5) finI 15 (kc_X_planTold_15 k15)) : ab_KS l G 48 (5) finI 87 (kc_X_planTold_87 (X_planTold_J87 k15)) := by
  intro L st σ res h
  unfold kc_X_planTold_87 at h
  split at h
  · split at h
    · rename_i hb
      simp only [Bool.and_eq_true, Nat.beq_eq] at hb
      obtain ⟨⟨hb1, hb2⟩, hb3⟩ := hb
      subst hb1
      subst hb2
      subst hb3
      exact ab_ev_sound (tab := tab_X_planTold) (Os := [(32, cp_X_isCoat), (38, cp_X_moodAt), (40, cp_X_fitsAt), (41, cp_X_fineAt), (42, cp_X_costAt), (200, cp_Sheet_item)]) (Ks := [(105, kc_X_planTold_105 (X_planTold_J105 k15))]) (fin := finI) hG (by omega) rfl (List.forall_mem_cons.mpr ⟨⟨1, by omega, cs_X_isCoat hG⟩, (List.forall_mem_cons.mpr ⟨⟨2, by omega, cs_X_moodAt hG⟩, (List.forall_mem_cons.mpr ⟨⟨4, by omega, cs_X_fitsAt hG⟩, (List.forall_mem_cons.mpr ⟨⟨4, by omega, cs_X_fineAt hG⟩, (List.forall_mem_cons.mpr ⟨⟨4, by omega, cs_X_costAt hG⟩, (List.forall_mem_cons.mpr ⟨⟨2, by omega, cs_Sheet_item hG⟩, (fun _ h => absurd h List.not_mem_nil)⟩)⟩)⟩)⟩)⟩)⟩) (List.forall_mem_cons.mpr ⟨lc_X_planTold_J105 hG h15, (fun _ h => absurd h List.not_mem_nil)⟩) tb_X_planTold 300 (ab_row tab_X_planTold 87) 87 _ _ σ res (ab_row_bk tb_X_planTold 87) ((e_X_planTold_J87 _ _ _ _ _ _ _ _ _ _ _ _).trans h)
    · cases h
  · cases h
theorem lc_X_planTold_J41 {l : Launch} {G : ab_Gt} (hG : ab_GG G) {k15 : Nat → Int32 → Int32 → Int32 → Int32 → Int32 → Int32 → Int32 → Sg → Option (Int32 × Sg)} (h15 : ab_KS l G 48 (5) finI 15 (kc_X_planTold_15 k15)) : ab_KS l G 48 (5) finI 41 (kc_X_planTold_41 (X_planTold_J41 k15)) := by
  intro L st σ res h
  unfold kc_X_planTold_41 at h
  split at h
  · split at h
    · rename_i hb
      simp only [Bool.and_eq_true, Nat.beq_eq] at hb
      obtain ⟨⟨hb1, hb2⟩, hb3⟩ := hb
      subst hb1
      subst hb2
      subst hb3
      exact ab_ev_sound (tab := tab_X_planTold) (Os := [(32, cp_X_isCoat), (38, cp_X_moodAt), (40, cp_X_fitsAt), (41, cp_X_fineAt), (42, cp_X_costAt), (200, cp_Sheet_item)]) (Ks := [(87, kc_X_planTold_87 (X_planTold_J87 k15)), (105, kc_X_planTold_105 (X_planTold_J105 k15))]) (fin := finI) hG (by omega) rfl (List.forall_mem_cons.mpr ⟨⟨1, by omega, cs_X_isCoat hG⟩, (List.forall_mem_cons.mpr ⟨⟨2, by omega, cs_X_moodAt hG⟩, (List.forall_mem_cons.mpr ⟨⟨4, by omega, cs_X_fitsAt hG⟩, (List.forall_mem_cons.mpr ⟨⟨4, by omega, cs_X_fineAt hG⟩, (List.forall_mem_cons.mpr ⟨⟨4, by omega, cs_X_costAt hG⟩, (List.forall_mem_cons.mpr ⟨⟨2, by omega, cs_Sheet_item hG⟩, (fun _ h => absurd h List.not_mem_nil)⟩)⟩)⟩)⟩)⟩)⟩) (List.forall_mem_cons.mpr ⟨lc_X_planTold_J87 hG h15, (List.forall_mem_cons.mpr ⟨lc_X_planTold_J105 hG h15, (fun _ h => absurd h List.not_mem_nil)⟩)⟩) tb_X_planTold 300 (ab_row tab_X_planTold 41) 41 _ _ σ res (ab_row_bk tb_X_planTold 41) ((e_X_planTold_J41 _ _ _ _ _ _ _ _ _ _ _ _ _).trans h)
    · cases h
  · cases h
theorem lc_X_planTold_L15 {l : Launch} {G : ab_Gt} (hG : ab_GG G) : ∀ n : Nat, ab_KS l G 48 (5) finI 15 (kc_X_planTold_15 (X_planTold_L15 n)) := by
  intro n
  induction n with
  | zero =>
    intro L st σ res h
    unfold kc_X_planTold_15 at h
    split at h
    · split at h
      · rename_i hb
        simp only [Bool.and_eq_true, Nat.beq_eq] at hb
        obtain ⟨⟨hb1, hb2⟩, hb3⟩ := hb
        subst hb1
        subst hb2
        subst hb3
        exact absurd (show none = some res from h) (fun h => by cases h)
      · cases h
    · cases h
  | succ n ih =>
    intro L st σ res h
    unfold kc_X_planTold_15 at h
    split at h
    · split at h
      · rename_i hb
        simp only [Bool.and_eq_true, Nat.beq_eq] at hb
        obtain ⟨⟨hb1, hb2⟩, hb3⟩ := hb
        subst hb1
        subst hb2
        subst hb3
        exact ab_ev_sound (tab := tab_X_planTold) (Os := [(32, cp_X_isCoat), (38, cp_X_moodAt), (40, cp_X_fitsAt), (41, cp_X_fineAt), (42, cp_X_costAt), (200, cp_Sheet_item)]) (Ks := [(41, kc_X_planTold_41 (X_planTold_J41 (fun y0 y1 y2 y3 y4 y5 y6 y7 τ => X_planTold_L15 n y0 y1 y2 y3 y4 y5 y6 y7 τ)))]) (fin := finI) hG (by omega) rfl (List.forall_mem_cons.mpr ⟨⟨1, by omega, cs_X_isCoat hG⟩, (List.forall_mem_cons.mpr ⟨⟨2, by omega, cs_X_moodAt hG⟩, (List.forall_mem_cons.mpr ⟨⟨4, by omega, cs_X_fitsAt hG⟩, (List.forall_mem_cons.mpr ⟨⟨4, by omega, cs_X_fineAt hG⟩, (List.forall_mem_cons.mpr ⟨⟨4, by omega, cs_X_costAt hG⟩, (List.forall_mem_cons.mpr ⟨⟨2, by omega, cs_Sheet_item hG⟩, (fun _ h => absurd h List.not_mem_nil)⟩)⟩)⟩)⟩)⟩)⟩) (List.forall_mem_cons.mpr ⟨lc_X_planTold_J41 hG ih, (fun _ h => absurd h List.not_mem_nil)⟩) tb_X_planTold 300 (ab_row tab_X_planTold 15) 15 _ _ σ res (ab_row_bk tb_X_planTold 15) ((e_X_planTold_L15  _ _ _ _ _ _ _ _ _ _ _ _).trans h)
      · cases h
    · cases h
theorem lk_X_planTold {l : Launch} {G : ab_Gt} (hG : ab_GG G) {p1 : Nat} {p2 : Int32} {p3 : Int32} {r : Int32} {σ σ' : Sg} (h : X_planTold p1 p2 p3 σ = some (r, σ')) : ab_CO l G 48 (5) [(vR 0 0), (vR 12 p1), (.inl p2), (.inl p3)] σ (vI r) σ' := by
  obtain ⟨r0, σ2, hR, hf⟩ := ab_ev_sound (tab := tab_X_planTold) (Os := [(32, cp_X_isCoat), (38, cp_X_moodAt), (40, cp_X_fitsAt), (41, cp_X_fineAt), (42, cp_X_costAt), (200, cp_Sheet_item)]) (Ks := [(15, kc_X_planTold_15 (X_planTold_L15 FU))]) (fin := finI) hG (d := 5) (by omega) rfl (List.forall_mem_cons.mpr ⟨⟨1, by omega, cs_X_isCoat hG⟩, (List.forall_mem_cons.mpr ⟨⟨2, by omega, cs_X_moodAt hG⟩, (List.forall_mem_cons.mpr ⟨⟨4, by omega, cs_X_fitsAt hG⟩, (List.forall_mem_cons.mpr ⟨⟨4, by omega, cs_X_fineAt hG⟩, (List.forall_mem_cons.mpr ⟨⟨4, by omega, cs_X_costAt hG⟩, (List.forall_mem_cons.mpr ⟨⟨2, by omega, cs_Sheet_item hG⟩, (fun _ h => absurd h List.not_mem_nil)⟩)⟩)⟩)⟩)⟩)⟩) (List.forall_mem_cons.mpr ⟨lc_X_planTold_L15 hG FU, (fun _ h => absurd h List.not_mem_nil)⟩) tb_X_planTold 300 (ab_row tab_X_planTold 0) 0 (ab_ini (ab_ml 48) [(vR 0 0), (vR 12 p1), (.inl p2), (.inl p3)]) [] σ (r, σ') (ab_row_bk tb_X_planTold 0) ((e_X_planTold _ _ _ _).trans h)
  obtain ⟨rfl, rfl⟩ := finI_inv hf
  exact ab_met (by decide) rfl (Nat.le_of_ble_eq_true rfl) hR
theorem cs_X_planTold {l : Launch} {G : ab_Gt} (hG : ab_GG G) {R : Type} : ab_CS (R := R) l G 48 (5) cp_X_planTold := by
  intro as σ k res h
  unfold cp_X_planTold at h
  split at h
  · split at h
    · rename_i hb
      simp only [Bool.and_eq_true, Nat.beq_eq] at hb
      obtain ⟨⟨hb1, hb2⟩, hb3⟩ := hb
      subst hb1
      subst hb2
      subst hb3
      obtain ⟨q, hq, hk⟩ := Option.bind_eq_some_iff.mp h
      exact ⟨_, _, lk_X_planTold hG hq, rfl, (fun _ => Or.inl ⟨rfl, rfl⟩), hk⟩
    · cases h
  · cases h
theorem tb_X_plan : ∀ q ∈ tab_X_plan, ab_bk (ab_mo 9) (ab_mb 9) (ab_ml 9) 1 q.1 q.2 = true := List.all_eq_true.mp (by decide +kernel)
theorem lk_X_plan {l : Launch} {G : ab_Gt} (hG : ab_GG G) {p1 : Int32} {p2 : Int32} {p3 : Int32} {r : Int32} {σ σ' : Sg} (h : X_plan p1 p2 p3 σ = some (r, σ')) : ab_CO l G 9 (6) [(vR 0 0), (.inl p1), (.inl p2), (.inl p3)] σ (vI r) σ' := by
  obtain ⟨r0, σ2, hR, hf⟩ := ab_ev_sound (tab := tab_X_plan) (Os := [(29, cp_X_isOne), (33, cp_X_isSheet), (47, cp_X_planRefusal), (48, cp_X_planTold)]) (Ks := []) (fin := finI) hG (d := 6) (by omega) rfl (List.forall_mem_cons.mpr ⟨⟨1, by omega, cs_X_isOne hG⟩, (List.forall_mem_cons.mpr ⟨⟨1, by omega, cs_X_isSheet hG⟩, (List.forall_mem_cons.mpr ⟨⟨3, by omega, cs_X_planRefusal hG⟩, (List.forall_mem_cons.mpr ⟨⟨5, by omega, cs_X_planTold hG⟩, (fun _ h => absurd h List.not_mem_nil)⟩)⟩)⟩)⟩) (fun _ h => absurd h List.not_mem_nil) tb_X_plan 300 (ab_row tab_X_plan 0) 0 (ab_ini (ab_ml 9) [(vR 0 0), (.inl p1), (.inl p2), (.inl p3)]) [] σ (r, σ') (ab_row_bk tb_X_plan 0) ((e_X_plan _ _ _ _).trans h)
  obtain ⟨rfl, rfl⟩ := finI_inv hf
  exact ab_met (by decide) rfl (Nat.le_of_ble_eq_true rfl) hR
theorem cs_X_plan {l : Launch} {G : ab_Gt} (hG : ab_GG G) {R : Type} : ab_CS (R := R) l G 9 (6) cp_X_plan := by
  intro as σ k res h
  unfold cp_X_plan at h
  split at h
  · split at h
    · rename_i hb
      simp only [Bool.and_eq_true, Nat.beq_eq] at hb
      obtain ⟨hb1, hb2⟩ := hb
      subst hb1
      subst hb2
      obtain ⟨q, hq, hk⟩ := Option.bind_eq_some_iff.mp h
      exact ⟨_, _, lk_X_plan hG hq, rfl, (fun _ => Or.inl ⟨rfl, rfl⟩), hk⟩
    · cases h
  · cases h
theorem tb_Coat_wornLonger : ∀ q ∈ tab_Coat_wornLonger, ab_bk (ab_mo 181) (ab_mb 181) (ab_ml 181) 0 q.1 q.2 = true := List.all_eq_true.mp (by decide +kernel)
theorem lk_Coat_wornLonger {l : Launch} {G : ab_Gt} (hG : ab_GG G) {p0 : Nat} {σ σ' : Sg} (h : Coat_wornLonger p0 σ = some σ') : ab_CO l G 181 (1) [(vR 1 p0)] σ vU σ' := by
  obtain ⟨r0, σ2, hR, hf⟩ := ab_ev_sound (tab := tab_Coat_wornLonger) (Os := []) (Ks := []) (fin := finV) hG (d := 1) (by omega) rfl (fun _ h => absurd h List.not_mem_nil) (fun _ h => absurd h List.not_mem_nil) tb_Coat_wornLonger 300 (ab_row tab_Coat_wornLonger 0) 0 (ab_ini (ab_ml 181) [(vR 1 p0)]) [] σ σ' (ab_row_bk tb_Coat_wornLonger 0) ((e_Coat_wornLonger _ _).trans h)
  obtain ⟨rfl, rfl⟩ := finV_inv hf
  exact ab_met (by decide) rfl (Nat.le_of_ble_eq_true rfl) hR
theorem cs_Coat_wornLonger {l : Launch} {G : ab_Gt} (hG : ab_GG G) {R : Type} : ab_CS (R := R) l G 181 (1) cp_Coat_wornLonger := by
  intro as σ k res h
  unfold cp_Coat_wornLonger at h
  split at h
  · split at h
    · rename_i hb
      simp only [Bool.and_eq_true, Nat.beq_eq] at hb
      subst hb
      obtain ⟨q, hq, hk⟩ := Option.bind_eq_some_iff.mp h
      exact ⟨_, _, lk_Coat_wornLonger hG hq, rfl, (fun _ => Or.inl ⟨rfl, rfl⟩), hk⟩
    · cases h
  · cases h
theorem tb_X_wear : ∀ q ∈ tab_X_wear, ab_bk (ab_mo 10) (ab_mb 10) (ab_ml 10) 1 q.1 q.2 = true := List.all_eq_true.mp (by decide +kernel)
theorem lc_X_wear_L51 {l : Launch} {G : ab_Gt} (hG : ab_GG G) : ∀ n : Nat, ab_KS l G 10 (6) finI 51 (kc_X_wear_51 (X_wear_L51 n)) := by
  intro n
  induction n with
  | zero =>
    intro L st σ res h
    unfold kc_X_wear_51 at h
    split at h
    · split at h
      · rename_i hb
        simp only [Bool.and_eq_true, Nat.beq_eq] at hb
        obtain ⟨⟨hb1, hb2⟩, hb3⟩ := hb
        subst hb1
        subst hb2
        subst hb3
        exact absurd (show none = some res from h) (fun h => by cases h)
      · cases h
    · cases h
  | succ n ih =>
    intro L st σ res h
    unfold kc_X_wear_51 at h
    split at h
    · split at h
      · rename_i hb
        simp only [Bool.and_eq_true, Nat.beq_eq] at hb
        obtain ⟨⟨hb1, hb2⟩, hb3⟩ := hb
        subst hb1
        subst hb2
        subst hb3
        exact ab_ev_sound (tab := tab_X_wear) (Os := [(29, cp_X_isOne), (32, cp_X_isCoat), (33, cp_X_isSheet), (47, cp_X_planRefusal), (48, cp_X_planTold), (181, cp_Coat_wornLonger), (200, cp_Sheet_item)]) (Ks := [(51, kc_X_wear_51 (X_wear_L51 n))]) (fin := finI) hG (by omega) rfl (List.forall_mem_cons.mpr ⟨⟨1, by omega, cs_X_isOne hG⟩, (List.forall_mem_cons.mpr ⟨⟨1, by omega, cs_X_isCoat hG⟩, (List.forall_mem_cons.mpr ⟨⟨1, by omega, cs_X_isSheet hG⟩, (List.forall_mem_cons.mpr ⟨⟨3, by omega, cs_X_planRefusal hG⟩, (List.forall_mem_cons.mpr ⟨⟨5, by omega, cs_X_planTold hG⟩, (List.forall_mem_cons.mpr ⟨⟨1, by omega, cs_Coat_wornLonger hG⟩, (List.forall_mem_cons.mpr ⟨⟨2, by omega, cs_Sheet_item hG⟩, (fun _ h => absurd h List.not_mem_nil)⟩)⟩)⟩)⟩)⟩)⟩)⟩) (List.forall_mem_cons.mpr ⟨ih, (fun _ h => absurd h List.not_mem_nil)⟩) tb_X_wear 300 (ab_row tab_X_wear 51) 51 _ _ σ res (ab_row_bk tb_X_wear 51) ((e_X_wear_L51  _ _ _ _ _ _ _ _ _).trans h)
      · cases h
    · cases h
theorem lk_X_wear {l : Launch} {G : ab_Gt} (hG : ab_GG G) {p1 : Int32} {p2 : Int32} {r : Int32} {σ σ' : Sg} (h : X_wear p1 p2 σ = some (r, σ')) : ab_CO l G 10 (6) [(vR 0 0), (.inl p1), (.inl p2)] σ (vI r) σ' := by
  obtain ⟨r0, σ2, hR, hf⟩ := ab_ev_sound (tab := tab_X_wear) (Os := [(29, cp_X_isOne), (32, cp_X_isCoat), (33, cp_X_isSheet), (47, cp_X_planRefusal), (48, cp_X_planTold), (181, cp_Coat_wornLonger), (200, cp_Sheet_item)]) (Ks := [(51, kc_X_wear_51 (X_wear_L51 FU))]) (fin := finI) hG (d := 6) (by omega) rfl (List.forall_mem_cons.mpr ⟨⟨1, by omega, cs_X_isOne hG⟩, (List.forall_mem_cons.mpr ⟨⟨1, by omega, cs_X_isCoat hG⟩, (List.forall_mem_cons.mpr ⟨⟨1, by omega, cs_X_isSheet hG⟩, (List.forall_mem_cons.mpr ⟨⟨3, by omega, cs_X_planRefusal hG⟩, (List.forall_mem_cons.mpr ⟨⟨5, by omega, cs_X_planTold hG⟩, (List.forall_mem_cons.mpr ⟨⟨1, by omega, cs_Coat_wornLonger hG⟩, (List.forall_mem_cons.mpr ⟨⟨2, by omega, cs_Sheet_item hG⟩, (fun _ h => absurd h List.not_mem_nil)⟩)⟩)⟩)⟩)⟩)⟩)⟩) (List.forall_mem_cons.mpr ⟨lc_X_wear_L51 hG FU, (fun _ h => absurd h List.not_mem_nil)⟩) tb_X_wear 300 (ab_row tab_X_wear 0) 0 (ab_ini (ab_ml 10) [(vR 0 0), (.inl p1), (.inl p2)]) [] σ (r, σ') (ab_row_bk tb_X_wear 0) ((e_X_wear _ _ _).trans h)
  obtain ⟨rfl, rfl⟩ := finI_inv hf
  exact ab_met (by decide) rfl (Nat.le_of_ble_eq_true rfl) hR
theorem cs_X_wear {l : Launch} {G : ab_Gt} (hG : ab_GG G) {R : Type} : ab_CS (R := R) l G 10 (6) cp_X_wear := by
  intro as σ k res h
  unfold cp_X_wear at h
  split at h
  · split at h
    · rename_i hb
      simp only [Bool.and_eq_true, Nat.beq_eq] at hb
      obtain ⟨hb1, hb2⟩ := hb
      subst hb1
      subst hb2
      obtain ⟨q, hq, hk⟩ := Option.bind_eq_some_iff.mp h
      exact ⟨_, _, lk_X_wear hG hq, rfl, (fun _ => Or.inl ⟨rfl, rfl⟩), hk⟩
    · cases h
  · cases h
theorem tb_Day_tell : ∀ q ∈ tab_Day_tell, ab_bk (ab_mo 187) (ab_mb 187) (ab_ml 187) 0 q.1 q.2 = true := List.all_eq_true.mp (by decide +kernel)
theorem lk_Day_tell {l : Launch} {G : ab_Gt} (hG : ab_GG G) {p1 : Int32} {p2 : Int32} {p3 : Int32} {p4 : Int32} {σ σ' : Sg} (h : Day_tell p1 p2 p3 p4 σ = some σ') : ab_CO l G 187 (2) [(vR 14 0), (.inl p1), (.inl p2), (.inl p3), (.inl p4)] σ vU σ' := by
  obtain ⟨r0, σ2, hR, hf⟩ := ab_ev_sound (tab := tab_Day_tell) (Os := [(30, cp_X_isHour)]) (Ks := []) (fin := finV) hG (d := 2) (by omega) rfl (List.forall_mem_cons.mpr ⟨⟨1, by omega, cs_X_isHour hG⟩, (fun _ h => absurd h List.not_mem_nil)⟩) (fun _ h => absurd h List.not_mem_nil) tb_Day_tell 300 (ab_row tab_Day_tell 0) 0 (ab_ini (ab_ml 187) [(vR 14 0), (.inl p1), (.inl p2), (.inl p3), (.inl p4)]) [] σ σ' (ab_row_bk tb_Day_tell 0) ((e_Day_tell _ _ _ _ _).trans h)
  obtain ⟨rfl, rfl⟩ := finV_inv hf
  exact ab_met (by decide) rfl (Nat.le_of_ble_eq_true rfl) hR
theorem cs_Day_tell {l : Launch} {G : ab_Gt} (hG : ab_GG G) {R : Type} : ab_CS (R := R) l G 187 (2) cp_Day_tell := by
  intro as σ k res h
  unfold cp_Day_tell at h
  split at h
  · split at h
    · rename_i hb
      simp only [Bool.and_eq_true, Nat.beq_eq] at hb
      obtain ⟨hb1, hb2⟩ := hb
      subst hb1
      subst hb2
      obtain ⟨q, hq, hk⟩ := Option.bind_eq_some_iff.mp h
      exact ⟨_, _, lk_Day_tell hG hq, rfl, (fun _ => Or.inl ⟨rfl, rfl⟩), hk⟩
    · cases h
  · cases h
theorem tb_X_tellHour : ∀ q ∈ tab_X_tellHour, ab_bk (ab_mo 49) (ab_mb 49) (ab_ml 49) 0 q.1 q.2 = true := List.all_eq_true.mp (by decide +kernel)
theorem lc_X_tellHour_L14 {l : Launch} {G : ab_Gt} (hG : ab_GG G) : ∀ n : Nat, ab_KS l G 49 (5) finV 14 (kc_X_tellHour_14 (X_tellHour_L14 n)) := by
  intro n
  induction n with
  | zero =>
    intro L st σ res h
    unfold kc_X_tellHour_14 at h
    split at h
    · split at h
      · rename_i hb
        simp only [Bool.and_eq_true, Nat.beq_eq] at hb
        obtain ⟨hb1, hb2⟩ := hb
        subst hb1
        subst hb2
        exact absurd (show none = some res from h) (fun h => by cases h)
      · cases h
    · cases h
  | succ n ih =>
    intro L st σ res h
    unfold kc_X_tellHour_14 at h
    split at h
    · split at h
      · rename_i hb
        simp only [Bool.and_eq_true, Nat.beq_eq] at hb
        obtain ⟨hb1, hb2⟩ := hb
        subst hb1
        subst hb2
        exact ab_ev_sound (tab := tab_X_tellHour) (Os := [(40, cp_X_fitsAt), (41, cp_X_fineAt), (42, cp_X_costAt), (187, cp_Day_tell)]) (Ks := [(14, kc_X_tellHour_14 (X_tellHour_L14 n))]) (fin := finV) hG (by omega) rfl (List.forall_mem_cons.mpr ⟨⟨4, by omega, cs_X_fitsAt hG⟩, (List.forall_mem_cons.mpr ⟨⟨4, by omega, cs_X_fineAt hG⟩, (List.forall_mem_cons.mpr ⟨⟨4, by omega, cs_X_costAt hG⟩, (List.forall_mem_cons.mpr ⟨⟨2, by omega, cs_Day_tell hG⟩, (fun _ h => absurd h List.not_mem_nil)⟩)⟩)⟩)⟩) (List.forall_mem_cons.mpr ⟨ih, (fun _ h => absurd h List.not_mem_nil)⟩) tb_X_tellHour 300 (ab_row tab_X_tellHour 14) 14 _ _ σ res (ab_row_bk tb_X_tellHour 14) ((e_X_tellHour_L14  _ _ _ _ _ _).trans h)
      · cases h
    · cases h
theorem lk_X_tellHour {l : Launch} {G : ab_Gt} (hG : ab_GG G) {p1 : Int32} {p2 : Int32} {σ σ' : Sg} (h : X_tellHour p1 p2 σ = some σ') : ab_CO l G 49 (5) [(vR 0 0), (.inl p1), (.inl p2)] σ vU σ' := by
  obtain ⟨r0, σ2, hR, hf⟩ := ab_ev_sound (tab := tab_X_tellHour) (Os := [(40, cp_X_fitsAt), (41, cp_X_fineAt), (42, cp_X_costAt), (187, cp_Day_tell)]) (Ks := [(14, kc_X_tellHour_14 (X_tellHour_L14 FU))]) (fin := finV) hG (d := 5) (by omega) rfl (List.forall_mem_cons.mpr ⟨⟨4, by omega, cs_X_fitsAt hG⟩, (List.forall_mem_cons.mpr ⟨⟨4, by omega, cs_X_fineAt hG⟩, (List.forall_mem_cons.mpr ⟨⟨4, by omega, cs_X_costAt hG⟩, (List.forall_mem_cons.mpr ⟨⟨2, by omega, cs_Day_tell hG⟩, (fun _ h => absurd h List.not_mem_nil)⟩)⟩)⟩)⟩) (List.forall_mem_cons.mpr ⟨lc_X_tellHour_L14 hG FU, (fun _ h => absurd h List.not_mem_nil)⟩) tb_X_tellHour 300 (ab_row tab_X_tellHour 0) 0 (ab_ini (ab_ml 49) [(vR 0 0), (.inl p1), (.inl p2)]) [] σ σ' (ab_row_bk tb_X_tellHour 0) ((e_X_tellHour _ _ _).trans h)
  obtain ⟨rfl, rfl⟩ := finV_inv hf
  exact ab_met (by decide) rfl (Nat.le_of_ble_eq_true rfl) hR
theorem cs_X_tellHour {l : Launch} {G : ab_Gt} (hG : ab_GG G) {R : Type} : ab_CS (R := R) l G 49 (5) cp_X_tellHour := by
  intro as σ k res h
  unfold cp_X_tellHour at h
  split at h
  · split at h
    · rename_i hb
      simp only [Bool.and_eq_true, Nat.beq_eq] at hb
      obtain ⟨hb1, hb2⟩ := hb
      subst hb1
      subst hb2
      obtain ⟨q, hq, hk⟩ := Option.bind_eq_some_iff.mp h
      exact ⟨_, _, lk_X_tellHour hG hq, rfl, (fun _ => Or.inl ⟨rfl, rfl⟩), hk⟩
    · cases h
  · cases h
theorem tb_X_tellDay : ∀ q ∈ tab_X_tellDay, ab_bk (ab_mo 50) (ab_mb 50) (ab_ml 50) 0 q.1 q.2 = true := List.all_eq_true.mp (by decide +kernel)
theorem lc_X_tellDay_L2 {l : Launch} {G : ab_Gt} (hG : ab_GG G) : ∀ n : Nat, ab_KS l G 50 (6) finV 2 (kc_X_tellDay_2 (X_tellDay_L2 n)) := by
  intro n
  induction n with
  | zero =>
    intro L st σ res h
    unfold kc_X_tellDay_2 at h
    split at h
    · split at h
      · rename_i hb
        simp only [Bool.and_eq_true, Nat.beq_eq] at hb
        obtain ⟨hb1, hb2⟩ := hb
        subst hb1
        subst hb2
        exact absurd (show none = some res from h) (fun h => by cases h)
      · cases h
    · cases h
  | succ n ih =>
    intro L st σ res h
    unfold kc_X_tellDay_2 at h
    split at h
    · split at h
      · rename_i hb
        simp only [Bool.and_eq_true, Nat.beq_eq] at hb
        obtain ⟨hb1, hb2⟩ := hb
        subst hb1
        subst hb2
        exact ab_ev_sound (tab := tab_X_tellDay) (Os := [(38, cp_X_moodAt), (49, cp_X_tellHour)]) (Ks := [(2, kc_X_tellDay_2 (X_tellDay_L2 n))]) (fin := finV) hG (by omega) rfl (List.forall_mem_cons.mpr ⟨⟨2, by omega, cs_X_moodAt hG⟩, (List.forall_mem_cons.mpr ⟨⟨5, by omega, cs_X_tellHour hG⟩, (fun _ h => absurd h List.not_mem_nil)⟩)⟩) (List.forall_mem_cons.mpr ⟨ih, (fun _ h => absurd h List.not_mem_nil)⟩) tb_X_tellDay 300 (ab_row tab_X_tellDay 2) 2 _ _ σ res (ab_row_bk tb_X_tellDay 2) ((e_X_tellDay_L2  _ _ _ _).trans h)
      · cases h
    · cases h
theorem lk_X_tellDay {l : Launch} {G : ab_Gt} (hG : ab_GG G) {p1 : Int32} {σ σ' : Sg} (h : X_tellDay p1 σ = some σ') : ab_CO l G 50 (6) [(vR 0 0), (.inl p1)] σ vU σ' := by
  obtain ⟨r0, σ2, hR, hf⟩ := ab_ev_sound (tab := tab_X_tellDay) (Os := [(38, cp_X_moodAt), (49, cp_X_tellHour)]) (Ks := [(2, kc_X_tellDay_2 (X_tellDay_L2 FU))]) (fin := finV) hG (d := 6) (by omega) rfl (List.forall_mem_cons.mpr ⟨⟨2, by omega, cs_X_moodAt hG⟩, (List.forall_mem_cons.mpr ⟨⟨5, by omega, cs_X_tellHour hG⟩, (fun _ h => absurd h List.not_mem_nil)⟩)⟩) (List.forall_mem_cons.mpr ⟨lc_X_tellDay_L2 hG FU, (fun _ h => absurd h List.not_mem_nil)⟩) tb_X_tellDay 300 (ab_row tab_X_tellDay 0) 0 (ab_ini (ab_ml 50) [(vR 0 0), (.inl p1)]) [] σ σ' (ab_row_bk tb_X_tellDay 0) ((e_X_tellDay _ _).trans h)
  obtain ⟨rfl, rfl⟩ := finV_inv hf
  exact ab_met (by decide) rfl (Nat.le_of_ble_eq_true rfl) hR
theorem cs_X_tellDay {l : Launch} {G : ab_Gt} (hG : ab_GG G) {R : Type} : ab_CS (R := R) l G 50 (6) cp_X_tellDay := by
  intro as σ k res h
  unfold cp_X_tellDay at h
  split at h
  · split at h
    · rename_i hb
      simp only [Bool.and_eq_true, Nat.beq_eq] at hb
      obtain ⟨hb1, hb2⟩ := hb
      subst hb1
      subst hb2
      obtain ⟨q, hq, hk⟩ := Option.bind_eq_some_iff.mp h
      exact ⟨_, _, lk_X_tellDay hG hq, rfl, (fun _ => Or.inl ⟨rfl, rfl⟩), hk⟩
    · cases h
  · cases h
theorem tb_Day_cheapest : ∀ q ∈ tab_Day_cheapest, ab_bk (ab_mo 188) (ab_mb 188) (ab_ml 188) 1 q.1 q.2 = true := List.all_eq_true.mp (by decide +kernel)
theorem lc_Day_cheapest_L97 {l : Launch} {G : ab_Gt} (hG : ab_GG G) {k3 : Int32 → Sg → Option (Int32 × Sg)} (h3 : ab_KS l G 188 (1) finI 3 (kc_Day_cheapest_3 k3)) : ∀ n : Nat, ab_KS l G 188 (1) finI 97 (kc_Day_cheapest_97 (Day_cheapest_L97 k3 n)) := by
  intro n
  induction n with
  | zero =>
    intro L st σ res h
    unfold kc_Day_cheapest_97 at h
    split at h
    · split at h
      · rename_i hb
        simp only [Bool.and_eq_true, Nat.beq_eq] at hb
        obtain ⟨hb1, hb2⟩ := hb
        subst hb1
        subst hb2
        exact absurd (show none = some res from h) (fun h => by cases h)
      · cases h
    · cases h
  | succ n ih =>
    intro L st σ res h
    unfold kc_Day_cheapest_97 at h
    split at h
    · split at h
      · rename_i hb
        simp only [Bool.and_eq_true, Nat.beq_eq] at hb
        obtain ⟨hb1, hb2⟩ := hb
        subst hb1
        subst hb2
        exact ab_ev_sound (tab := tab_Day_cheapest) (Os := []) (Ks := [(3, kc_Day_cheapest_3 k3), (97, kc_Day_cheapest_97 (Day_cheapest_L97 k3 n))]) (fin := finI) hG (by omega) rfl (fun _ h => absurd h List.not_mem_nil) (List.forall_mem_cons.mpr ⟨h3, (List.forall_mem_cons.mpr ⟨ih, (fun _ h => absurd h List.not_mem_nil)⟩)⟩) tb_Day_cheapest 300 (ab_row tab_Day_cheapest 97) 97 _ _ σ res (ab_row_bk tb_Day_cheapest 97) ((e_Day_cheapest_L97 _ _ _ _ _ _ _).trans h)
      · cases h
    · cases h
theorem lc_Day_cheapest_J67 {l : Launch} {G : ab_Gt} (hG : ab_GG G) {k3 : Int32 → Sg → Option (Int32 × Sg)} (h3 : ab_KS l G 188 (1) finI 3 (kc_Day_cheapest_3 k3)) {k12 : Int32 → Int32 → Int32 → Sg → Option (Int32 × Sg)} (h12 : ab_KS l G 188 (1) finI 12 (kc_Day_cheapest_12 k12)) : ab_KS l G 188 (1) finI 67 (kc_Day_cheapest_67 (Day_cheapest_J67 k3 k12)) := by
  intro L st σ res h
  unfold kc_Day_cheapest_67 at h
  split at h
  · split at h
    · rename_i hb
      simp only [Bool.and_eq_true, Nat.beq_eq] at hb
      obtain ⟨⟨⟨hb1, hb2⟩, hb3⟩, hb4⟩ := hb
      subst hb1
      subst hb2
      subst hb3
      subst hb4
      exact ab_ev_sound (tab := tab_Day_cheapest) (Os := []) (Ks := [(12, kc_Day_cheapest_12 k12)]) (fin := finI) hG (by omega) rfl (fun _ h => absurd h List.not_mem_nil) (List.forall_mem_cons.mpr ⟨h12, (fun _ h => absurd h List.not_mem_nil)⟩) tb_Day_cheapest 300 (ab_row tab_Day_cheapest 67) 67 _ _ σ res (ab_row_bk tb_Day_cheapest 67) ((e_Day_cheapest_J67 _ _ _ _ _ _ _ _ _ _).trans h)
    · cases h
  · cases h
theorem lc_Day_cheapest_L12 {l : Launch} {G : ab_Gt} (hG : ab_GG G) {k3 : Int32 → Sg → Option (Int32 × Sg)} (h3 : ab_KS l G 188 (1) finI 3 (kc_Day_cheapest_3 k3)) : ∀ n : Nat, ab_KS l G 188 (1) finI 12 (kc_Day_cheapest_12 (Day_cheapest_L12 k3 n)) := by
  intro n
  induction n with
  | zero =>
    intro L st σ res h
    unfold kc_Day_cheapest_12 at h
    split at h
    · split at h
      · rename_i hb
        simp only [Bool.and_eq_true, Nat.beq_eq] at hb
        obtain ⟨hb1, hb2⟩ := hb
        subst hb1
        subst hb2
        exact absurd (show none = some res from h) (fun h => by cases h)
      · cases h
    · cases h
  | succ n ih =>
    intro L st σ res h
    unfold kc_Day_cheapest_12 at h
    split at h
    · split at h
      · rename_i hb
        simp only [Bool.and_eq_true, Nat.beq_eq] at hb
        obtain ⟨hb1, hb2⟩ := hb
        subst hb1
        subst hb2
        exact ab_ev_sound (tab := tab_Day_cheapest) (Os := []) (Ks := [(67, kc_Day_cheapest_67 (Day_cheapest_J67 k3 (fun y0 y1 y2 τ => Day_cheapest_L12 k3 n y0 y1 y2 τ))), (97, kc_Day_cheapest_97 (Day_cheapest_L97 k3 FU))]) (fin := finI) hG (by omega) rfl (fun _ h => absurd h List.not_mem_nil) (List.forall_mem_cons.mpr ⟨lc_Day_cheapest_J67 hG h3 ih, (List.forall_mem_cons.mpr ⟨lc_Day_cheapest_L97 hG h3 FU, (fun _ h => absurd h List.not_mem_nil)⟩)⟩) tb_Day_cheapest 300 (ab_row tab_Day_cheapest 12) 12 _ _ σ res (ab_row_bk tb_Day_cheapest 12) ((e_Day_cheapest_L12 _ _ _ _ _ _ _).trans h)
      · cases h
    · cases h
theorem lc_Day_cheapest_L3 {l : Launch} {G : ab_Gt} (hG : ab_GG G) : ∀ n : Nat, ab_KS l G 188 (1) finI 3 (kc_Day_cheapest_3 (Day_cheapest_L3 n)) := by
  intro n
  induction n with
  | zero =>
    intro L st σ res h
    unfold kc_Day_cheapest_3 at h
    split at h
    · split at h
      · rename_i hb
        simp only [Bool.and_eq_true, Nat.beq_eq] at hb
        obtain ⟨hb1, hb2⟩ := hb
        subst hb1
        subst hb2
        exact absurd (show none = some res from h) (fun h => by cases h)
      · cases h
    · cases h
  | succ n ih =>
    intro L st σ res h
    unfold kc_Day_cheapest_3 at h
    split at h
    · split at h
      · rename_i hb
        simp only [Bool.and_eq_true, Nat.beq_eq] at hb
        obtain ⟨hb1, hb2⟩ := hb
        subst hb1
        subst hb2
        exact ab_ev_sound (tab := tab_Day_cheapest) (Os := []) (Ks := [(12, kc_Day_cheapest_12 (Day_cheapest_L12 (fun y0 τ => Day_cheapest_L3 n y0 τ) FU))]) (fin := finI) hG (by omega) rfl (fun _ h => absurd h List.not_mem_nil) (List.forall_mem_cons.mpr ⟨lc_Day_cheapest_L12 hG ih FU, (fun _ h => absurd h List.not_mem_nil)⟩) tb_Day_cheapest 300 (ab_row tab_Day_cheapest 3) 3 _ _ σ res (ab_row_bk tb_Day_cheapest 3) ((e_Day_cheapest_L3  _ _ _ _ _ _).trans h)
      · cases h
    · cases h
theorem lk_Day_cheapest {l : Launch} {G : ab_Gt} (hG : ab_GG G) {r : Int32} {σ σ' : Sg} (h : Day_cheapest  σ = some (r, σ')) : ab_CO l G 188 (1) [(vR 14 0)] σ (vI r) σ' := by
  obtain ⟨r0, σ2, hR, hf⟩ := ab_ev_sound (tab := tab_Day_cheapest) (Os := []) (Ks := [(3, kc_Day_cheapest_3 (Day_cheapest_L3 FU))]) (fin := finI) hG (d := 1) (by omega) rfl (fun _ h => absurd h List.not_mem_nil) (List.forall_mem_cons.mpr ⟨lc_Day_cheapest_L3 hG FU, (fun _ h => absurd h List.not_mem_nil)⟩) tb_Day_cheapest 300 (ab_row tab_Day_cheapest 0) 0 (ab_ini (ab_ml 188) [(vR 14 0)]) [] σ (r, σ') (ab_row_bk tb_Day_cheapest 0) ((e_Day_cheapest _).trans h)
  obtain ⟨rfl, rfl⟩ := finI_inv hf
  exact ab_met (by decide) rfl (Nat.le_of_ble_eq_true rfl) hR
theorem cs_Day_cheapest {l : Launch} {G : ab_Gt} (hG : ab_GG G) {R : Type} : ab_CS (R := R) l G 188 (1) cp_Day_cheapest := by
  intro as σ k res h
  unfold cp_Day_cheapest at h
  split at h
  · split at h
    · rename_i hb
      simp only [Bool.and_eq_true, Nat.beq_eq] at hb
      obtain ⟨hb1, hb2⟩ := hb
      subst hb1
      subst hb2
      obtain ⟨q, hq, hk⟩ := Option.bind_eq_some_iff.mp h
      exact ⟨_, _, lk_Day_cheapest hG hq, rfl, (fun _ => Or.inl ⟨rfl, rfl⟩), hk⟩
    · cases h
  · cases h
theorem tb_X_cheapCost : ∀ q ∈ tab_X_cheapCost, ab_bk (ab_mo 51) (ab_mb 51) (ab_ml 51) 1 q.1 q.2 = true := List.all_eq_true.mp (by decide +kernel)
theorem lk_X_cheapCost {l : Launch} {G : ab_Gt} (hG : ab_GG G) {p1 : Int32} {r : Int32} {σ σ' : Sg} (h : X_cheapCost p1 σ = some (r, σ')) : ab_CO l G 51 (7) [(vR 0 0), (.inl p1)] σ (vI r) σ' := by
  obtain ⟨r0, σ2, hR, hf⟩ := ab_ev_sound (tab := tab_X_cheapCost) (Os := [(50, cp_X_tellDay), (188, cp_Day_cheapest)]) (Ks := []) (fin := finI) hG (d := 7) (by omega) rfl (List.forall_mem_cons.mpr ⟨⟨6, by omega, cs_X_tellDay hG⟩, (List.forall_mem_cons.mpr ⟨⟨1, by omega, cs_Day_cheapest hG⟩, (fun _ h => absurd h List.not_mem_nil)⟩)⟩) (fun _ h => absurd h List.not_mem_nil) tb_X_cheapCost 300 (ab_row tab_X_cheapCost 0) 0 (ab_ini (ab_ml 51) [(vR 0 0), (.inl p1)]) [] σ (r, σ') (ab_row_bk tb_X_cheapCost 0) ((e_X_cheapCost _ _).trans h)
  obtain ⟨rfl, rfl⟩ := finI_inv hf
  exact ab_met (by decide) rfl (Nat.le_of_ble_eq_true rfl) hR
theorem cs_X_cheapCost {l : Launch} {G : ab_Gt} (hG : ab_GG G) {R : Type} : ab_CS (R := R) l G 51 (7) cp_X_cheapCost := by
  intro as σ k res h
  unfold cp_X_cheapCost at h
  split at h
  · split at h
    · rename_i hb
      simp only [Bool.and_eq_true, Nat.beq_eq] at hb
      obtain ⟨hb1, hb2⟩ := hb
      subst hb1
      subst hb2
      obtain ⟨q, hq, hk⟩ := Option.bind_eq_some_iff.mp h
      exact ⟨_, _, lk_X_cheapCost hG hq, rfl, (fun _ => Or.inl ⟨rfl, rfl⟩), hk⟩
    · cases h
  · cases h
theorem tb_X_bare : ∀ q ∈ tab_X_bare, ab_bk (ab_mo 53) (ab_mb 53) (ab_ml 53) 1 q.1 q.2 = true := List.all_eq_true.mp (by decide +kernel)
theorem lc_X_bare_L4 {l : Launch} {G : ab_Gt} (hG : ab_GG G) : ∀ n : Nat, ab_KS l G 53 (6) finI 4 (kc_X_bare_4 (X_bare_L4 n)) := by
  intro n
  induction n with
  | zero =>
    intro L st σ res h
    unfold kc_X_bare_4 at h
    split at h
    · split at h
      · rename_i hb
        simp only [Bool.and_eq_true, Nat.beq_eq] at hb
        obtain ⟨hb1, hb2⟩ := hb
        subst hb1
        subst hb2
        exact absurd (show none = some res from h) (fun h => by cases h)
      · cases h
    · cases h
  | succ n ih =>
    intro L st σ res h
    unfold kc_X_bare_4 at h
    split at h
    · split at h
      · rename_i hb
        simp only [Bool.and_eq_true, Nat.beq_eq] at hb
        obtain ⟨hb1, hb2⟩ := hb
        subst hb1
        subst hb2
        exact ab_ev_sound (tab := tab_X_bare) (Os := [(43, cp_X_rightAt)]) (Ks := [(4, kc_X_bare_4 (X_bare_L4 n))]) (fin := finI) hG (by omega) rfl (List.forall_mem_cons.mpr ⟨⟨5, by omega, cs_X_rightAt hG⟩, (fun _ h => absurd h List.not_mem_nil)⟩) (List.forall_mem_cons.mpr ⟨ih, (fun _ h => absurd h List.not_mem_nil)⟩) tb_X_bare 300 (ab_row tab_X_bare 4) 4 _ _ σ res (ab_row_bk tb_X_bare 4) ((e_X_bare_L4  _ _ _ _ _).trans h)
      · cases h
    · cases h
theorem lk_X_bare {l : Launch} {G : ab_Gt} (hG : ab_GG G) {p1 : Int32} {r : Int32} {σ σ' : Sg} (h : X_bare p1 σ = some (r, σ')) : ab_CO l G 53 (6) [(vR 0 0), (.inl p1)] σ (vI r) σ' := by
  obtain ⟨r0, σ2, hR, hf⟩ := ab_ev_sound (tab := tab_X_bare) (Os := [(43, cp_X_rightAt)]) (Ks := [(4, kc_X_bare_4 (X_bare_L4 FU))]) (fin := finI) hG (d := 6) (by omega) rfl (List.forall_mem_cons.mpr ⟨⟨5, by omega, cs_X_rightAt hG⟩, (fun _ h => absurd h List.not_mem_nil)⟩) (List.forall_mem_cons.mpr ⟨lc_X_bare_L4 hG FU, (fun _ h => absurd h List.not_mem_nil)⟩) tb_X_bare 300 (ab_row tab_X_bare 0) 0 (ab_ini (ab_ml 53) [(vR 0 0), (.inl p1)]) [] σ (r, σ') (ab_row_bk tb_X_bare 0) ((e_X_bare _ _).trans h)
  obtain ⟨rfl, rfl⟩ := finI_inv hf
  exact ab_met (by decide) rfl (Nat.le_of_ble_eq_true rfl) hR
theorem cs_X_bare {l : Launch} {G : ab_Gt} (hG : ab_GG G) {R : Type} : ab_CS (R := R) l G 53 (6) cp_X_bare := by
  intro as σ k res h
  unfold cp_X_bare at h
  split at h
  · split at h
    · rename_i hb
      simp only [Bool.and_eq_true, Nat.beq_eq] at hb
      obtain ⟨hb1, hb2⟩ := hb
      subst hb1
      subst hb2
      obtain ⟨q, hq, hk⟩ := Option.bind_eq_some_iff.mp h
      exact ⟨_, _, lk_X_bare hG hq, rfl, (fun _ => Or.inl ⟨rfl, rfl⟩), hk⟩
    · cases h
  · cases h
theorem tb_X_covers : ∀ q ∈ tab_X_covers, ab_bk (ab_mo 55) (ab_mb 55) (ab_ml 55) 3 q.1 q.2 = true := List.all_eq_true.mp (by decide +kernel)
theorem lc_X_covers_L2 {l : Launch} {G : ab_Gt} (hG : ab_GG G) : ∀ n : Nat, ab_KS l G 55 (1) finI 2 (kc_X_covers_2 (X_covers_L2 n)) := by
  intro n
  induction n with
  | zero =>
    intro L st σ res h
    unfold kc_X_covers_2 at h
    split at h
    · split at h
      · rename_i hb
        simp only [Bool.and_eq_true, Nat.beq_eq] at hb
        obtain ⟨hb1, hb2⟩ := hb
        subst hb1
        subst hb2
        exact absurd (show none = some res from h) (fun h => by cases h)
      · cases h
    · cases h
  | succ n ih =>
    intro L st σ res h
    unfold kc_X_covers_2 at h
    split at h
    · split at h
      · rename_i hb
        simp only [Bool.and_eq_true, Nat.beq_eq] at hb
        obtain ⟨hb1, hb2⟩ := hb
        subst hb1
        subst hb2
        exact ab_ev_sound (tab := tab_X_covers) (Os := []) (Ks := [(2, kc_X_covers_2 (X_covers_L2 n))]) (fin := finI) hG (by omega) rfl (fun _ h => absurd h List.not_mem_nil) (List.forall_mem_cons.mpr ⟨ih, (fun _ h => absurd h List.not_mem_nil)⟩) tb_X_covers 300 (ab_row tab_X_covers 2) 2 _ _ σ res (ab_row_bk tb_X_covers 2) ((e_X_covers_L2  _ _ _ _).trans h)
      · cases h
    · cases h
theorem lk_X_covers {l : Launch} {G : ab_Gt} (hG : ab_GG G) {p1 : Int32} {r : Int32} {σ σ' : Sg} (h : X_covers p1 σ = some (r, σ')) : ab_CO l G 55 (1) [(vR 0 0), (.inl p1)] σ (vI r) σ' := by
  obtain ⟨r0, σ2, hR, hf⟩ := ab_ev_sound (tab := tab_X_covers) (Os := []) (Ks := [(2, kc_X_covers_2 (X_covers_L2 FU))]) (fin := finI) hG (d := 1) (by omega) rfl (fun _ h => absurd h List.not_mem_nil) (List.forall_mem_cons.mpr ⟨lc_X_covers_L2 hG FU, (fun _ h => absurd h List.not_mem_nil)⟩) tb_X_covers 300 (ab_row tab_X_covers 0) 0 (ab_ini (ab_ml 55) [(vR 0 0), (.inl p1)]) [] σ (r, σ') (ab_row_bk tb_X_covers 0) ((e_X_covers _ _).trans h)
  obtain ⟨rfl, rfl⟩ := finI_inv hf
  exact ab_met (by decide) rfl (Nat.le_of_ble_eq_true rfl) hR
theorem cs_X_covers {l : Launch} {G : ab_Gt} (hG : ab_GG G) {R : Type} : ab_CS (R := R) l G 55 (1) cp_X_covers := by
  intro as σ k res h
  unfold cp_X_covers at h
  split at h
  · split at h
    · rename_i hb
      simp only [Bool.and_eq_true, Nat.beq_eq] at hb
      obtain ⟨hb1, hb2⟩ := hb
      subst hb1
      subst hb2
      obtain ⟨q, hq, hk⟩ := Option.bind_eq_some_iff.mp h
      exact ⟨_, _, lk_X_covers hG hq, rfl, (fun _ => Or.inl ⟨rfl, rfl⟩), hk⟩
    · cases h
  · cases h
theorem tb_Jint_bitCount : ∀ q ∈ tab_Jint_bitCount, ab_bk (ab_mo 227) (ab_mb 227) (ab_ml 227) 1 q.1 q.2 = true := List.all_eq_true.mp (by decide +kernel)
theorem lk_Jint_bitCount {l : Launch} {G : ab_Gt} (hG : ab_GG G) {p0 : Int32} {r : Int32} {σ σ' : Sg} (h : Jint_bitCount p0 σ = some (r, σ')) : ab_CO l G 227 (1) [(.inl p0)] σ (vI r) σ' := by
  obtain ⟨r0, σ2, hR, hf⟩ := ab_ev_sound (tab := tab_Jint_bitCount) (Os := []) (Ks := []) (fin := finI) hG (d := 1) (by omega) rfl (fun _ h => absurd h List.not_mem_nil) (fun _ h => absurd h List.not_mem_nil) tb_Jint_bitCount 300 (ab_row tab_Jint_bitCount 0) 0 (ab_ini (ab_ml 227) [(.inl p0)]) [] σ (r, σ') (ab_row_bk tb_Jint_bitCount 0) ((e_Jint_bitCount _ _).trans h)
  obtain ⟨rfl, rfl⟩ := finI_inv hf
  exact ab_met (by decide) rfl (Nat.le_of_ble_eq_true rfl) hR
theorem cs_Jint_bitCount {l : Launch} {G : ab_Gt} (hG : ab_GG G) {R : Type} : ab_CS (R := R) l G 227 (1) cp_Jint_bitCount := by
  intro as σ k res h
  unfold cp_Jint_bitCount at h
  split at h
  · obtain ⟨q, hq, hk⟩ := Option.bind_eq_some_iff.mp h
    exact ⟨_, _, lk_Jint_bitCount hG hq, rfl, (fun h => by cases h), hk⟩
  · cases h
theorem tb_X_cover : ∀ q ∈ tab_X_cover, ab_bk (ab_mo 54) (ab_mb 54) (ab_ml 54) 1 q.1 q.2 = true := List.all_eq_true.mp (by decide +kernel)
theorem lc_X_cover_L39 {l : Launch} {G : ab_Gt} (hG : ab_GG G) : ∀ n : Nat, ab_KS l G 54 (6) finI 39 (kc_X_cover_39 (X_cover_L39 n)) := by
  intro n
  induction n with
  | zero =>
    intro L st σ res h
    unfold kc_X_cover_39 at h
    split at h
    · split at h
      · rename_i hb
        simp only [Bool.and_eq_true, Nat.beq_eq] at hb
        obtain ⟨hb1, hb2⟩ := hb
        subst hb1
        subst hb2
        exact absurd (show none = some res from h) (fun h => by cases h)
      · cases h
    · cases h
  | succ n ih =>
    intro L st σ res h
    unfold kc_X_cover_39 at h
    split at h
    · split at h
      · rename_i hb
        simp only [Bool.and_eq_true, Nat.beq_eq] at hb
        obtain ⟨hb1, hb2⟩ := hb
        subst hb1
        subst hb2
        exact ab_ev_sound (tab := tab_X_cover) (Os := [(43, cp_X_rightAt), (55, cp_X_covers), (227, cp_Jint_bitCount)]) (Ks := [(39, kc_X_cover_39 (X_cover_L39 n))]) (fin := finI) hG (by omega) rfl (List.forall_mem_cons.mpr ⟨⟨5, by omega, cs_X_rightAt hG⟩, (List.forall_mem_cons.mpr ⟨⟨1, by omega, cs_X_covers hG⟩, (List.forall_mem_cons.mpr ⟨⟨1, by omega, cs_Jint_bitCount hG⟩, (fun _ h => absurd h List.not_mem_nil)⟩)⟩)⟩) (List.forall_mem_cons.mpr ⟨ih, (fun _ h => absurd h List.not_mem_nil)⟩) tb_X_cover 300 (ab_row tab_X_cover 39) 39 _ _ σ res (ab_row_bk tb_X_cover 39) ((e_X_cover_L39  _ _ _ _ _).trans h)
      · cases h
    · cases h
theorem lc_X_cover_L2 {l : Launch} {G : ab_Gt} (hG : ab_GG G) : ∀ n : Nat, ab_KS l G 54 (6) finI 2 (kc_X_cover_2 (X_cover_L2 n)) := by
  intro n
  induction n with
  | zero =>
    intro L st σ res h
    unfold kc_X_cover_2 at h
    split at h
    · split at h
      · rename_i hb
        simp only [Bool.and_eq_true, Nat.beq_eq] at hb
        obtain ⟨hb1, hb2⟩ := hb
        subst hb1
        subst hb2
        exact absurd (show none = some res from h) (fun h => by cases h)
      · cases h
    · cases h
  | succ n ih =>
    intro L st σ res h
    unfold kc_X_cover_2 at h
    split at h
    · split at h
      · rename_i hb
        simp only [Bool.and_eq_true, Nat.beq_eq] at hb
        obtain ⟨hb1, hb2⟩ := hb
        subst hb1
        subst hb2
        exact ab_ev_sound (tab := tab_X_cover) (Os := [(43, cp_X_rightAt), (55, cp_X_covers), (227, cp_Jint_bitCount)]) (Ks := [(2, kc_X_cover_2 (X_cover_L2 n)), (39, kc_X_cover_39 (X_cover_L39 FU))]) (fin := finI) hG (by omega) rfl (List.forall_mem_cons.mpr ⟨⟨5, by omega, cs_X_rightAt hG⟩, (List.forall_mem_cons.mpr ⟨⟨1, by omega, cs_X_covers hG⟩, (List.forall_mem_cons.mpr ⟨⟨1, by omega, cs_Jint_bitCount hG⟩, (fun _ h => absurd h List.not_mem_nil)⟩)⟩)⟩) (List.forall_mem_cons.mpr ⟨ih, (List.forall_mem_cons.mpr ⟨lc_X_cover_L39 hG FU, (fun _ h => absurd h List.not_mem_nil)⟩)⟩) tb_X_cover 300 (ab_row tab_X_cover 2) 2 _ _ σ res (ab_row_bk tb_X_cover 2) ((e_X_cover_L2  _ _ _ _ _).trans h)
      · cases h
    · cases h
theorem lk_X_cover {l : Launch} {G : ab_Gt} (hG : ab_GG G) {p1 : Int32} {r : Int32} {σ σ' : Sg} (h : X_cover p1 σ = some (r, σ')) : ab_CO l G 54 (6) [(vR 0 0), (.inl p1)] σ (vI r) σ' := by
  obtain ⟨r0, σ2, hR, hf⟩ := ab_ev_sound (tab := tab_X_cover) (Os := [(43, cp_X_rightAt), (55, cp_X_covers), (227, cp_Jint_bitCount)]) (Ks := [(2, kc_X_cover_2 (X_cover_L2 FU))]) (fin := finI) hG (d := 6) (by omega) rfl (List.forall_mem_cons.mpr ⟨⟨5, by omega, cs_X_rightAt hG⟩, (List.forall_mem_cons.mpr ⟨⟨1, by omega, cs_X_covers hG⟩, (List.forall_mem_cons.mpr ⟨⟨1, by omega, cs_Jint_bitCount hG⟩, (fun _ h => absurd h List.not_mem_nil)⟩)⟩)⟩) (List.forall_mem_cons.mpr ⟨lc_X_cover_L2 hG FU, (fun _ h => absurd h List.not_mem_nil)⟩) tb_X_cover 300 (ab_row tab_X_cover 0) 0 (ab_ini (ab_ml 54) [(vR 0 0), (.inl p1)]) [] σ (r, σ') (ab_row_bk tb_X_cover 0) ((e_X_cover _ _).trans h)
  obtain ⟨rfl, rfl⟩ := finI_inv hf
  exact ab_met (by decide) rfl (Nat.le_of_ble_eq_true rfl) hR
theorem cs_X_cover {l : Launch} {G : ab_Gt} (hG : ab_GG G) {R : Type} : ab_CS (R := R) l G 54 (6) cp_X_cover := by
  intro as σ k res h
  unfold cp_X_cover at h
  split at h
  · split at h
    · rename_i hb
      simp only [Bool.and_eq_true, Nat.beq_eq] at hb
      obtain ⟨hb1, hb2⟩ := hb
      subst hb1
      subst hb2
      obtain ⟨q, hq, hk⟩ := Option.bind_eq_some_iff.mp h
      exact ⟨_, _, lk_X_cover hG hq, rfl, (fun _ => Or.inl ⟨rfl, rfl⟩), hk⟩
    · cases h
  · cases h
theorem tb_X_changes : ∀ q ∈ tab_X_changes, ab_bk (ab_mo 56) (ab_mb 56) (ab_ml 56) 1 q.1 q.2 = true := List.all_eq_true.mp (by decide +kernel)
theorem lc_X_changes_L14 {l : Launch} {G : ab_Gt} (hG : ab_GG G) : ∀ n : Nat, ab_KS l G 56 (6) finI 14 (kc_X_changes_14 (X_changes_L14 n)) := by
  intro n
  induction n with
  | zero =>
    intro L st σ res h
    unfold kc_X_changes_14 at h
    split at h
    · split at h
      · rename_i hb
        simp only [Bool.and_eq_true, Nat.beq_eq] at hb
        obtain ⟨hb1, hb2⟩ := hb
        subst hb1
        subst hb2
        exact absurd (show none = some res from h) (fun h => by cases h)
      · cases h
    · cases h
  | succ n ih =>
    intro L st σ res h
    unfold kc_X_changes_14 at h
    split at h
    · split at h
      · rename_i hb
        simp only [Bool.and_eq_true, Nat.beq_eq] at hb
        obtain ⟨hb1, hb2⟩ := hb
        subst hb1
        subst hb2
        exact ab_ev_sound (tab := tab_X_changes) (Os := [(43, cp_X_rightAt)]) (Ks := [(14, kc_X_changes_14 (X_changes_L14 n))]) (fin := finI) hG (by omega) rfl (List.forall_mem_cons.mpr ⟨⟨5, by omega, cs_X_rightAt hG⟩, (fun _ h => absurd h List.not_mem_nil)⟩) (List.forall_mem_cons.mpr ⟨ih, (fun _ h => absurd h List.not_mem_nil)⟩) tb_X_changes 300 (ab_row tab_X_changes 14) 14 _ _ σ res (ab_row_bk tb_X_changes 14) ((e_X_changes_L14  _ _ _ _ _ _ _).trans h)
      · cases h
    · cases h
theorem lk_X_changes {l : Launch} {G : ab_Gt} (hG : ab_GG G) {p1 : Int32} {r : Int32} {σ σ' : Sg} (h : X_changes p1 σ = some (r, σ')) : ab_CO l G 56 (6) [(vR 0 0), (.inl p1)] σ (vI r) σ' := by
  obtain ⟨r0, σ2, hR, hf⟩ := ab_ev_sound (tab := tab_X_changes) (Os := [(43, cp_X_rightAt)]) (Ks := [(14, kc_X_changes_14 (X_changes_L14 FU))]) (fin := finI) hG (d := 6) (by omega) rfl (List.forall_mem_cons.mpr ⟨⟨5, by omega, cs_X_rightAt hG⟩, (fun _ h => absurd h List.not_mem_nil)⟩) (List.forall_mem_cons.mpr ⟨lc_X_changes_L14 hG FU, (fun _ h => absurd h List.not_mem_nil)⟩) tb_X_changes 300 (ab_row tab_X_changes 0) 0 (ab_ini (ab_ml 56) [(vR 0 0), (.inl p1)]) [] σ (r, σ') (ab_row_bk tb_X_changes 0) ((e_X_changes _ _).trans h)
  obtain ⟨rfl, rfl⟩ := finI_inv hf
  exact ab_met (by decide) rfl (Nat.le_of_ble_eq_true rfl) hR
theorem cs_X_changes {l : Launch} {G : ab_Gt} (hG : ab_GG G) {R : Type} : ab_CS (R := R) l G 56 (6) cp_X_changes := by
  intro as σ k res h
  unfold cp_X_changes at h
  split at h
  · split at h
    · rename_i hb
      simp only [Bool.and_eq_true, Nat.beq_eq] at hb
      obtain ⟨hb1, hb2⟩ := hb
      subst hb1
      subst hb2
      obtain ⟨q, hq, hk⟩ := Option.bind_eq_some_iff.mp h
      exact ⟨_, _, lk_X_changes hG hq, rfl, (fun _ => Or.inl ⟨rfl, rfl⟩), hk⟩
    · cases h
  · cases h
theorem tb_Day_firstBehind : ∀ q ∈ tab_Day_firstBehind, ab_bk (ab_mo 190) (ab_mb 190) (ab_ml 190) 1 q.1 q.2 = true := List.all_eq_true.mp (by decide +kernel)
theorem lc_Day_firstBehind_J47 {l : Launch} {G : ab_Gt} (hG : ab_GG G) {k2 : Int32 → Int32 → Int32 → Sg → Option (Int32 × Sg)} (h2 : ab_KS l G 190 (1) finI 2 (kc_Day_firstBehind_2 k2)) : ab_KS l G 190 (1) finI 47 (kc_Day_firstBehind_47 (Day_firstBehind_J47 k2)) := by
  intro L st σ res h
  unfold kc_Day_firstBehind_47 at h
  split at h
  · split at h
    · rename_i hb
      simp only [Bool.and_eq_true, Nat.beq_eq] at hb
      obtain ⟨hb1, hb2⟩ := hb
      subst hb1
      subst hb2
      exact ab_ev_sound (tab := tab_Day_firstBehind) (Os := []) (Ks := [(2, kc_Day_firstBehind_2 k2)]) (fin := finI) hG (by omega) rfl (fun _ h => absurd h List.not_mem_nil) (List.forall_mem_cons.mpr ⟨h2, (fun _ h => absurd h List.not_mem_nil)⟩) tb_Day_firstBehind 300 (ab_row tab_Day_firstBehind 47) 47 _ _ σ res (ab_row_bk tb_Day_firstBehind 47) ((e_Day_firstBehind_J47 _ _ _ _ _ _ _ _ _).trans h)
    · cases h
  · cases h
theorem lc_Day_firstBehind_L2 {l : Launch} {G : ab_Gt} (hG : ab_GG G) : ∀ n : Nat, ab_KS l G 190 (1) finI 2 (kc_Day_firstBehind_2 (Day_firstBehind_L2 n)) := by
  intro n
  induction n with
  | zero =>
    intro L st σ res h
    unfold kc_Day_firstBehind_2 at h
    split at h
    · split at h
      · rename_i hb
        simp only [Bool.and_eq_true, Nat.beq_eq] at hb
        obtain ⟨hb1, hb2⟩ := hb
        subst hb1
        subst hb2
        exact absurd (show none = some res from h) (fun h => by cases h)
      · cases h
    · cases h
  | succ n ih =>
    intro L st σ res h
    unfold kc_Day_firstBehind_2 at h
    split at h
    · split at h
      · rename_i hb
        simp only [Bool.and_eq_true, Nat.beq_eq] at hb
        obtain ⟨hb1, hb2⟩ := hb
        subst hb1
        subst hb2
        exact ab_ev_sound (tab := tab_Day_firstBehind) (Os := []) (Ks := [(47, kc_Day_firstBehind_47 (Day_firstBehind_J47 (fun y0 y1 y2 τ => Day_firstBehind_L2 n y0 y1 y2 τ)))]) (fin := finI) hG (by omega) rfl (fun _ h => absurd h List.not_mem_nil) (List.forall_mem_cons.mpr ⟨lc_Day_firstBehind_J47 hG ih, (fun _ h => absurd h List.not_mem_nil)⟩) tb_Day_firstBehind 300 (ab_row tab_Day_firstBehind 2) 2 _ _ σ res (ab_row_bk tb_Day_firstBehind 2) ((e_Day_firstBehind_L2  _ _ _ _ _ _ _).trans h)
      · cases h
    · cases h
theorem lk_Day_firstBehind {l : Launch} {G : ab_Gt} (hG : ab_GG G) {p1 : Int32} {p2 : Int32} {r : Int32} {σ σ' : Sg} (h : Day_firstBehind p1 p2 σ = some (r, σ')) : ab_CO l G 190 (1) [(vR 14 0), (.inl p1), (.inl p2)] σ (vI r) σ' := by
  obtain ⟨r0, σ2, hR, hf⟩ := ab_ev_sound (tab := tab_Day_firstBehind) (Os := []) (Ks := [(2, kc_Day_firstBehind_2 (Day_firstBehind_L2 FU))]) (fin := finI) hG (d := 1) (by omega) rfl (fun _ h => absurd h List.not_mem_nil) (List.forall_mem_cons.mpr ⟨lc_Day_firstBehind_L2 hG FU, (fun _ h => absurd h List.not_mem_nil)⟩) tb_Day_firstBehind 300 (ab_row tab_Day_firstBehind 0) 0 (ab_ini (ab_ml 190) [(vR 14 0), (.inl p1), (.inl p2)]) [] σ (r, σ') (ab_row_bk tb_Day_firstBehind 0) ((e_Day_firstBehind _ _ _).trans h)
  obtain ⟨rfl, rfl⟩ := finI_inv hf
  exact ab_met (by decide) rfl (Nat.le_of_ble_eq_true rfl) hR
theorem cs_Day_firstBehind {l : Launch} {G : ab_Gt} (hG : ab_GG G) {R : Type} : ab_CS (R := R) l G 190 (1) cp_Day_firstBehind := by
  intro as σ k res h
  unfold cp_Day_firstBehind at h
  split at h
  · split at h
    · rename_i hb
      simp only [Bool.and_eq_true, Nat.beq_eq] at hb
      obtain ⟨hb1, hb2⟩ := hb
      subst hb1
      subst hb2
      obtain ⟨q, hq, hk⟩ := Option.bind_eq_some_iff.mp h
      exact ⟨_, _, lk_Day_firstBehind hG hq, rfl, (fun _ => Or.inl ⟨rfl, rfl⟩), hk⟩
    · cases h
  · cases h
theorem tb_Day_wornAt : ∀ q ∈ tab_Day_wornAt, ab_bk (ab_mo 189) (ab_mb 189) (ab_ml 189) 1 q.1 q.2 = true := List.all_eq_true.mp (by decide +kernel)
theorem lc_Day_wornAt_J28 {l : Launch} {G : ab_Gt} (hG : ab_GG G) : ab_KS l G 189 (2) finI 28 (kc_Day_wornAt_28 (Day_wornAt_J28)) := by
  intro L st σ res h
  unfold kc_Day_wornAt_28 at h
  split at h
  · exact ab_ev_sound (tab := tab_Day_wornAt) (Os := [(190, cp_Day_firstBehind)]) (Ks := []) (fin := finI) hG (by omega) rfl (List.forall_mem_cons.mpr ⟨⟨1, by omega, cs_Day_firstBehind hG⟩, (fun _ h => absurd h List.not_mem_nil)⟩) (fun _ h => absurd h List.not_mem_nil) tb_Day_wornAt 300 (ab_row tab_Day_wornAt 28) 28 _ _ σ res (ab_row_bk tb_Day_wornAt 28) ((e_Day_wornAt_J28  _ _ _ _ _).trans h)
  · cases h
theorem lc_Day_wornAt_L4 {l : Launch} {G : ab_Gt} (hG : ab_GG G) : ∀ n : Nat, ab_KS l G 189 (2) finI 4 (kc_Day_wornAt_4 (Day_wornAt_L4 n)) := by
  intro n
  induction n with
  | zero =>
    intro L st σ res h
    unfold kc_Day_wornAt_4 at h
    split at h
    · split at h
      · rename_i hb
        simp only [Bool.and_eq_true, Nat.beq_eq] at hb
        obtain ⟨hb1, hb2⟩ := hb
        subst hb1
        subst hb2
        exact absurd (show none = some res from h) (fun h => by cases h)
      · cases h
    · cases h
  | succ n ih =>
    intro L st σ res h
    unfold kc_Day_wornAt_4 at h
    split at h
    · split at h
      · rename_i hb
        simp only [Bool.and_eq_true, Nat.beq_eq] at hb
        obtain ⟨hb1, hb2⟩ := hb
        subst hb1
        subst hb2
        exact ab_ev_sound (tab := tab_Day_wornAt) (Os := [(190, cp_Day_firstBehind)]) (Ks := [(4, kc_Day_wornAt_4 (Day_wornAt_L4 n)), (28, kc_Day_wornAt_28 (Day_wornAt_J28))]) (fin := finI) hG (by omega) rfl (List.forall_mem_cons.mpr ⟨⟨1, by omega, cs_Day_firstBehind hG⟩, (fun _ h => absurd h List.not_mem_nil)⟩) (List.forall_mem_cons.mpr ⟨ih, (List.forall_mem_cons.mpr ⟨lc_Day_wornAt_J28 hG, (fun _ h => absurd h List.not_mem_nil)⟩)⟩) tb_Day_wornAt 300 (ab_row tab_Day_wornAt 4) 4 _ _ σ res (ab_row_bk tb_Day_wornAt 4) ((e_Day_wornAt_L4  _ _ _ _ _).trans h)
      · cases h
    · cases h
theorem lk_Day_wornAt {l : Launch} {G : ab_Gt} (hG : ab_GG G) {p1 : Int32} {r : Int32} {σ σ' : Sg} (h : Day_wornAt p1 σ = some (r, σ')) : ab_CO l G 189 (2) [(vR 14 0), (.inl p1)] σ (vI r) σ' := by
  obtain ⟨r0, σ2, hR, hf⟩ := ab_ev_sound (tab := tab_Day_wornAt) (Os := [(190, cp_Day_firstBehind)]) (Ks := [(4, kc_Day_wornAt_4 (Day_wornAt_L4 FU))]) (fin := finI) hG (d := 2) (by omega) rfl (List.forall_mem_cons.mpr ⟨⟨1, by omega, cs_Day_firstBehind hG⟩, (fun _ h => absurd h List.not_mem_nil)⟩) (List.forall_mem_cons.mpr ⟨lc_Day_wornAt_L4 hG FU, (fun _ h => absurd h List.not_mem_nil)⟩) tb_Day_wornAt 300 (ab_row tab_Day_wornAt 0) 0 (ab_ini (ab_ml 189) [(vR 14 0), (.inl p1)]) [] σ (r, σ') (ab_row_bk tb_Day_wornAt 0) ((e_Day_wornAt _ _).trans h)
  obtain ⟨rfl, rfl⟩ := finI_inv hf
  exact ab_met (by decide) rfl (Nat.le_of_ble_eq_true rfl) hR
theorem cs_Day_wornAt {l : Launch} {G : ab_Gt} (hG : ab_GG G) {R : Type} : ab_CS (R := R) l G 189 (2) cp_Day_wornAt := by
  intro as σ k res h
  unfold cp_Day_wornAt at h
  split at h
  · split at h
    · rename_i hb
      simp only [Bool.and_eq_true, Nat.beq_eq] at hb
      obtain ⟨hb1, hb2⟩ := hb
      subst hb1
      subst hb2
      obtain ⟨q, hq, hk⟩ := Option.bind_eq_some_iff.mp h
      exact ⟨_, _, lk_Day_wornAt hG hq, rfl, (fun _ => Or.inl ⟨rfl, rfl⟩), hk⟩
    · cases h
  · cases h
theorem tb_X_day : ∀ q ∈ tab_X_day, ab_bk (ab_mo 11) (ab_mb 11) (ab_ml 11) 1 q.1 q.2 = true := List.all_eq_true.mp (by decide +kernel)
theorem lc_X_day_J47 {l : Launch} {G : ab_Gt} (hG : ab_GG G) : ab_KS l G 11 (8) finI 47 (kc_X_day_47 (X_day_J47)) := by
  intro L st σ res h
  unfold kc_X_day_47 at h
  split at h
  · split at h
    · rename_i hb
      simp only [Bool.and_eq_true, Nat.beq_eq] at hb
      obtain ⟨hb1, hb2⟩ := hb
      subst hb1
      subst hb2
      exact ab_ev_sound (tab := tab_X_day) (Os := [(29, cp_X_isOne), (50, cp_X_tellDay), (51, cp_X_cheapCost), (53, cp_X_bare), (54, cp_X_cover), (56, cp_X_changes), (188, cp_Day_cheapest), (189, cp_Day_wornAt), (227, cp_Jint_bitCount)]) (Ks := []) (fin := finI) hG (by omega) rfl (List.forall_mem_cons.mpr ⟨⟨1, by omega, cs_X_isOne hG⟩, (List.forall_mem_cons.mpr ⟨⟨6, by omega, cs_X_tellDay hG⟩, (List.forall_mem_cons.mpr ⟨⟨7, by omega, cs_X_cheapCost hG⟩, (List.forall_mem_cons.mpr ⟨⟨6, by omega, cs_X_bare hG⟩, (List.forall_mem_cons.mpr ⟨⟨6, by omega, cs_X_cover hG⟩, (List.forall_mem_cons.mpr ⟨⟨6, by omega, cs_X_changes hG⟩, (List.forall_mem_cons.mpr ⟨⟨1, by omega, cs_Day_cheapest hG⟩, (List.forall_mem_cons.mpr ⟨⟨2, by omega, cs_Day_wornAt hG⟩, (List.forall_mem_cons.mpr ⟨⟨1, by omega, cs_Jint_bitCount hG⟩, (fun _ h => absurd h List.not_mem_nil)⟩)⟩)⟩)⟩)⟩)⟩)⟩)⟩)⟩) (fun _ h => absurd h List.not_mem_nil) tb_X_day 300 (ab_row tab_X_day 47) 47 _ _ σ res (ab_row_bk tb_X_day 47) ((e_X_day_J47  _ _ _).trans h)
    · cases h
  · cases h
theorem lk_X_day {l : Launch} {G : ab_Gt} (hG : ab_GG G) {p1 : Int32} {p2 : Int32} {r : Int32} {σ σ' : Sg} (h : X_day p1 p2 σ = some (r, σ')) : ab_CO l G 11 (8) [(vR 0 0), (.inl p1), (.inl p2)] σ (vI r) σ' := by
  obtain ⟨r0, σ2, hR, hf⟩ := ab_ev_sound (tab := tab_X_day) (Os := [(29, cp_X_isOne), (50, cp_X_tellDay), (51, cp_X_cheapCost), (53, cp_X_bare), (54, cp_X_cover), (56, cp_X_changes), (188, cp_Day_cheapest), (189, cp_Day_wornAt), (227, cp_Jint_bitCount)]) (Ks := [(47, kc_X_day_47 (X_day_J47))]) (fin := finI) hG (d := 8) (by omega) rfl (List.forall_mem_cons.mpr ⟨⟨1, by omega, cs_X_isOne hG⟩, (List.forall_mem_cons.mpr ⟨⟨6, by omega, cs_X_tellDay hG⟩, (List.forall_mem_cons.mpr ⟨⟨7, by omega, cs_X_cheapCost hG⟩, (List.forall_mem_cons.mpr ⟨⟨6, by omega, cs_X_bare hG⟩, (List.forall_mem_cons.mpr ⟨⟨6, by omega, cs_X_cover hG⟩, (List.forall_mem_cons.mpr ⟨⟨6, by omega, cs_X_changes hG⟩, (List.forall_mem_cons.mpr ⟨⟨1, by omega, cs_Day_cheapest hG⟩, (List.forall_mem_cons.mpr ⟨⟨2, by omega, cs_Day_wornAt hG⟩, (List.forall_mem_cons.mpr ⟨⟨1, by omega, cs_Jint_bitCount hG⟩, (fun _ h => absurd h List.not_mem_nil)⟩)⟩)⟩)⟩)⟩)⟩)⟩)⟩)⟩) (List.forall_mem_cons.mpr ⟨lc_X_day_J47 hG, (fun _ h => absurd h List.not_mem_nil)⟩) tb_X_day 300 (ab_row tab_X_day 0) 0 (ab_ini (ab_ml 11) [(vR 0 0), (.inl p1), (.inl p2)]) [] σ (r, σ') (ab_row_bk tb_X_day 0) ((e_X_day _ _ _).trans h)
  obtain ⟨rfl, rfl⟩ := finI_inv hf
  exact ab_met (by decide) rfl (Nat.le_of_ble_eq_true rfl) hR
theorem cs_X_day {l : Launch} {G : ab_Gt} (hG : ab_GG G) {R : Type} : ab_CS (R := R) l G 11 (8) cp_X_day := by
  intro as σ k res h
  unfold cp_X_day at h
  split at h
  · split at h
    · rename_i hb
      simp only [Bool.and_eq_true, Nat.beq_eq] at hb
      obtain ⟨hb1, hb2⟩ := hb
      subst hb1
      subst hb2
      obtain ⟨q, hq, hk⟩ := Option.bind_eq_some_iff.mp h
      exact ⟨_, _, lk_X_day hG hq, rfl, (fun _ => Or.inl ⟨rfl, rfl⟩), hk⟩
    · cases h
  · cases h
theorem tb_Sheet_become : ∀ q ∈ tab_Sheet_become, ab_bk (ab_mo 198) (ab_mb 198) (ab_ml 198) 0 q.1 q.2 = true := List.all_eq_true.mp (by decide +kernel)
theorem lc_Sheet_become_L21 {l : Launch} {G : ab_Gt} (hG : ab_GG G) : ∀ n : Nat, ab_KS l G 198 (1) finV 21 (kc_Sheet_become_21 (Sheet_become_L21 n)) := by
  intro n
  induction n with
  | zero =>
    intro L st σ res h
    unfold kc_Sheet_become_21 at h
    split at h
    · split at h
      · rename_i hb
        simp only [Bool.and_eq_true, Nat.beq_eq] at hb
        subst hb
        exact absurd (show none = some res from h) (fun h => by cases h)
      · cases h
    · cases h
  | succ n ih =>
    intro L st σ res h
    unfold kc_Sheet_become_21 at h
    split at h
    · split at h
      · rename_i hb
        simp only [Bool.and_eq_true, Nat.beq_eq] at hb
        subst hb
        exact ab_ev_sound (tab := tab_Sheet_become) (Os := []) (Ks := [(21, kc_Sheet_become_21 (Sheet_become_L21 n))]) (fin := finV) hG (by omega) rfl (fun _ h => absurd h List.not_mem_nil) (List.forall_mem_cons.mpr ⟨ih, (fun _ h => absurd h List.not_mem_nil)⟩) tb_Sheet_become 300 (ab_row tab_Sheet_become 21) 21 _ _ σ res (ab_row_bk tb_Sheet_become 21) ((e_Sheet_become_L21  _ _ _ _ _ _).trans h)
      · cases h
    · cases h
theorem lk_Sheet_become {l : Launch} {G : ab_Gt} (hG : ab_GG G) {p0 : Nat} {p1 : Int32} {p2 : Int32} {σ σ' : Sg} (h : Sheet_become p0 p1 p2 σ = some σ') : ab_CO l G 198 (1) [(vR 12 p0), (.inl p1), (.inl p2)] σ vU σ' := by
  obtain ⟨r0, σ2, hR, hf⟩ := ab_ev_sound (tab := tab_Sheet_become) (Os := []) (Ks := [(21, kc_Sheet_become_21 (Sheet_become_L21 FU))]) (fin := finV) hG (d := 1) (by omega) rfl (fun _ h => absurd h List.not_mem_nil) (List.forall_mem_cons.mpr ⟨lc_Sheet_become_L21 hG FU, (fun _ h => absurd h List.not_mem_nil)⟩) tb_Sheet_become 300 (ab_row tab_Sheet_become 0) 0 (ab_ini (ab_ml 198) [(vR 12 p0), (.inl p1), (.inl p2)]) [] σ σ' (ab_row_bk tb_Sheet_become 0) ((e_Sheet_become _ _ _ _).trans h)
  obtain ⟨rfl, rfl⟩ := finV_inv hf
  exact ab_met (by decide) rfl (Nat.le_of_ble_eq_true rfl) hR
theorem cs_Sheet_become {l : Launch} {G : ab_Gt} (hG : ab_GG G) {R : Type} : ab_CS (R := R) l G 198 (1) cp_Sheet_become := by
  intro as σ k res h
  unfold cp_Sheet_become at h
  split at h
  · split at h
    · rename_i hb
      simp only [Bool.and_eq_true, Nat.beq_eq] at hb
      subst hb
      obtain ⟨q, hq, hk⟩ := Option.bind_eq_some_iff.mp h
      exact ⟨_, _, lk_Sheet_become hG hq, rfl, (fun _ => Or.inl ⟨rfl, rfl⟩), hk⟩
    · cases h
  · cases h
theorem tb_Sheet_put : ∀ q ∈ tab_Sheet_put, ab_bk (ab_mo 199) (ab_mb 199) (ab_ml 199) 0 q.1 q.2 = true := List.all_eq_true.mp (by decide +kernel)
theorem lk_Sheet_put {l : Launch} {G : ab_Gt} (hG : ab_GG G) {p0 : Nat} {p1 : Int32} {p2 : Int32} {σ σ' : Sg} (h : Sheet_put p0 p1 p2 σ = some σ') : ab_CO l G 199 (2) [(vR 12 p0), (.inl p1), (.inl p2)] σ vU σ' := by
  obtain ⟨r0, σ2, hR, hf⟩ := ab_ev_sound (tab := tab_Sheet_put) (Os := [(201, cp_Sheet_hasRow)]) (Ks := []) (fin := finV) hG (d := 2) (by omega) rfl (List.forall_mem_cons.mpr ⟨⟨1, by omega, cs_Sheet_hasRow hG⟩, (fun _ h => absurd h List.not_mem_nil)⟩) (fun _ h => absurd h List.not_mem_nil) tb_Sheet_put 300 (ab_row tab_Sheet_put 0) 0 (ab_ini (ab_ml 199) [(vR 12 p0), (.inl p1), (.inl p2)]) [] σ σ' (ab_row_bk tb_Sheet_put 0) ((e_Sheet_put _ _ _ _).trans h)
  obtain ⟨rfl, rfl⟩ := finV_inv hf
  exact ab_met (by decide) rfl (Nat.le_of_ble_eq_true rfl) hR
theorem cs_Sheet_put {l : Launch} {G : ab_Gt} (hG : ab_GG G) {R : Type} : ab_CS (R := R) l G 199 (2) cp_Sheet_put := by
  intro as σ k res h
  unfold cp_Sheet_put at h
  split at h
  · split at h
    · rename_i hb
      simp only [Bool.and_eq_true, Nat.beq_eq] at hb
      subst hb
      obtain ⟨q, hq, hk⟩ := Option.bind_eq_some_iff.mp h
      exact ⟨_, _, lk_Sheet_put hG hq, rfl, (fun _ => Or.inl ⟨rfl, rfl⟩), hk⟩
    · cases h
  · cases h
theorem tb_X_dress : ∀ q ∈ tab_X_dress, ab_bk (ab_mo 12) (ab_mb 12) (ab_ml 12) 1 q.1 q.2 = true := List.all_eq_true.mp (by decide +kernel)
theorem lc_X_dress_L38 {l : Launch} {G : ab_Gt} (hG : ab_GG G) : ∀ n : Nat, ab_KS l G 12 (8) finI 38 (kc_X_dress_38 (X_dress_L38 n)) := by
  intro n
  induction n with
  | zero =>
    intro L st σ res h
    unfold kc_X_dress_38 at h
    split at h
    · split at h
      · rename_i hb
        simp only [Bool.and_eq_true, Nat.beq_eq] at hb
        obtain ⟨hb1, hb2⟩ := hb
        subst hb1
        subst hb2
        exact absurd (show none = some res from h) (fun h => by cases h)
      · cases h
    · cases h
  | succ n ih =>
    intro L st σ res h
    unfold kc_X_dress_38 at h
    split at h
    · split at h
      · rename_i hb
        simp only [Bool.and_eq_true, Nat.beq_eq] at hb
        obtain ⟨hb1, hb2⟩ := hb
        subst hb1
        subst hb2
        exact ab_ev_sound (tab := tab_X_dress) (Os := [(29, cp_X_isOne), (33, cp_X_isSheet), (51, cp_X_cheapCost), (189, cp_Day_wornAt), (198, cp_Sheet_become), (199, cp_Sheet_put)]) (Ks := [(38, kc_X_dress_38 (X_dress_L38 n))]) (fin := finI) hG (by omega) rfl (List.forall_mem_cons.mpr ⟨⟨1, by omega, cs_X_isOne hG⟩, (List.forall_mem_cons.mpr ⟨⟨1, by omega, cs_X_isSheet hG⟩, (List.forall_mem_cons.mpr ⟨⟨7, by omega, cs_X_cheapCost hG⟩, (List.forall_mem_cons.mpr ⟨⟨2, by omega, cs_Day_wornAt hG⟩, (List.forall_mem_cons.mpr ⟨⟨1, by omega, cs_Sheet_become hG⟩, (List.forall_mem_cons.mpr ⟨⟨2, by omega, cs_Sheet_put hG⟩, (fun _ h => absurd h List.not_mem_nil)⟩)⟩)⟩)⟩)⟩)⟩) (List.forall_mem_cons.mpr ⟨ih, (fun _ h => absurd h List.not_mem_nil)⟩) tb_X_dress 300 (ab_row tab_X_dress 38) 38 _ _ σ res (ab_row_bk tb_X_dress 38) ((e_X_dress_L38  _ _ _ _ _ _).trans h)
      · cases h
    · cases h
theorem lk_X_dress {l : Launch} {G : ab_Gt} (hG : ab_GG G) {p1 : Int32} {p2 : Int32} {r : Int32} {σ σ' : Sg} (h : X_dress p1 p2 σ = some (r, σ')) : ab_CO l G 12 (8) [(vR 0 0), (.inl p1), (.inl p2)] σ (vI r) σ' := by
  obtain ⟨r0, σ2, hR, hf⟩ := ab_ev_sound (tab := tab_X_dress) (Os := [(29, cp_X_isOne), (33, cp_X_isSheet), (51, cp_X_cheapCost), (189, cp_Day_wornAt), (198, cp_Sheet_become), (199, cp_Sheet_put)]) (Ks := [(38, kc_X_dress_38 (X_dress_L38 FU))]) (fin := finI) hG (d := 8) (by omega) rfl (List.forall_mem_cons.mpr ⟨⟨1, by omega, cs_X_isOne hG⟩, (List.forall_mem_cons.mpr ⟨⟨1, by omega, cs_X_isSheet hG⟩, (List.forall_mem_cons.mpr ⟨⟨7, by omega, cs_X_cheapCost hG⟩, (List.forall_mem_cons.mpr ⟨⟨2, by omega, cs_Day_wornAt hG⟩, (List.forall_mem_cons.mpr ⟨⟨1, by omega, cs_Sheet_become hG⟩, (List.forall_mem_cons.mpr ⟨⟨2, by omega, cs_Sheet_put hG⟩, (fun _ h => absurd h List.not_mem_nil)⟩)⟩)⟩)⟩)⟩)⟩) (List.forall_mem_cons.mpr ⟨lc_X_dress_L38 hG FU, (fun _ h => absurd h List.not_mem_nil)⟩) tb_X_dress 300 (ab_row tab_X_dress 0) 0 (ab_ini (ab_ml 12) [(vR 0 0), (.inl p1), (.inl p2)]) [] σ (r, σ') (ab_row_bk tb_X_dress 0) ((e_X_dress _ _ _).trans h)
  obtain ⟨rfl, rfl⟩ := finI_inv hf
  exact ab_met (by decide) rfl (Nat.le_of_ble_eq_true rfl) hR
theorem cs_X_dress {l : Launch} {G : ab_Gt} (hG : ab_GG G) {R : Type} : ab_CS (R := R) l G 12 (8) cp_X_dress := by
  intro as σ k res h
  unfold cp_X_dress at h
  split at h
  · split at h
    · rename_i hb
      simp only [Bool.and_eq_true, Nat.beq_eq] at hb
      obtain ⟨hb1, hb2⟩ := hb
      subst hb1
      subst hb2
      obtain ⟨q, hq, hk⟩ := Option.bind_eq_some_iff.mp h
      exact ⟨_, _, lk_X_dress hG hq, rfl, (fun _ => Or.inl ⟨rfl, rfl⟩), hk⟩
    · cases h
  · cases h
theorem tb_Coat_become : ∀ q ∈ tab_Coat_become, ab_bk (ab_mo 178) (ab_mb 178) (ab_ml 178) 0 q.1 q.2 = true := List.all_eq_true.mp (by decide +kernel)
theorem lk_Coat_become {l : Launch} {G : ab_Gt} (hG : ab_GG G) {p0 : Nat} {p1 : Nat} {σ σ' : Sg} (h : Coat_become p0 p1 σ = some σ') : ab_CO l G 178 (2) [(vR 1 p0), (vR 1 p1)] σ vU σ' := by
  obtain ⟨r0, σ2, hR, hf⟩ := ab_ev_sound (tab := tab_Coat_become) (Os := [(177, cp_Coat_comeAs)]) (Ks := []) (fin := finV) hG (d := 2) (by omega) rfl (List.forall_mem_cons.mpr ⟨⟨1, by omega, cs_Coat_comeAs hG⟩, (fun _ h => absurd h List.not_mem_nil)⟩) (fun _ h => absurd h List.not_mem_nil) tb_Coat_become 300 (ab_row tab_Coat_become 0) 0 (ab_ini (ab_ml 178) [(vR 1 p0), (vR 1 p1)]) [] σ σ' (ab_row_bk tb_Coat_become 0) ((e_Coat_become _ _ _).trans h)
  obtain ⟨rfl, rfl⟩ := finV_inv hf
  exact ab_met (by decide) rfl (Nat.le_of_ble_eq_true rfl) hR
theorem cs_Coat_become {l : Launch} {G : ab_Gt} (hG : ab_GG G) {R : Type} : ab_CS (R := R) l G 178 (2) cp_Coat_become := by
  intro as σ k res h
  unfold cp_Coat_become at h
  split at h
  · split at h
    · rename_i hb
      simp only [Bool.and_eq_true, Nat.beq_eq] at hb
      obtain ⟨hb1, hb2⟩ := hb
      subst hb1
      subst hb2
      obtain ⟨q, hq, hk⟩ := Option.bind_eq_some_iff.mp h
      exact ⟨_, _, lk_Coat_become hG hq, rfl, (fun _ => Or.inl ⟨rfl, rfl⟩), hk⟩
    · cases h
  · cases h
theorem tb_X_anew : ∀ q ∈ tab_X_anew, ab_bk (ab_mo 13) (ab_mb 13) (ab_ml 13) 1 q.1 q.2 = true := List.all_eq_true.mp (by decide +kernel)
theorem lc_X_anew_L49 {l : Launch} {G : ab_Gt} (hG : ab_GG G) : ∀ n : Nat, ab_KS l G 13 (6) finI 49 (kc_X_anew_49 (X_anew_L49 n)) := by
  intro n
  induction n with
  | zero =>
    intro L st σ res h
    unfold kc_X_anew_49 at h
    split at h
    · split at h
      · rename_i hb
        simp only [Bool.and_eq_true, Nat.beq_eq] at hb
        obtain ⟨hb1, hb2⟩ := hb
        subst hb1
        subst hb2
        exact absurd (show none = some res from h) (fun h => by cases h)
      · cases h
    · cases h
  | succ n ih =>
    intro L st σ res h
    unfold kc_X_anew_49 at h
    split at h
    · split at h
      · rename_i hb
        simp only [Bool.and_eq_true, Nat.beq_eq] at hb
        obtain ⟨hb1, hb2⟩ := hb
        subst hb1
        subst hb2
        exact ab_ev_sound (tab := tab_X_anew) (Os := [(29, cp_X_isOne), (32, cp_X_isCoat), (44, cp_X_hoursOf), (178, cp_Coat_become)]) (Ks := [(49, kc_X_anew_49 (X_anew_L49 n))]) (fin := finI) hG (by omega) rfl (List.forall_mem_cons.mpr ⟨⟨1, by omega, cs_X_isOne hG⟩, (List.forall_mem_cons.mpr ⟨⟨1, by omega, cs_X_isCoat hG⟩, (List.forall_mem_cons.mpr ⟨⟨5, by omega, cs_X_hoursOf hG⟩, (List.forall_mem_cons.mpr ⟨⟨2, by omega, cs_Coat_become hG⟩, (fun _ h => absurd h List.not_mem_nil)⟩)⟩)⟩)⟩) (List.forall_mem_cons.mpr ⟨ih, (fun _ h => absurd h List.not_mem_nil)⟩) tb_X_anew 300 (ab_row tab_X_anew 49) 49 _ _ σ res (ab_row_bk tb_X_anew 49) ((e_X_anew_L49  _ _ _ _ _ _ _ _ _).trans h)
      · cases h
    · cases h
theorem lk_X_anew {l : Launch} {G : ab_Gt} (hG : ab_GG G) {p1 : Int32} {p2 : Int32} {p3 : Int32} {r : Int32} {σ σ' : Sg} (h : X_anew p1 p2 p3 σ = some (r, σ')) : ab_CO l G 13 (6) [(vR 0 0), (.inl p1), (.inl p2), (.inl p3)] σ (vI r) σ' := by
  obtain ⟨r0, σ2, hR, hf⟩ := ab_ev_sound (tab := tab_X_anew) (Os := [(29, cp_X_isOne), (32, cp_X_isCoat), (44, cp_X_hoursOf), (178, cp_Coat_become)]) (Ks := [(49, kc_X_anew_49 (X_anew_L49 FU))]) (fin := finI) hG (d := 6) (by omega) rfl (List.forall_mem_cons.mpr ⟨⟨1, by omega, cs_X_isOne hG⟩, (List.forall_mem_cons.mpr ⟨⟨1, by omega, cs_X_isCoat hG⟩, (List.forall_mem_cons.mpr ⟨⟨5, by omega, cs_X_hoursOf hG⟩, (List.forall_mem_cons.mpr ⟨⟨2, by omega, cs_Coat_become hG⟩, (fun _ h => absurd h List.not_mem_nil)⟩)⟩)⟩)⟩) (List.forall_mem_cons.mpr ⟨lc_X_anew_L49 hG FU, (fun _ h => absurd h List.not_mem_nil)⟩) tb_X_anew 300 (ab_row tab_X_anew 0) 0 (ab_ini (ab_ml 13) [(vR 0 0), (.inl p1), (.inl p2), (.inl p3)]) [] σ (r, σ') (ab_row_bk tb_X_anew 0) ((e_X_anew _ _ _ _).trans h)
  obtain ⟨rfl, rfl⟩ := finI_inv hf
  exact ab_met (by decide) rfl (Nat.le_of_ble_eq_true rfl) hR
theorem cs_X_anew {l : Launch} {G : ab_Gt} (hG : ab_GG G) {R : Type} : ab_CS (R := R) l G 13 (6) cp_X_anew := by
  intro as σ k res h
  unfold cp_X_anew at h
  split at h
  · split at h
    · rename_i hb
      simp only [Bool.and_eq_true, Nat.beq_eq] at hb
      obtain ⟨hb1, hb2⟩ := hb
      subst hb1
      subst hb2
      obtain ⟨q, hq, hk⟩ := Option.bind_eq_some_iff.mp h
      exact ⟨_, _, lk_X_anew hG hq, rfl, (fun _ => Or.inl ⟨rfl, rfl⟩), hk⟩
    · cases h
  · cases h
theorem tb_X_pushes : ∀ q ∈ tab_X_pushes, ab_bk (ab_mo 14) (ab_mb 14) (ab_ml 14) 1 q.1 q.2 = true := List.all_eq_true.mp (by decide +kernel)
theorem lc_X_pushes_L75 {l : Launch} {G : ab_Gt} (hG : ab_GG G) : ∀ n : Nat, ab_KS l G 14 (6) finI 75 (kc_X_pushes_75 (X_pushes_L75 n)) := by
  intro n
  induction n with
  | zero =>
    intro L st σ res h
    unfold kc_X_pushes_75 at h
    split at h
    · split at h
      · rename_i hb
        simp only [Bool.and_eq_true, Nat.beq_eq] at hb
        obtain ⟨hb1, hb2⟩ := hb
        subst hb1
        subst hb2
        exact absurd (show none = some res from h) (fun h => by cases h)
      · cases h
    · cases h
  | succ n ih =>
    intro L st σ res h
    unfold kc_X_pushes_75 at h
    split at h
    · split at h
      · rename_i hb
        simp only [Bool.and_eq_true, Nat.beq_eq] at hb
        obtain ⟨hb1, hb2⟩ := hb
        subst hb1
        subst hb2
        exact ab_ev_sound (tab := tab_X_pushes) (Os := [(29, cp_X_isOne), (34, cp_X_isPush), (36, cp_X_bounded), (38, cp_X_moodAt), (49, cp_X_tellHour), (188, cp_Day_cheapest)]) (Ks := [(75, kc_X_pushes_75 (X_pushes_L75 n))]) (fin := finI) hG (by omega) rfl (List.forall_mem_cons.mpr ⟨⟨1, by omega, cs_X_isOne hG⟩, (List.forall_mem_cons.mpr ⟨⟨1, by omega, cs_X_isPush hG⟩, (List.forall_mem_cons.mpr ⟨⟨1, by omega, cs_X_bounded hG⟩, (List.forall_mem_cons.mpr ⟨⟨2, by omega, cs_X_moodAt hG⟩, (List.forall_mem_cons.mpr ⟨⟨5, by omega, cs_X_tellHour hG⟩, (List.forall_mem_cons.mpr ⟨⟨1, by omega, cs_Day_cheapest hG⟩, (fun _ h => absurd h List.not_mem_nil)⟩)⟩)⟩)⟩)⟩)⟩) (List.forall_mem_cons.mpr ⟨ih, (fun _ h => absurd h List.not_mem_nil)⟩) tb_X_pushes 300 (ab_row tab_X_pushes 75) 75 _ _ σ res (ab_row_bk tb_X_pushes 75) ((e_X_pushes_L75  _ _ _ _ _ _ _ _ _).trans h)
      · cases h
    · cases h
theorem lc_X_pushes_L29 {l : Launch} {G : ab_Gt} (hG : ab_GG G) : ∀ n : Nat, ab_KS l G 14 (6) finI 29 (kc_X_pushes_29 (X_pushes_L29 n)) := by
  intro n
  induction n with
  | zero =>
    intro L st σ res h
    unfold kc_X_pushes_29 at h
    split at h
    · split at h
      · rename_i hb
        simp only [Bool.and_eq_true, Nat.beq_eq] at hb
        obtain ⟨hb1, hb2⟩ := hb
        subst hb1
        subst hb2
        exact absurd (show none = some res from h) (fun h => by cases h)
      · cases h
    · cases h
  | succ n ih =>
    intro L st σ res h
    unfold kc_X_pushes_29 at h
    split at h
    · split at h
      · rename_i hb
        simp only [Bool.and_eq_true, Nat.beq_eq] at hb
        obtain ⟨hb1, hb2⟩ := hb
        subst hb1
        subst hb2
        exact ab_ev_sound (tab := tab_X_pushes) (Os := [(29, cp_X_isOne), (34, cp_X_isPush), (36, cp_X_bounded), (38, cp_X_moodAt), (49, cp_X_tellHour), (188, cp_Day_cheapest)]) (Ks := [(29, kc_X_pushes_29 (X_pushes_L29 n)), (75, kc_X_pushes_75 (X_pushes_L75 FU))]) (fin := finI) hG (by omega) rfl (List.forall_mem_cons.mpr ⟨⟨1, by omega, cs_X_isOne hG⟩, (List.forall_mem_cons.mpr ⟨⟨1, by omega, cs_X_isPush hG⟩, (List.forall_mem_cons.mpr ⟨⟨1, by omega, cs_X_bounded hG⟩, (List.forall_mem_cons.mpr ⟨⟨2, by omega, cs_X_moodAt hG⟩, (List.forall_mem_cons.mpr ⟨⟨5, by omega, cs_X_tellHour hG⟩, (List.forall_mem_cons.mpr ⟨⟨1, by omega, cs_Day_cheapest hG⟩, (fun _ h => absurd h List.not_mem_nil)⟩)⟩)⟩)⟩)⟩)⟩) (List.forall_mem_cons.mpr ⟨ih, (List.forall_mem_cons.mpr ⟨lc_X_pushes_L75 hG FU, (fun _ h => absurd h List.not_mem_nil)⟩)⟩) tb_X_pushes 300 (ab_row tab_X_pushes 29) 29 _ _ σ res (ab_row_bk tb_X_pushes 29) ((e_X_pushes_L29  _ _ _ _ _ _ _ _ _).trans h)
      · cases h
    · cases h
theorem lk_X_pushes {l : Launch} {G : ab_Gt} (hG : ab_GG G) {p1 : Int32} {p2 : Int32} {p3 : Int32} {r : Int32} {σ σ' : Sg} (h : X_pushes p1 p2 p3 σ = some (r, σ')) : ab_CO l G 14 (6) [(vR 0 0), (.inl p1), (.inl p2), (.inl p3)] σ (vI r) σ' := by
  obtain ⟨r0, σ2, hR, hf⟩ := ab_ev_sound (tab := tab_X_pushes) (Os := [(29, cp_X_isOne), (34, cp_X_isPush), (36, cp_X_bounded), (38, cp_X_moodAt), (49, cp_X_tellHour), (188, cp_Day_cheapest)]) (Ks := [(29, kc_X_pushes_29 (X_pushes_L29 FU))]) (fin := finI) hG (d := 6) (by omega) rfl (List.forall_mem_cons.mpr ⟨⟨1, by omega, cs_X_isOne hG⟩, (List.forall_mem_cons.mpr ⟨⟨1, by omega, cs_X_isPush hG⟩, (List.forall_mem_cons.mpr ⟨⟨1, by omega, cs_X_bounded hG⟩, (List.forall_mem_cons.mpr ⟨⟨2, by omega, cs_X_moodAt hG⟩, (List.forall_mem_cons.mpr ⟨⟨5, by omega, cs_X_tellHour hG⟩, (List.forall_mem_cons.mpr ⟨⟨1, by omega, cs_Day_cheapest hG⟩, (fun _ h => absurd h List.not_mem_nil)⟩)⟩)⟩)⟩)⟩)⟩) (List.forall_mem_cons.mpr ⟨lc_X_pushes_L29 hG FU, (fun _ h => absurd h List.not_mem_nil)⟩) tb_X_pushes 300 (ab_row tab_X_pushes 0) 0 (ab_ini (ab_ml 14) [(vR 0 0), (.inl p1), (.inl p2), (.inl p3)]) [] σ (r, σ') (ab_row_bk tb_X_pushes 0) ((e_X_pushes _ _ _ _).trans h)
  obtain ⟨rfl, rfl⟩ := finI_inv hf
  exact ab_met (by decide) rfl (Nat.le_of_ble_eq_true rfl) hR
theorem cs_X_pushes {l : Launch} {G : ab_Gt} (hG : ab_GG G) {R : Type} : ab_CS (R := R) l G 14 (6) cp_X_pushes := by
  intro as σ k res h
  unfold cp_X_pushes at h
  split at h
  · split at h
    · rename_i hb
      simp only [Bool.and_eq_true, Nat.beq_eq] at hb
      obtain ⟨hb1, hb2⟩ := hb
      subst hb1
      subst hb2
      obtain ⟨q, hq, hk⟩ := Option.bind_eq_some_iff.mp h
      exact ⟨_, _, lk_X_pushes hG hq, rfl, (fun _ => Or.inl ⟨rfl, rfl⟩), hk⟩
    · cases h
  · cases h
theorem tb_X_useless : ∀ q ∈ tab_X_useless, ab_bk (ab_mo 57) (ab_mb 57) (ab_ml 57) 1 q.1 q.2 = true := List.all_eq_true.mp (by decide +kernel)
theorem lc_X_useless_L4 {l : Launch} {G : ab_Gt} (hG : ab_GG G) : ∀ n : Nat, ab_KS l G 57 (7) finI 4 (kc_X_useless_4 (X_useless_L4 n)) := by
  intro n
  induction n with
  | zero =>
    intro L st σ res h
    unfold kc_X_useless_4 at h
    split at h
    · split at h
      · rename_i hb
        simp only [Bool.and_eq_true, Nat.beq_eq] at hb
        obtain ⟨hb1, hb2⟩ := hb
        subst hb1
        subst hb2
        exact absurd (show none = some res from h) (fun h => by cases h)
      · cases h
    · cases h
  | succ n ih =>
    intro L st σ res h
    unfold kc_X_useless_4 at h
    split at h
    · split at h
      · rename_i hb
        simp only [Bool.and_eq_true, Nat.beq_eq] at hb
        obtain ⟨hb1, hb2⟩ := hb
        subst hb1
        subst hb2
        exact ab_ev_sound (tab := tab_X_useless) (Os := [(45, cp_X_hoursOfEverybody)]) (Ks := [(4, kc_X_useless_4 (X_useless_L4 n))]) (fin := finI) hG (by omega) rfl (List.forall_mem_cons.mpr ⟨⟨6, by omega, cs_X_hoursOfEverybody hG⟩, (fun _ h => absurd h List.not_mem_nil)⟩) (List.forall_mem_cons.mpr ⟨ih, (fun _ h => absurd h List.not_mem_nil)⟩) tb_X_useless 300 (ab_row tab_X_useless 4) 4 _ _ σ res (ab_row_bk tb_X_useless 4) ((e_X_useless_L4  _ _ _ _).trans h)
      · cases h
    · cases h
theorem lk_X_useless {l : Launch} {G : ab_Gt} (hG : ab_GG G) {r : Int32} {σ σ' : Sg} (h : X_useless  σ = some (r, σ')) : ab_CO l G 57 (7) [(vR 0 0)] σ (vI r) σ' := by
  obtain ⟨r0, σ2, hR, hf⟩ := ab_ev_sound (tab := tab_X_useless) (Os := [(45, cp_X_hoursOfEverybody)]) (Ks := [(4, kc_X_useless_4 (X_useless_L4 FU))]) (fin := finI) hG (d := 7) (by omega) rfl (List.forall_mem_cons.mpr ⟨⟨6, by omega, cs_X_hoursOfEverybody hG⟩, (fun _ h => absurd h List.not_mem_nil)⟩) (List.forall_mem_cons.mpr ⟨lc_X_useless_L4 hG FU, (fun _ h => absurd h List.not_mem_nil)⟩) tb_X_useless 300 (ab_row tab_X_useless 0) 0 (ab_ini (ab_ml 57) [(vR 0 0)]) [] σ (r, σ') (ab_row_bk tb_X_useless 0) ((e_X_useless _).trans h)
  obtain ⟨rfl, rfl⟩ := finI_inv hf
  exact ab_met (by decide) rfl (Nat.le_of_ble_eq_true rfl) hR
theorem cs_X_useless {l : Launch} {G : ab_Gt} (hG : ab_GG G) {R : Type} : ab_CS (R := R) l G 57 (7) cp_X_useless := by
  intro as σ k res h
  unfold cp_X_useless at h
  split at h
  · split at h
    · rename_i hb
      simp only [Bool.and_eq_true, Nat.beq_eq] at hb
      obtain ⟨hb1, hb2⟩ := hb
      subst hb1
      subst hb2
      obtain ⟨q, hq, hk⟩ := Option.bind_eq_some_iff.mp h
      exact ⟨_, _, lk_X_useless hG hq, rfl, (fun _ => Or.inl ⟨rfl, rfl⟩), hk⟩
    · cases h
  · cases h
theorem tb_X_apart : ∀ q ∈ tab_X_apart, ab_bk (ab_mo 59) (ab_mb 59) (ab_ml 59) 1 q.1 q.2 = true := List.all_eq_true.mp (by decide +kernel)
theorem lc_X_apart_L5 {l : Launch} {G : ab_Gt} (hG : ab_GG G) : ∀ n : Nat, ab_KS l G 59 (3) finI 5 (kc_X_apart_5 (X_apart_L5 n)) := by
  intro n
  induction n with
  | zero =>
    intro L st σ res h
    unfold kc_X_apart_5 at h
    split at h
    · split at h
      · rename_i hb
        simp only [Bool.and_eq_true, Nat.beq_eq] at hb
        obtain ⟨hb1, hb2⟩ := hb
        subst hb1
        subst hb2
        exact absurd (show none = some res from h) (fun h => by cases h)
      · cases h
    · cases h
  | succ n ih =>
    intro L st σ res h
    unfold kc_X_apart_5 at h
    split at h
    · split at h
      · rename_i hb
        simp only [Bool.and_eq_true, Nat.beq_eq] at hb
        obtain ⟨hb1, hb2⟩ := hb
        subst hb1
        subst hb2
        exact ab_ev_sound (tab := tab_X_apart) (Os := [(38, cp_X_moodAt)]) (Ks := [(5, kc_X_apart_5 (X_apart_L5 n))]) (fin := finI) hG (by omega) rfl (List.forall_mem_cons.mpr ⟨⟨2, by omega, cs_X_moodAt hG⟩, (fun _ h => absurd h List.not_mem_nil)⟩) (List.forall_mem_cons.mpr ⟨ih, (fun _ h => absurd h List.not_mem_nil)⟩) tb_X_apart 300 (ab_row tab_X_apart 5) 5 _ _ σ res (ab_row_bk tb_X_apart 5) ((e_X_apart_L5  _ _ _ _ _ _).trans h)
      · cases h
    · cases h
theorem lk_X_apart {l : Launch} {G : ab_Gt} (hG : ab_GG G) {p1 : Int32} {p2 : Int32} {r : Int32} {σ σ' : Sg} (h : X_apart p1 p2 σ = some (r, σ')) : ab_CO l G 59 (3) [(vR 0 0), (.inl p1), (.inl p2)] σ (vI r) σ' := by
  obtain ⟨r0, σ2, hR, hf⟩ := ab_ev_sound (tab := tab_X_apart) (Os := [(38, cp_X_moodAt)]) (Ks := [(5, kc_X_apart_5 (X_apart_L5 FU))]) (fin := finI) hG (d := 3) (by omega) rfl (List.forall_mem_cons.mpr ⟨⟨2, by omega, cs_X_moodAt hG⟩, (fun _ h => absurd h List.not_mem_nil)⟩) (List.forall_mem_cons.mpr ⟨lc_X_apart_L5 hG FU, (fun _ h => absurd h List.not_mem_nil)⟩) tb_X_apart 300 (ab_row tab_X_apart 0) 0 (ab_ini (ab_ml 59) [(vR 0 0), (.inl p1), (.inl p2)]) [] σ (r, σ') (ab_row_bk tb_X_apart 0) ((e_X_apart _ _ _).trans h)
  obtain ⟨rfl, rfl⟩ := finI_inv hf
  exact ab_met (by decide) rfl (Nat.le_of_ble_eq_true rfl) hR
theorem cs_X_apart {l : Launch} {G : ab_Gt} (hG : ab_GG G) {R : Type} : ab_CS (R := R) l G 59 (3) cp_X_apart := by
  intro as σ k res h
  unfold cp_X_apart at h
  split at h
  · split at h
    · rename_i hb
      simp only [Bool.and_eq_true, Nat.beq_eq] at hb
      obtain ⟨hb1, hb2⟩ := hb
      subst hb1
      subst hb2
      obtain ⟨q, hq, hk⟩ := Option.bind_eq_some_iff.mp h
      exact ⟨_, _, lk_X_apart hG hq, rfl, (fun _ => Or.inl ⟨rfl, rfl⟩), hk⟩
    · cases h
  · cases h
theorem tb_X_alike : ∀ q ∈ tab_X_alike, ab_bk (ab_mo 58) (ab_mb 58) (ab_ml 58) 1 q.1 q.2 = true := List.all_eq_true.mp (by decide +kernel)
theorem lc_X_alike_L21 {l : Launch} {G : ab_Gt} (hG : ab_GG G) {k9 : Int32 → Int32 → Int32 → Int32 → Sg → Option (Int32 × Sg)} (h9 : ab_KS l G 58 (4) finI 9 (kc_X_alike_9 k9)) : ∀ n : Nat, ab_KS l G 58 (4) finI 21 (kc_X_alike_21 (X_alike_L21 k9 n)) := by
  intro n
  induction n with
  | zero =>
    intro L st σ res h
    unfold kc_X_alike_21 at h
    split at h
    · split at h
      · rename_i hb
        simp only [Bool.and_eq_true, Nat.beq_eq] at hb
        obtain ⟨hb1, hb2⟩ := hb
        subst hb1
        subst hb2
        exact absurd (show none = some res from h) (fun h => by cases h)
      · cases h
    · cases h
  | succ n ih =>
    intro L st σ res h
    unfold kc_X_alike_21 at h
    split at h
    · split at h
      · rename_i hb
        simp only [Bool.and_eq_true, Nat.beq_eq] at hb
        obtain ⟨hb1, hb2⟩ := hb
        subst hb1
        subst hb2
        exact ab_ev_sound (tab := tab_X_alike) (Os := [(59, cp_X_apart)]) (Ks := [(9, kc_X_alike_9 k9), (21, kc_X_alike_21 (X_alike_L21 k9 n))]) (fin := finI) hG (by omega) rfl (List.forall_mem_cons.mpr ⟨⟨3, by omega, cs_X_apart hG⟩, (fun _ h => absurd h List.not_mem_nil)⟩) (List.forall_mem_cons.mpr ⟨h9, (List.forall_mem_cons.mpr ⟨ih, (fun _ h => absurd h List.not_mem_nil)⟩)⟩) tb_X_alike 300 (ab_row tab_X_alike 21) 21 _ _ σ res (ab_row_bk tb_X_alike 21) ((e_X_alike_L21 _ _ _ _ _ _ _ _ _).trans h)
      · cases h
    · cases h
theorem lc_X_alike_L9 {l : Launch} {G : ab_Gt} (hG : ab_GG G) : ∀ n : Nat, ab_KS l G 58 (4) finI 9 (kc_X_alike_9 (X_alike_L9 n)) := by
  intro n
  induction n with
  | zero =>
    intro L st σ res h
    unfold kc_X_alike_9 at h
    split at h
    · split at h
      · rename_i hb
        simp only [Bool.and_eq_true, Nat.beq_eq] at hb
        obtain ⟨hb1, hb2⟩ := hb
        subst hb1
        subst hb2
        exact absurd (show none = some res from h) (fun h => by cases h)
      · cases h
    · cases h
  | succ n ih =>
    intro L st σ res h
    unfold kc_X_alike_9 at h
    split at h
    · split at h
      · rename_i hb
        simp only [Bool.and_eq_true, Nat.beq_eq] at hb
        obtain ⟨hb1, hb2⟩ := hb
        subst hb1
        subst hb2
        exact ab_ev_sound (tab := tab_X_alike) (Os := [(59, cp_X_apart)]) (Ks := [(21, kc_X_alike_21 (X_alike_L21 (fun y0 y1 y2 y3 τ => X_alike_L9 n y0 y1 y2 y3 τ) FU))]) (fin := finI) hG (by omega) rfl (List.forall_mem_cons.mpr ⟨⟨3, by omega, cs_X_apart hG⟩, (fun _ h => absurd h List.not_mem_nil)⟩) (List.forall_mem_cons.mpr ⟨lc_X_alike_L21 hG ih FU, (fun _ h => absurd h List.not_mem_nil)⟩) tb_X_alike 300 (ab_row tab_X_alike 9) 9 _ _ σ res (ab_row_bk tb_X_alike 9) ((e_X_alike_L9  _ _ _ _ _ _ _ _).trans h)
      · cases h
    · cases h
theorem lk_X_alike {l : Launch} {G : ab_Gt} (hG : ab_GG G) {p1 : Int32} {r : Int32} {σ σ' : Sg} (h : X_alike p1 σ = some (r, σ')) : ab_CO l G 58 (4) [(vR 0 0), (.inl p1)] σ (vI r) σ' := by
  obtain ⟨r0, σ2, hR, hf⟩ := ab_ev_sound (tab := tab_X_alike) (Os := [(59, cp_X_apart)]) (Ks := [(9, kc_X_alike_9 (X_alike_L9 FU))]) (fin := finI) hG (d := 4) (by omega) rfl (List.forall_mem_cons.mpr ⟨⟨3, by omega, cs_X_apart hG⟩, (fun _ h => absurd h List.not_mem_nil)⟩) (List.forall_mem_cons.mpr ⟨lc_X_alike_L9 hG FU, (fun _ h => absurd h List.not_mem_nil)⟩) tb_X_alike 300 (ab_row tab_X_alike 0) 0 (ab_ini (ab_ml 58) [(vR 0 0), (.inl p1)]) [] σ (r, σ') (ab_row_bk tb_X_alike 0) ((e_X_alike _ _).trans h)
  obtain ⟨rfl, rfl⟩ := finI_inv hf
  exact ab_met (by decide) rfl (Nat.le_of_ble_eq_true rfl) hR
theorem cs_X_alike {l : Launch} {G : ab_Gt} (hG : ab_GG G) {R : Type} : ab_CS (R := R) l G 58 (4) cp_X_alike := by
  intro as σ k res h
  unfold cp_X_alike at h
  split at h
  · split at h
    · rename_i hb
      simp only [Bool.and_eq_true, Nat.beq_eq] at hb
      obtain ⟨hb1, hb2⟩ := hb
      subst hb1
      subst hb2
      obtain ⟨q, hq, hk⟩ := Option.bind_eq_some_iff.mp h
      exact ⟨_, _, lk_X_alike hG hq, rfl, (fun _ => Or.inl ⟨rfl, rfl⟩), hk⟩
    · cases h
  · cases h
theorem tb_X_all : ∀ q ∈ tab_X_all, ab_bk (ab_mo 15) (ab_mb 15) (ab_ml 15) 1 q.1 q.2 = true := List.all_eq_true.mp (by decide +kernel)
theorem lk_X_all {l : Launch} {G : ab_Gt} (hG : ab_GG G) {p1 : Int32} {r : Int32} {σ σ' : Sg} (h : X_all p1 σ = some (r, σ')) : ab_CO l G 15 (8) [(vR 0 0), (.inl p1)] σ (vI r) σ' := by
  obtain ⟨r0, σ2, hR, hf⟩ := ab_ev_sound (tab := tab_X_all) (Os := [(57, cp_X_useless), (58, cp_X_alike)]) (Ks := []) (fin := finI) hG (d := 8) (by omega) rfl (List.forall_mem_cons.mpr ⟨⟨7, by omega, cs_X_useless hG⟩, (List.forall_mem_cons.mpr ⟨⟨4, by omega, cs_X_alike hG⟩, (fun _ h => absurd h List.not_mem_nil)⟩)⟩) (fun _ h => absurd h List.not_mem_nil) tb_X_all 300 (ab_row tab_X_all 0) 0 (ab_ini (ab_ml 15) [(vR 0 0), (.inl p1)]) [] σ (r, σ') (ab_row_bk tb_X_all 0) ((e_X_all _ _).trans h)
  obtain ⟨rfl, rfl⟩ := finI_inv hf
  exact ab_met (by decide) rfl (Nat.le_of_ble_eq_true rfl) hR
theorem cs_X_all {l : Launch} {G : ab_Gt} (hG : ab_GG G) {R : Type} : ab_CS (R := R) l G 15 (8) cp_X_all := by
  intro as σ k res h
  unfold cp_X_all at h
  split at h
  · split at h
    · rename_i hb
      simp only [Bool.and_eq_true, Nat.beq_eq] at hb
      obtain ⟨hb1, hb2⟩ := hb
      subst hb1
      subst hb2
      obtain ⟨q, hq, hk⟩ := Option.bind_eq_some_iff.mp h
      exact ⟨_, _, lk_X_all hG hq, rfl, (fun _ => Or.inl ⟨rfl, rfl⟩), hk⟩
    · cases h
  · cases h
theorem tb_X_inLowestTerms : ∀ q ∈ tab_X_inLowestTerms, ab_bk (ab_mo 37) (ab_mb 37) (ab_ml 37) 2 q.1 q.2 = true := List.all_eq_true.mp (by decide +kernel)
theorem lc_X_inLowestTerms_L13 {l : Launch} {G : ab_Gt} (hG : ab_GG G) : ∀ n : Nat, ab_KS l G 37 (1) finL 13 (kc_X_inLowestTerms_13 (X_inLowestTerms_L13 n)) := by
  intro n
  induction n with
  | zero =>
    intro L st σ res h
    unfold kc_X_inLowestTerms_13 at h
    split at h
    · exact absurd (show none = some res from h) (fun h => by cases h)
    · cases h
  | succ n ih =>
    intro L st σ res h
    unfold kc_X_inLowestTerms_13 at h
    split at h
    · exact ab_ev_sound (tab := tab_X_inLowestTerms) (Os := []) (Ks := [(13, kc_X_inLowestTerms_13 (X_inLowestTerms_L13 n))]) (fin := finL) hG (by omega) rfl (fun _ h => absurd h List.not_mem_nil) (List.forall_mem_cons.mpr ⟨ih, (fun _ h => absurd h List.not_mem_nil)⟩) tb_X_inLowestTerms 300 (ab_row tab_X_inLowestTerms 13) 13 _ _ σ res (ab_row_bk tb_X_inLowestTerms 13) ((e_X_inLowestTerms_L13  _ _ _ _ _ _ _).trans h)
    · cases h
theorem lk_X_inLowestTerms {l : Launch} {G : ab_Gt} (hG : ab_GG G) {p0 : Int32} {p1 : Int32} {p2 : Int32} {r : Int64} {σ σ' : Sg} (h : X_inLowestTerms p0 p1 p2 σ = some (r, σ')) : ab_CO l G 37 (1) [(.inl p0), (.inl p1), (.inl p2)] σ (vL r) σ' := by
  obtain ⟨r0, σ2, hR, hf⟩ := ab_ev_sound (tab := tab_X_inLowestTerms) (Os := []) (Ks := [(13, kc_X_inLowestTerms_13 (X_inLowestTerms_L13 FU))]) (fin := finL) hG (d := 1) (by omega) rfl (fun _ h => absurd h List.not_mem_nil) (List.forall_mem_cons.mpr ⟨lc_X_inLowestTerms_L13 hG FU, (fun _ h => absurd h List.not_mem_nil)⟩) tb_X_inLowestTerms 300 (ab_row tab_X_inLowestTerms 0) 0 (ab_ini (ab_ml 37) [(.inl p0), (.inl p1), (.inl p2)]) [] σ (r, σ') (ab_row_bk tb_X_inLowestTerms 0) ((e_X_inLowestTerms _ _ _ _).trans h)
  obtain ⟨rfl, rfl⟩ := finL_inv hf
  exact ab_met (by decide) rfl (Nat.le_of_ble_eq_true rfl) hR
theorem cs_X_inLowestTerms {l : Launch} {G : ab_Gt} (hG : ab_GG G) {R : Type} : ab_CS (R := R) l G 37 (1) cp_X_inLowestTerms := by
  intro as σ k res h
  unfold cp_X_inLowestTerms at h
  split at h
  · obtain ⟨q, hq, hk⟩ := Option.bind_eq_some_iff.mp h
    exact ⟨_, _, lk_X_inLowestTerms hG hq, rfl, (fun h => by cases h), hk⟩
  · cases h
theorem tb_X_mean : ∀ q ∈ tab_X_mean, ab_bk (ab_mo 16) (ab_mb 16) (ab_ml 16) 2 q.1 q.2 = true := List.all_eq_true.mp (by decide +kernel)
theorem lc_X_mean_L25 {l : Launch} {G : ab_Gt} (hG : ab_GG G) : ∀ n : Nat, ab_KS l G 16 (3) finL 25 (kc_X_mean_25 (X_mean_L25 n)) := by
  intro n
  induction n with
  | zero =>
    intro L st σ res h
    unfold kc_X_mean_25 at h
    split at h
    · split at h
      · rename_i hb
        simp only [Bool.and_eq_true, Nat.beq_eq] at hb
        obtain ⟨hb1, hb2⟩ := hb
        subst hb1
        subst hb2
        exact absurd (show none = some res from h) (fun h => by cases h)
      · cases h
    · cases h
  | succ n ih =>
    intro L st σ res h
    unfold kc_X_mean_25 at h
    split at h
    · split at h
      · rename_i hb
        simp only [Bool.and_eq_true, Nat.beq_eq] at hb
        obtain ⟨hb1, hb2⟩ := hb
        subst hb1
        subst hb2
        exact ab_ev_sound (tab := tab_X_mean) (Os := [(29, cp_X_isOne), (37, cp_X_inLowestTerms), (38, cp_X_moodAt)]) (Ks := [(25, kc_X_mean_25 (X_mean_L25 n))]) (fin := finL) hG (by omega) rfl (List.forall_mem_cons.mpr ⟨⟨1, by omega, cs_X_isOne hG⟩, (List.forall_mem_cons.mpr ⟨⟨1, by omega, cs_X_inLowestTerms hG⟩, (List.forall_mem_cons.mpr ⟨⟨2, by omega, cs_X_moodAt hG⟩, (fun _ h => absurd h List.not_mem_nil)⟩)⟩)⟩) (List.forall_mem_cons.mpr ⟨ih, (fun _ h => absurd h List.not_mem_nil)⟩) tb_X_mean 300 (ab_row tab_X_mean 25) 25 _ _ σ res (ab_row_bk tb_X_mean 25) ((e_X_mean_L25  _ _ _ _ _ _).trans h)
      · cases h
    · cases h
theorem lk_X_mean {l : Launch} {G : ab_Gt} (hG : ab_GG G) {p1 : Int32} {p2 : Int32} {r : Int64} {σ σ' : Sg} (h : X_mean p1 p2 σ = some (r, σ')) : ab_CO l G 16 (3) [(vR 0 0), (.inl p1), (.inl p2)] σ (vL r) σ' := by
  obtain ⟨r0, σ2, hR, hf⟩ := ab_ev_sound (tab := tab_X_mean) (Os := [(29, cp_X_isOne), (37, cp_X_inLowestTerms), (38, cp_X_moodAt)]) (Ks := [(25, kc_X_mean_25 (X_mean_L25 FU))]) (fin := finL) hG (d := 3) (by omega) rfl (List.forall_mem_cons.mpr ⟨⟨1, by omega, cs_X_isOne hG⟩, (List.forall_mem_cons.mpr ⟨⟨1, by omega, cs_X_inLowestTerms hG⟩, (List.forall_mem_cons.mpr ⟨⟨2, by omega, cs_X_moodAt hG⟩, (fun _ h => absurd h List.not_mem_nil)⟩)⟩)⟩) (List.forall_mem_cons.mpr ⟨lc_X_mean_L25 hG FU, (fun _ h => absurd h List.not_mem_nil)⟩) tb_X_mean 300 (ab_row tab_X_mean 0) 0 (ab_ini (ab_ml 16) [(vR 0 0), (.inl p1), (.inl p2)]) [] σ (r, σ') (ab_row_bk tb_X_mean 0) ((e_X_mean _ _ _).trans h)
  obtain ⟨rfl, rfl⟩ := finL_inv hf
  exact ab_met (by decide) rfl (Nat.le_of_ble_eq_true rfl) hR
theorem cs_X_mean {l : Launch} {G : ab_Gt} (hG : ab_GG G) {R : Type} : ab_CS (R := R) l G 16 (3) cp_X_mean := by
  intro as σ k res h
  unfold cp_X_mean at h
  split at h
  · split at h
    · rename_i hb
      simp only [Bool.and_eq_true, Nat.beq_eq] at hb
      obtain ⟨hb1, hb2⟩ := hb
      subst hb1
      subst hb2
      obtain ⟨q, hq, hk⟩ := Option.bind_eq_some_iff.mp h
      exact ⟨_, _, lk_X_mean hG hq, rfl, (fun _ => Or.inl ⟨rfl, rfl⟩), hk⟩
    · cases h
  · cases h
theorem tb_X_firstOtherwise : ∀ q ∈ tab_X_firstOtherwise, ab_bk (ab_mo 60) (ab_mb 60) (ab_ml 60) 1 q.1 q.2 = true := List.all_eq_true.mp (by decide +kernel)
theorem lc_X_firstOtherwise_J28 {l : Launch} {G : ab_Gt} (hG : ab_GG G) {k3 : Nat → Nat → Nat → Int32 → Int32 → Sg → Option (Int32 × Sg)} (h3 : ab_KS l G 60 (5) finI 3 (kc_X_firstOtherwise_3 k3)) : ab_KS l G 60 (5) finI 28 (kc_X_firstOtherwise_28 (X_firstOtherwise_J28 k3)) := by
  intro L st σ res h
  unfold kc_X_firstOtherwise_28 at h
  split at h
  · split at h
    · rename_i hb
      simp only [Bool.and_eq_true, Nat.beq_eq] at hb
      obtain ⟨⟨hb1, hb2⟩, hb3⟩ := hb
      subst hb1
      subst hb2
      subst hb3
      exact ab_ev_sound (tab := tab_X_firstOtherwise) (Os := [(40, cp_X_fitsAt), (200, cp_Sheet_item)]) (Ks := [(3, kc_X_firstOtherwise_3 k3)]) (fin := finI) hG (by omega) rfl (List.forall_mem_cons.mpr ⟨⟨4, by omega, cs_X_fitsAt hG⟩, (List.forall_mem_cons.mpr ⟨⟨2, by omega, cs_Sheet_item hG⟩, (fun _ h => absurd h List.not_mem_nil)⟩)⟩) (List.forall_mem_cons.mpr ⟨h3, (fun _ h => absurd h List.not_mem_nil)⟩) tb_X_firstOtherwise 300 (ab_row tab_X_firstOtherwise 28) 28 _ _ σ res (ab_row_bk tb_X_firstOtherwise 28) ((e_X_firstOtherwise_J28 _ _ _ _ _ _ _ _ _).trans h)
    · cases h
  · cases h
theorem lc_X_firstOtherwise_L3 {l : Launch} {G : ab_Gt} (hG : ab_GG G) : ∀ n : Nat, ab_KS l G 60 (5) finI 3 (kc_X_firstOtherwise_3 (X_firstOtherwise_L3 n)) := by
  intro n
  induction n with
  | zero =>
    intro L st σ res h
    unfold kc_X_firstOtherwise_3 at h
    split at h
    · split at h
      · rename_i hb
        simp only [Bool.and_eq_true, Nat.beq_eq] at hb
        obtain ⟨⟨hb1, hb2⟩, hb3⟩ := hb
        subst hb1
        subst hb2
        subst hb3
        exact absurd (show none = some res from h) (fun h => by cases h)
      · cases h
    · cases h
  | succ n ih =>
    intro L st σ res h
    unfold kc_X_firstOtherwise_3 at h
    split at h
    · split at h
      · rename_i hb
        simp only [Bool.and_eq_true, Nat.beq_eq] at hb
        obtain ⟨⟨hb1, hb2⟩, hb3⟩ := hb
        subst hb1
        subst hb2
        subst hb3
        exact ab_ev_sound (tab := tab_X_firstOtherwise) (Os := [(40, cp_X_fitsAt), (200, cp_Sheet_item)]) (Ks := [(28, kc_X_firstOtherwise_28 (X_firstOtherwise_J28 (fun y0 y1 y2 y3 y4 τ => X_firstOtherwise_L3 n y0 y1 y2 y3 y4 τ)))]) (fin := finI) hG (by omega) rfl (List.forall_mem_cons.mpr ⟨⟨4, by omega, cs_X_fitsAt hG⟩, (List.forall_mem_cons.mpr ⟨⟨2, by omega, cs_Sheet_item hG⟩, (fun _ h => absurd h List.not_mem_nil)⟩)⟩) (List.forall_mem_cons.mpr ⟨lc_X_firstOtherwise_J28 hG ih, (fun _ h => absurd h List.not_mem_nil)⟩) tb_X_firstOtherwise 300 (ab_row tab_X_firstOtherwise 3) 3 _ _ σ res (ab_row_bk tb_X_firstOtherwise 3) ((e_X_firstOtherwise_L3  _ _ _ _ _ _ _ _).trans h)
      · cases h
    · cases h
theorem lk_X_firstOtherwise {l : Launch} {G : ab_Gt} (hG : ab_GG G) {p0 : Nat} {p1 : Nat} {p2 : Nat} {p3 : Int32} {r : Int32} {σ σ' : Sg} (h : X_firstOtherwise p0 p1 p2 p3 σ = some (r, σ')) : ab_CO l G 60 (5) [(vR 12 p0), (vR 2 p1), (vR 1 p2), (.inl p3)] σ (vI r) σ' := by
  obtain ⟨r0, σ2, hR, hf⟩ := ab_ev_sound (tab := tab_X_firstOtherwise) (Os := [(40, cp_X_fitsAt), (200, cp_Sheet_item)]) (Ks := [(3, kc_X_firstOtherwise_3 (X_firstOtherwise_L3 FU))]) (fin := finI) hG (d := 5) (by omega) rfl (List.forall_mem_cons.mpr ⟨⟨4, by omega, cs_X_fitsAt hG⟩, (List.forall_mem_cons.mpr ⟨⟨2, by omega, cs_Sheet_item hG⟩, (fun _ h => absurd h List.not_mem_nil)⟩)⟩) (List.forall_mem_cons.mpr ⟨lc_X_firstOtherwise_L3 hG FU, (fun _ h => absurd h List.not_mem_nil)⟩) tb_X_firstOtherwise 300 (ab_row tab_X_firstOtherwise 0) 0 (ab_ini (ab_ml 60) [(vR 12 p0), (vR 2 p1), (vR 1 p2), (.inl p3)]) [] σ (r, σ') (ab_row_bk tb_X_firstOtherwise 0) ((e_X_firstOtherwise _ _ _ _ _).trans h)
  obtain ⟨rfl, rfl⟩ := finI_inv hf
  exact ab_met (by decide) rfl (Nat.le_of_ble_eq_true rfl) hR
theorem cs_X_firstOtherwise {l : Launch} {G : ab_Gt} (hG : ab_GG G) {R : Type} : ab_CS (R := R) l G 60 (5) cp_X_firstOtherwise := by
  intro as σ k res h
  unfold cp_X_firstOtherwise at h
  split at h
  · split at h
    · rename_i hb
      simp only [Bool.and_eq_true, Nat.beq_eq] at hb
      obtain ⟨⟨hb1, hb2⟩, hb3⟩ := hb
      subst hb1
      subst hb2
      subst hb3
      obtain ⟨q, hq, hk⟩ := Option.bind_eq_some_iff.mp h
      exact ⟨_, _, lk_X_firstOtherwise hG hq, rfl, (fun h => by cases h), hk⟩
    · cases h
  · cases h
theorem tb_X_wouldBeSo : ∀ q ∈ tab_X_wouldBeSo, ab_bk (ab_mo 61) (ab_mb 61) (ab_ml 61) 3 q.1 q.2 = true := List.all_eq_true.mp (by decide +kernel)
theorem lc_X_wouldBeSo_J61 {l : Launch} {G : ab_Gt} (hG : ab_GG G) : ab_KS l G 61 (6) finI 61 (kc_X_wouldBeSo_61 (X_wouldBeSo_J61)) := by
  intro L st σ res h
  unfold kc_X_wouldBeSo_61 at h
  split at h
  · split at h
    · rename_i hb
      simp only [Bool.and_eq_true, Nat.beq_eq] at hb
      obtain ⟨⟨⟨hb1, hb2⟩, hb3⟩, hb4⟩ := hb
      subst hb1
      subst hb2
      subst hb3
      subst hb4
      exact ab_ev_sound (tab := tab_X_wouldBeSo) (Os := [(60, cp_X_firstOtherwise), (178, cp_Coat_become), (180, cp_Coat_giveTrait)]) (Ks := []) (fin := finI) hG (by omega) rfl (List.forall_mem_cons.mpr ⟨⟨5, by omega, cs_X_firstOtherwise hG⟩, (List.forall_mem_cons.mpr ⟨⟨2, by omega, cs_Coat_become hG⟩, (List.forall_mem_cons.mpr ⟨⟨1, by omega, cs_Coat_giveTrait hG⟩, (fun _ h => absurd h List.not_mem_nil)⟩)⟩)⟩) (fun _ h => absurd h List.not_mem_nil) tb_X_wouldBeSo 300 (ab_row tab_X_wouldBeSo 61) 61 _ _ σ res (ab_row_bk tb_X_wouldBeSo 61) ((e_X_wouldBeSo_J61  _ _ _ _ _ _ _ _).trans h)
    · cases h
  · cases h
theorem lc_X_wouldBeSo_J52 {l : Launch} {G : ab_Gt} (hG : ab_GG G) : ab_KS l G 61 (6) finI 52 (kc_X_wouldBeSo_52 (X_wouldBeSo_J52)) := by
  intro L st σ res h
  unfold kc_X_wouldBeSo_52 at h
  split at h
  · split at h
    · rename_i hb
      simp only [Bool.and_eq_true, Nat.beq_eq] at hb
      obtain ⟨⟨hb1, hb2⟩, hb3⟩ := hb
      subst hb1
      subst hb2
      subst hb3
      exact ab_ev_sound (tab := tab_X_wouldBeSo) (Os := [(60, cp_X_firstOtherwise), (178, cp_Coat_become), (180, cp_Coat_giveTrait)]) (Ks := [(61, kc_X_wouldBeSo_61 (X_wouldBeSo_J61))]) (fin := finI) hG (by omega) rfl (List.forall_mem_cons.mpr ⟨⟨5, by omega, cs_X_firstOtherwise hG⟩, (List.forall_mem_cons.mpr ⟨⟨2, by omega, cs_Coat_become hG⟩, (List.forall_mem_cons.mpr ⟨⟨1, by omega, cs_Coat_giveTrait hG⟩, (fun _ h => absurd h List.not_mem_nil)⟩)⟩)⟩) (List.forall_mem_cons.mpr ⟨lc_X_wouldBeSo_J61 hG, (fun _ h => absurd h List.not_mem_nil)⟩) tb_X_wouldBeSo 300 (ab_row tab_X_wouldBeSo 52) 52 _ _ σ res (ab_row_bk tb_X_wouldBeSo 52) ((e_X_wouldBeSo_J52  _ _ _ _ _ _ _).trans h)
    · cases h
  · cases h
theorem lk_X_wouldBeSo {l : Launch} {G : ab_Gt} (hG : ab_GG G) {p1 : Nat} {p2 : Int32} {p3 : Int32} {p4 : Int32} {p5 : Int32} {r : Int32} {σ σ' : Sg} (h : X_wouldBeSo p1 p2 p3 p4 p5 σ = some (r, σ')) : ab_CO l G 61 (6) [(vR 0 0), (vR 12 p1), (.inl p2), (.inl p3), (.inl p4), (.inl p5)] σ (vI r) σ' := by
  obtain ⟨r0, σ2, hR, hf⟩ := ab_ev_sound (tab := tab_X_wouldBeSo) (Os := [(60, cp_X_firstOtherwise), (178, cp_Coat_become), (180, cp_Coat_giveTrait)]) (Ks := [(52, kc_X_wouldBeSo_52 (X_wouldBeSo_J52)), (61, kc_X_wouldBeSo_61 (X_wouldBeSo_J61))]) (fin := finI) hG (d := 6) (by omega) rfl (List.forall_mem_cons.mpr ⟨⟨5, by omega, cs_X_firstOtherwise hG⟩, (List.forall_mem_cons.mpr ⟨⟨2, by omega, cs_Coat_become hG⟩, (List.forall_mem_cons.mpr ⟨⟨1, by omega, cs_Coat_giveTrait hG⟩, (fun _ h => absurd h List.not_mem_nil)⟩)⟩)⟩) (List.forall_mem_cons.mpr ⟨lc_X_wouldBeSo_J52 hG, (List.forall_mem_cons.mpr ⟨lc_X_wouldBeSo_J61 hG, (fun _ h => absurd h List.not_mem_nil)⟩)⟩) tb_X_wouldBeSo 300 (ab_row tab_X_wouldBeSo 0) 0 (ab_ini (ab_ml 61) [(vR 0 0), (vR 12 p1), (.inl p2), (.inl p3), (.inl p4), (.inl p5)]) [] σ (r, σ') (ab_row_bk tb_X_wouldBeSo 0) ((e_X_wouldBeSo _ _ _ _ _ _).trans h)
  obtain ⟨rfl, rfl⟩ := finI_inv hf
  exact ab_met (by decide) rfl (Nat.le_of_ble_eq_true rfl) hR
theorem cs_X_wouldBeSo {l : Launch} {G : ab_Gt} (hG : ab_GG G) {R : Type} : ab_CS (R := R) l G 61 (6) cp_X_wouldBeSo := by
  intro as σ k res h
  unfold cp_X_wouldBeSo at h
  split at h
  · split at h
    · rename_i hb
      simp only [Bool.and_eq_true, Nat.beq_eq] at hb
      obtain ⟨⟨hb1, hb2⟩, hb3⟩ := hb
      subst hb1
      subst hb2
      subst hb3
      obtain ⟨q, hq, hk⟩ := Option.bind_eq_some_iff.mp h
      exact ⟨_, _, lk_X_wouldBeSo hG hq, rfl, (fun _ => Or.inl ⟨rfl, rfl⟩), hk⟩
    · cases h
  · cases h
theorem tb_X_bitsBy : ∀ q ∈ tab_X_bitsBy, ab_bk (ab_mo 62) (ab_mb 62) (ab_ml 62) 1 q.1 q.2 = true := List.all_eq_true.mp (by decide +kernel)
theorem lc_X_bitsBy_L6 {l : Launch} {G : ab_Gt} (hG : ab_GG G) : ∀ n : Nat, ab_KS l G 62 (7) finI 6 (kc_X_bitsBy_6 (X_bitsBy_L6 n)) := by
  intro n
  induction n with
  | zero =>
    intro L st σ res h
    unfold kc_X_bitsBy_6 at h
    split at h
    · split at h
      · rename_i hb
        simp only [Bool.and_eq_true, Nat.beq_eq] at hb
        obtain ⟨⟨hb1, hb2⟩, hb3⟩ := hb
        subst hb1
        subst hb2
        subst hb3
        exact absurd (show none = some res from h) (fun h => by cases h)
      · cases h
    · cases h
  | succ n ih =>
    intro L st σ res h
    unfold kc_X_bitsBy_6 at h
    split at h
    · split at h
      · rename_i hb
        simp only [Bool.and_eq_true, Nat.beq_eq] at hb
        obtain ⟨⟨hb1, hb2⟩, hb3⟩ := hb
        subst hb1
        subst hb2
        subst hb3
        exact ab_ev_sound (tab := tab_X_bitsBy) (Os := [(61, cp_X_wouldBeSo)]) (Ks := [(6, kc_X_bitsBy_6 (X_bitsBy_L6 n))]) (fin := finI) hG (by omega) rfl (List.forall_mem_cons.mpr ⟨⟨6, by omega, cs_X_wouldBeSo hG⟩, (fun _ h => absurd h List.not_mem_nil)⟩) (List.forall_mem_cons.mpr ⟨ih, (fun _ h => absurd h List.not_mem_nil)⟩) tb_X_bitsBy 300 (ab_row tab_X_bitsBy 6) 6 _ _ σ res (ab_row_bk tb_X_bitsBy 6) ((e_X_bitsBy_L6  _ _ _ _ _ _ _ _ _).trans h)
      · cases h
    · cases h
theorem lk_X_bitsBy {l : Launch} {G : ab_Gt} (hG : ab_GG G) {p1 : Nat} {p2 : Int32} {p3 : Int32} {p4 : Int32} {p5 : Int32} {r : Int32} {σ σ' : Sg} (h : X_bitsBy p1 p2 p3 p4 p5 σ = some (r, σ')) : ab_CO l G 62 (7) [(vR 0 0), (vR 12 p1), (.inl p2), (.inl p3), (.inl p4), (.inl p5)] σ (vI r) σ' := by
  obtain ⟨r0, σ2, hR, hf⟩ := ab_ev_sound (tab := tab_X_bitsBy) (Os := [(61, cp_X_wouldBeSo)]) (Ks := [(6, kc_X_bitsBy_6 (X_bitsBy_L6 FU))]) (fin := finI) hG (d := 7) (by omega) rfl (List.forall_mem_cons.mpr ⟨⟨6, by omega, cs_X_wouldBeSo hG⟩, (fun _ h => absurd h List.not_mem_nil)⟩) (List.forall_mem_cons.mpr ⟨lc_X_bitsBy_L6 hG FU, (fun _ h => absurd h List.not_mem_nil)⟩) tb_X_bitsBy 300 (ab_row tab_X_bitsBy 0) 0 (ab_ini (ab_ml 62) [(vR 0 0), (vR 12 p1), (.inl p2), (.inl p3), (.inl p4), (.inl p5)]) [] σ (r, σ') (ab_row_bk tb_X_bitsBy 0) ((e_X_bitsBy _ _ _ _ _ _).trans h)
  obtain ⟨rfl, rfl⟩ := finI_inv hf
  exact ab_met (by decide) rfl (Nat.le_of_ble_eq_true rfl) hR
theorem cs_X_bitsBy {l : Launch} {G : ab_Gt} (hG : ab_GG G) {R : Type} : ab_CS (R := R) l G 62 (7) cp_X_bitsBy := by
  intro as σ k res h
  unfold cp_X_bitsBy at h
  split at h
  · split at h
    · rename_i hb
      simp only [Bool.and_eq_true, Nat.beq_eq] at hb
      obtain ⟨⟨hb1, hb2⟩, hb3⟩ := hb
      subst hb1
      subst hb2
      subst hb3
      obtain ⟨q, hq, hk⟩ := Option.bind_eq_some_iff.mp h
      exact ⟨_, _, lk_X_bitsBy hG hq, rfl, (fun _ => Or.inl ⟨rfl, rfl⟩), hk⟩
    · cases h
  · cases h
theorem tb_X_manyBy : ∀ q ∈ tab_X_manyBy, ab_bk (ab_mo 63) (ab_mb 63) (ab_ml 63) 1 q.1 q.2 = true := List.all_eq_true.mp (by decide +kernel)
theorem lc_X_manyBy_L6 {l : Launch} {G : ab_Gt} (hG : ab_GG G) : ∀ n : Nat, ab_KS l G 63 (7) finI 6 (kc_X_manyBy_6 (X_manyBy_L6 n)) := by
  intro n
  induction n with
  | zero =>
    intro L st σ res h
    unfold kc_X_manyBy_6 at h
    split at h
    · split at h
      · rename_i hb
        simp only [Bool.and_eq_true, Nat.beq_eq] at hb
        obtain ⟨⟨hb1, hb2⟩, hb3⟩ := hb
        subst hb1
        subst hb2
        subst hb3
        exact absurd (show none = some res from h) (fun h => by cases h)
      · cases h
    · cases h
  | succ n ih =>
    intro L st σ res h
    unfold kc_X_manyBy_6 at h
    split at h
    · split at h
      · rename_i hb
        simp only [Bool.and_eq_true, Nat.beq_eq] at hb
        obtain ⟨⟨hb1, hb2⟩, hb3⟩ := hb
        subst hb1
        subst hb2
        subst hb3
        exact ab_ev_sound (tab := tab_X_manyBy) (Os := [(61, cp_X_wouldBeSo)]) (Ks := [(6, kc_X_manyBy_6 (X_manyBy_L6 n))]) (fin := finI) hG (by omega) rfl (List.forall_mem_cons.mpr ⟨⟨6, by omega, cs_X_wouldBeSo hG⟩, (fun _ h => absurd h List.not_mem_nil)⟩) (List.forall_mem_cons.mpr ⟨ih, (fun _ h => absurd h List.not_mem_nil)⟩) tb_X_manyBy 300 (ab_row tab_X_manyBy 6) 6 _ _ σ res (ab_row_bk tb_X_manyBy 6) ((e_X_manyBy_L6  _ _ _ _ _ _ _ _ _).trans h)
      · cases h
    · cases h
theorem lk_X_manyBy {l : Launch} {G : ab_Gt} (hG : ab_GG G) {p1 : Nat} {p2 : Int32} {p3 : Int32} {p4 : Int32} {p5 : Int32} {r : Int32} {σ σ' : Sg} (h : X_manyBy p1 p2 p3 p4 p5 σ = some (r, σ')) : ab_CO l G 63 (7) [(vR 0 0), (vR 12 p1), (.inl p2), (.inl p3), (.inl p4), (.inl p5)] σ (vI r) σ' := by
  obtain ⟨r0, σ2, hR, hf⟩ := ab_ev_sound (tab := tab_X_manyBy) (Os := [(61, cp_X_wouldBeSo)]) (Ks := [(6, kc_X_manyBy_6 (X_manyBy_L6 FU))]) (fin := finI) hG (d := 7) (by omega) rfl (List.forall_mem_cons.mpr ⟨⟨6, by omega, cs_X_wouldBeSo hG⟩, (fun _ h => absurd h List.not_mem_nil)⟩) (List.forall_mem_cons.mpr ⟨lc_X_manyBy_L6 hG FU, (fun _ h => absurd h List.not_mem_nil)⟩) tb_X_manyBy 300 (ab_row tab_X_manyBy 0) 0 (ab_ini (ab_ml 63) [(vR 0 0), (vR 12 p1), (.inl p2), (.inl p3), (.inl p4), (.inl p5)]) [] σ (r, σ') (ab_row_bk tb_X_manyBy 0) ((e_X_manyBy _ _ _ _ _ _).trans h)
  obtain ⟨rfl, rfl⟩ := finI_inv hf
  exact ab_met (by decide) rfl (Nat.le_of_ble_eq_true rfl) hR
theorem cs_X_manyBy {l : Launch} {G : ab_Gt} (hG : ab_GG G) {R : Type} : ab_CS (R := R) l G 63 (7) cp_X_manyBy := by
  intro as σ k res h
  unfold cp_X_manyBy at h
  split at h
  · split at h
    · rename_i hb
      simp only [Bool.and_eq_true, Nat.beq_eq] at hb
      obtain ⟨⟨hb1, hb2⟩, hb3⟩ := hb
      subst hb1
      subst hb2
      subst hb3
      obtain ⟨q, hq, hk⟩ := Option.bind_eq_some_iff.mp h
      exact ⟨_, _, lk_X_manyBy hG hq, rfl, (fun _ => Or.inl ⟨rfl, rfl⟩), hk⟩
    · cases h
  · cases h
theorem tb_X_leastBy : ∀ q ∈ tab_X_leastBy, ab_bk (ab_mo 64) (ab_mb 64) (ab_ml 64) 1 q.1 q.2 = true := List.all_eq_true.mp (by decide +kernel)
theorem lc_X_leastBy_L3 {l : Launch} {G : ab_Gt} (hG : ab_GG G) : ∀ n : Nat, ab_KS l G 64 (7) finI 3 (kc_X_leastBy_3 (X_leastBy_L3 n)) := by
  intro n
  induction n with
  | zero =>
    intro L st σ res h
    unfold kc_X_leastBy_3 at h
    split at h
    · split at h
      · rename_i hb
        simp only [Bool.and_eq_true, Nat.beq_eq] at hb
        obtain ⟨⟨hb1, hb2⟩, hb3⟩ := hb
        subst hb1
        subst hb2
        subst hb3
        exact absurd (show none = some res from h) (fun h => by cases h)
      · cases h
    · cases h
  | succ n ih =>
    intro L st σ res h
    unfold kc_X_leastBy_3 at h
    split at h
    · split at h
      · rename_i hb
        simp only [Bool.and_eq_true, Nat.beq_eq] at hb
        obtain ⟨⟨hb1, hb2⟩, hb3⟩ := hb
        subst hb1
        subst hb2
        subst hb3
        exact ab_ev_sound (tab := tab_X_leastBy) (Os := [(61, cp_X_wouldBeSo)]) (Ks := [(3, kc_X_leastBy_3 (X_leastBy_L3 n))]) (fin := finI) hG (by omega) rfl (List.forall_mem_cons.mpr ⟨⟨6, by omega, cs_X_wouldBeSo hG⟩, (fun _ h => absurd h List.not_mem_nil)⟩) (List.forall_mem_cons.mpr ⟨ih, (fun _ h => absurd h List.not_mem_nil)⟩) tb_X_leastBy 300 (ab_row tab_X_leastBy 3) 3 _ _ σ res (ab_row_bk tb_X_leastBy 3) ((e_X_leastBy_L3  _ _ _ _ _ _ _ _).trans h)
      · cases h
    · cases h
theorem lk_X_leastBy {l : Launch} {G : ab_Gt} (hG : ab_GG G) {p1 : Nat} {p2 : Int32} {p3 : Int32} {p4 : Int32} {p5 : Int32} {r : Int32} {σ σ' : Sg} (h : X_leastBy p1 p2 p3 p4 p5 σ = some (r, σ')) : ab_CO l G 64 (7) [(vR 0 0), (vR 12 p1), (.inl p2), (.inl p3), (.inl p4), (.inl p5)] σ (vI r) σ' := by
  obtain ⟨r0, σ2, hR, hf⟩ := ab_ev_sound (tab := tab_X_leastBy) (Os := [(61, cp_X_wouldBeSo)]) (Ks := [(3, kc_X_leastBy_3 (X_leastBy_L3 FU))]) (fin := finI) hG (d := 7) (by omega) rfl (List.forall_mem_cons.mpr ⟨⟨6, by omega, cs_X_wouldBeSo hG⟩, (fun _ h => absurd h List.not_mem_nil)⟩) (List.forall_mem_cons.mpr ⟨lc_X_leastBy_L3 hG FU, (fun _ h => absurd h List.not_mem_nil)⟩) tb_X_leastBy 300 (ab_row tab_X_leastBy 0) 0 (ab_ini (ab_ml 64) [(vR 0 0), (vR 12 p1), (.inl p2), (.inl p3), (.inl p4), (.inl p5)]) [] σ (r, σ') (ab_row_bk tb_X_leastBy 0) ((e_X_leastBy _ _ _ _ _ _).trans h)
  obtain ⟨rfl, rfl⟩ := finI_inv hf
  exact ab_met (by decide) rfl (Nat.le_of_ble_eq_true rfl) hR
theorem cs_X_leastBy {l : Launch} {G : ab_Gt} (hG : ab_GG G) {R : Type} : ab_CS (R := R) l G 64 (7) cp_X_leastBy := by
  intro as σ k res h
  unfold cp_X_leastBy at h
  split at h
  · split at h
    · rename_i hb
      simp only [Bool.and_eq_true, Nat.beq_eq] at hb
      obtain ⟨⟨hb1, hb2⟩, hb3⟩ := hb
      subst hb1
      subst hb2
      subst hb3
      obtain ⟨q, hq, hk⟩ := Option.bind_eq_some_iff.mp h
      exact ⟨_, _, lk_X_leastBy hG hq, rfl, (fun _ => Or.inl ⟨rfl, rfl⟩), hk⟩
    · cases h
  · cases h
theorem tb_X_tells : ∀ q ∈ tab_X_tells, ab_bk (ab_mo 17) (ab_mb 17) (ab_ml 17) 1 q.1 q.2 = true := List.all_eq_true.mp (by decide +kernel)
theorem lk_X_tells {l : Launch} {G : ab_Gt} (hG : ab_GG G) {p1 : Int32} {p2 : Int32} {p3 : Int32} {p4 : Int32} {r : Int32} {σ σ' : Sg} (h : X_tells p1 p2 p3 p4 σ = some (r, σ')) : ab_CO l G 17 (8) [(vR 0 0), (.inl p1), (.inl p2), (.inl p3), (.inl p4)] σ (vI r) σ' := by
  obtain ⟨r0, σ2, hR, hf⟩ := ab_ev_sound (tab := tab_X_tells) (Os := [(30, cp_X_isHour), (32, cp_X_isCoat), (33, cp_X_isSheet), (60, cp_X_firstOtherwise), (62, cp_X_bitsBy), (63, cp_X_manyBy), (64, cp_X_leastBy)]) (Ks := []) (fin := finI) hG (d := 8) (by omega) rfl (List.forall_mem_cons.mpr ⟨⟨1, by omega, cs_X_isHour hG⟩, (List.forall_mem_cons.mpr ⟨⟨1, by omega, cs_X_isCoat hG⟩, (List.forall_mem_cons.mpr ⟨⟨1, by omega, cs_X_isSheet hG⟩, (List.forall_mem_cons.mpr ⟨⟨5, by omega, cs_X_firstOtherwise hG⟩, (List.forall_mem_cons.mpr ⟨⟨7, by omega, cs_X_bitsBy hG⟩, (List.forall_mem_cons.mpr ⟨⟨7, by omega, cs_X_manyBy hG⟩, (List.forall_mem_cons.mpr ⟨⟨7, by omega, cs_X_leastBy hG⟩, (fun _ h => absurd h List.not_mem_nil)⟩)⟩)⟩)⟩)⟩)⟩)⟩) (fun _ h => absurd h List.not_mem_nil) tb_X_tells 300 (ab_row tab_X_tells 0) 0 (ab_ini (ab_ml 17) [(vR 0 0), (.inl p1), (.inl p2), (.inl p3), (.inl p4)]) [] σ (r, σ') (ab_row_bk tb_X_tells 0) ((e_X_tells _ _ _ _ _).trans h)
  obtain ⟨rfl, rfl⟩ := finI_inv hf
  exact ab_met (by decide) rfl (Nat.le_of_ble_eq_true rfl) hR
theorem cs_X_tells {l : Launch} {G : ab_Gt} (hG : ab_GG G) {R : Type} : ab_CS (R := R) l G 17 (8) cp_X_tells := by
  intro as σ k res h
  unfold cp_X_tells at h
  split at h
  · split at h
    · rename_i hb
      simp only [Bool.and_eq_true, Nat.beq_eq] at hb
      obtain ⟨hb1, hb2⟩ := hb
      subst hb1
      subst hb2
      obtain ⟨q, hq, hk⟩ := Option.bind_eq_some_iff.mp h
      exact ⟨_, _, lk_X_tells hG hq, rfl, (fun _ => Or.inl ⟨rfl, rfl⟩), hk⟩
    · cases h
  · cases h
theorem tb_X_film : ∀ q ∈ tab_X_film, ab_bk (ab_mo 18) (ab_mb 18) (ab_ml 18) 1 q.1 q.2 = true := List.all_eq_true.mp (by decide +kernel)
theorem lc_X_film_J91 {l : Launch} {G : ab_Gt} (hG : ab_GG G) {k55 : Int32 → Int32 → Int32 → Int32 → Int32 → Int32 → Sg → Option (Int32 × Sg)} (h55 : ab_KS l G 18 (5) finI 55 (kc_X_film_55 k55)) : ab_KS l G 18 (5) finI 91 (kc_X_film_91 (X_film_J91 k55)) := by
  intro L st σ res h
  unfold kc_X_film_91 at h
  split at h
  · split at h
    · rename_i hb
      simp only [Bool.and_eq_true, Nat.beq_eq] at hb
      obtain ⟨hb1, hb2⟩ := hb
      subst hb1
      subst hb2
      exact ab_ev_sound (tab := tab_X_film) (Os := [(30, cp_X_isHour), (32, cp_X_isCoat), (33, cp_X_isSheet), (40, cp_X_fitsAt), (198, cp_Sheet_become), (199, cp_Sheet_put)]) (Ks := [(55, kc_X_film_55 k55)]) (fin := finI) hG (by omega) rfl (List.forall_mem_cons.mpr ⟨⟨1, by omega, cs_X_isHour hG⟩, (List.forall_mem_cons.mpr ⟨⟨1, by omega, cs_X_isCoat hG⟩, (List.forall_mem_cons.mpr ⟨⟨1, by omega, cs_X_isSheet hG⟩, (List.forall_mem_cons.mpr ⟨⟨4, by omega, cs_X_fitsAt hG⟩, (List.forall_mem_cons.mpr ⟨⟨1, by omega, cs_Sheet_become hG⟩, (List.forall_mem_cons.mpr ⟨⟨2, by omega, cs_Sheet_put hG⟩, (fun _ h => absurd h List.not_mem_nil)⟩)⟩)⟩)⟩)⟩)⟩) (List.forall_mem_cons.mpr ⟨h55, (fun _ h => absurd h List.not_mem_nil)⟩) tb_X_film 300 (ab_row tab_X_film 91) 91 _ _ σ res (ab_row_bk tb_X_film 91) ((e_X_film_J91 _ _ _ _ _ _ _ _ _ _).trans h)
    · cases h
  · cases h
theorem lc_X_film_L55 {l : Launch} {G : ab_Gt} (hG : ab_GG G) : ∀ n : Nat, ab_KS l G 18 (5) finI 55 (kc_X_film_55 (X_film_L55 n)) := by
  intro n
  induction n with
  | zero =>
    intro L st σ res h
    unfold kc_X_film_55 at h
    split at h
    · split at h
      · rename_i hb
        simp only [Bool.and_eq_true, Nat.beq_eq] at hb
        obtain ⟨hb1, hb2⟩ := hb
        subst hb1
        subst hb2
        exact absurd (show none = some res from h) (fun h => by cases h)
      · cases h
    · cases h
  | succ n ih =>
    intro L st σ res h
    unfold kc_X_film_55 at h
    split at h
    · split at h
      · rename_i hb
        simp only [Bool.and_eq_true, Nat.beq_eq] at hb
        obtain ⟨hb1, hb2⟩ := hb
        subst hb1
        subst hb2
        exact ab_ev_sound (tab := tab_X_film) (Os := [(30, cp_X_isHour), (32, cp_X_isCoat), (33, cp_X_isSheet), (40, cp_X_fitsAt), (198, cp_Sheet_become), (199, cp_Sheet_put)]) (Ks := [(91, kc_X_film_91 (X_film_J91 (fun y0 y1 y2 y3 y4 y5 τ => X_film_L55 n y0 y1 y2 y3 y4 y5 τ)))]) (fin := finI) hG (by omega) rfl (List.forall_mem_cons.mpr ⟨⟨1, by omega, cs_X_isHour hG⟩, (List.forall_mem_cons.mpr ⟨⟨1, by omega, cs_X_isCoat hG⟩, (List.forall_mem_cons.mpr ⟨⟨1, by omega, cs_X_isSheet hG⟩, (List.forall_mem_cons.mpr ⟨⟨4, by omega, cs_X_fitsAt hG⟩, (List.forall_mem_cons.mpr ⟨⟨1, by omega, cs_Sheet_become hG⟩, (List.forall_mem_cons.mpr ⟨⟨2, by omega, cs_Sheet_put hG⟩, (fun _ h => absurd h List.not_mem_nil)⟩)⟩)⟩)⟩)⟩)⟩) (List.forall_mem_cons.mpr ⟨lc_X_film_J91 hG ih, (fun _ h => absurd h List.not_mem_nil)⟩) tb_X_film 300 (ab_row tab_X_film 55) 55 _ _ σ res (ab_row_bk tb_X_film 55) ((e_X_film_L55  _ _ _ _ _ _ _ _ _).trans h)
      · cases h
    · cases h
theorem lk_X_film {l : Launch} {G : ab_Gt} (hG : ab_GG G) {p1 : Int32} {p2 : Int32} {p3 : Int32} {p4 : Int32} {r : Int32} {σ σ' : Sg} (h : X_film p1 p2 p3 p4 σ = some (r, σ')) : ab_CO l G 18 (5) [(vR 0 0), (.inl p1), (.inl p2), (.inl p3), (.inl p4)] σ (vI r) σ' := by
  obtain ⟨r0, σ2, hR, hf⟩ := ab_ev_sound (tab := tab_X_film) (Os := [(30, cp_X_isHour), (32, cp_X_isCoat), (33, cp_X_isSheet), (40, cp_X_fitsAt), (198, cp_Sheet_become), (199, cp_Sheet_put)]) (Ks := [(55, kc_X_film_55 (X_film_L55 FU))]) (fin := finI) hG (d := 5) (by omega) rfl (List.forall_mem_cons.mpr ⟨⟨1, by omega, cs_X_isHour hG⟩, (List.forall_mem_cons.mpr ⟨⟨1, by omega, cs_X_isCoat hG⟩, (List.forall_mem_cons.mpr ⟨⟨1, by omega, cs_X_isSheet hG⟩, (List.forall_mem_cons.mpr ⟨⟨4, by omega, cs_X_fitsAt hG⟩, (List.forall_mem_cons.mpr ⟨⟨1, by omega, cs_Sheet_become hG⟩, (List.forall_mem_cons.mpr ⟨⟨2, by omega, cs_Sheet_put hG⟩, (fun _ h => absurd h List.not_mem_nil)⟩)⟩)⟩)⟩)⟩)⟩) (List.forall_mem_cons.mpr ⟨lc_X_film_L55 hG FU, (fun _ h => absurd h List.not_mem_nil)⟩) tb_X_film 300 (ab_row tab_X_film 0) 0 (ab_ini (ab_ml 18) [(vR 0 0), (.inl p1), (.inl p2), (.inl p3), (.inl p4)]) [] σ (r, σ') (ab_row_bk tb_X_film 0) ((e_X_film _ _ _ _ _).trans h)
  obtain ⟨rfl, rfl⟩ := finI_inv hf
  exact ab_met (by decide) rfl (Nat.le_of_ble_eq_true rfl) hR
theorem cs_X_film {l : Launch} {G : ab_Gt} (hG : ab_GG G) {R : Type} : ab_CS (R := R) l G 18 (5) cp_X_film := by
  intro as σ k res h
  unfold cp_X_film at h
  split at h
  · split at h
    · rename_i hb
      simp only [Bool.and_eq_true, Nat.beq_eq] at hb
      obtain ⟨hb1, hb2⟩ := hb
      subst hb1
      subst hb2
      obtain ⟨q, hq, hk⟩ := Option.bind_eq_some_iff.mp h
      exact ⟨_, _, lk_X_film hG hq, rfl, (fun _ => Or.inl ⟨rfl, rfl⟩), hk⟩
    · cases h
  · cases h
theorem tb_X_drawnCost : ∀ q ∈ tab_X_drawnCost, ab_bk (ab_mo 52) (ab_mb 52) (ab_ml 52) 1 q.1 q.2 = true := List.all_eq_true.mp (by decide +kernel)
theorem lc_X_drawnCost_L4 {l : Launch} {G : ab_Gt} (hG : ab_GG G) : ∀ n : Nat, ab_KS l G 52 (6) finI 4 (kc_X_drawnCost_4 (X_drawnCost_L4 n)) := by
  intro n
  induction n with
  | zero =>
    intro L st σ res h
    unfold kc_X_drawnCost_4 at h
    split at h
    · split at h
      · rename_i hb
        simp only [Bool.and_eq_true, Nat.beq_eq] at hb
        obtain ⟨hb1, hb2⟩ := hb
        subst hb1
        subst hb2
        exact absurd (show none = some res from h) (fun h => by cases h)
      · cases h
    · cases h
  | succ n ih =>
    intro L st σ res h
    unfold kc_X_drawnCost_4 at h
    split at h
    · split at h
      · rename_i hb
        simp only [Bool.and_eq_true, Nat.beq_eq] at hb
        obtain ⟨hb1, hb2⟩ := hb
        subst hb1
        subst hb2
        exact ab_ev_sound (tab := tab_X_drawnCost) (Os := [(49, cp_X_tellHour), (188, cp_Day_cheapest)]) (Ks := [(4, kc_X_drawnCost_4 (X_drawnCost_L4 n))]) (fin := finI) hG (by omega) rfl (List.forall_mem_cons.mpr ⟨⟨5, by omega, cs_X_tellHour hG⟩, (List.forall_mem_cons.mpr ⟨⟨1, by omega, cs_Day_cheapest hG⟩, (fun _ h => absurd h List.not_mem_nil)⟩)⟩) (List.forall_mem_cons.mpr ⟨ih, (fun _ h => absurd h List.not_mem_nil)⟩) tb_X_drawnCost 300 (ab_row tab_X_drawnCost 4) 4 _ _ σ res (ab_row_bk tb_X_drawnCost 4) ((e_X_drawnCost_L4  _ _ _ _ _).trans h)
      · cases h
    · cases h
theorem lk_X_drawnCost {l : Launch} {G : ab_Gt} (hG : ab_GG G) {p1 : Int32} {r : Int32} {σ σ' : Sg} (h : X_drawnCost p1 σ = some (r, σ')) : ab_CO l G 52 (6) [(vR 0 0), (.inl p1)] σ (vI r) σ' := by
  obtain ⟨r0, σ2, hR, hf⟩ := ab_ev_sound (tab := tab_X_drawnCost) (Os := [(49, cp_X_tellHour), (188, cp_Day_cheapest)]) (Ks := [(4, kc_X_drawnCost_4 (X_drawnCost_L4 FU))]) (fin := finI) hG (d := 6) (by omega) rfl (List.forall_mem_cons.mpr ⟨⟨5, by omega, cs_X_tellHour hG⟩, (List.forall_mem_cons.mpr ⟨⟨1, by omega, cs_Day_cheapest hG⟩, (fun _ h => absurd h List.not_mem_nil)⟩)⟩) (List.forall_mem_cons.mpr ⟨lc_X_drawnCost_L4 hG FU, (fun _ h => absurd h List.not_mem_nil)⟩) tb_X_drawnCost 300 (ab_row tab_X_drawnCost 0) 0 (ab_ini (ab_ml 52) [(vR 0 0), (.inl p1)]) [] σ (r, σ') (ab_row_bk tb_X_drawnCost 0) ((e_X_drawnCost _ _).trans h)
  obtain ⟨rfl, rfl⟩ := finI_inv hf
  exact ab_met (by decide) rfl (Nat.le_of_ble_eq_true rfl) hR
theorem cs_X_drawnCost {l : Launch} {G : ab_Gt} (hG : ab_GG G) {R : Type} : ab_CS (R := R) l G 52 (6) cp_X_drawnCost := by
  intro as σ k res h
  unfold cp_X_drawnCost at h
  split at h
  · split at h
    · rename_i hb
      simp only [Bool.and_eq_true, Nat.beq_eq] at hb
      obtain ⟨hb1, hb2⟩ := hb
      subst hb1
      subst hb2
      obtain ⟨q, hq, hk⟩ := Option.bind_eq_some_iff.mp h
      exact ⟨_, _, lk_X_drawnCost hG hq, rfl, (fun _ => Or.inl ⟨rfl, rfl⟩), hk⟩
    · cases h
  · cases h
theorem tb_X_drawn : ∀ q ∈ tab_X_drawn, ab_bk (ab_mo 19) (ab_mb 19) (ab_ml 19) 1 q.1 q.2 = true := List.all_eq_true.mp (by decide +kernel)
theorem lk_X_drawn {l : Launch} {G : ab_Gt} (hG : ab_GG G) {p1 : Int32} {p2 : Int32} {r : Int32} {σ σ' : Sg} (h : X_drawn p1 p2 σ = some (r, σ')) : ab_CO l G 19 (7) [(vR 0 0), (.inl p1), (.inl p2)] σ (vI r) σ' := by
  obtain ⟨r0, σ2, hR, hf⟩ := ab_ev_sound (tab := tab_X_drawn) (Os := [(29, cp_X_isOne), (52, cp_X_drawnCost)]) (Ks := []) (fin := finI) hG (d := 7) (by omega) rfl (List.forall_mem_cons.mpr ⟨⟨1, by omega, cs_X_isOne hG⟩, (List.forall_mem_cons.mpr ⟨⟨6, by omega, cs_X_drawnCost hG⟩, (fun _ h => absurd h List.not_mem_nil)⟩)⟩) (fun _ h => absurd h List.not_mem_nil) tb_X_drawn 300 (ab_row tab_X_drawn 0) 0 (ab_ini (ab_ml 19) [(vR 0 0), (.inl p1), (.inl p2)]) [] σ (r, σ') (ab_row_bk tb_X_drawn 0) ((e_X_drawn _ _ _).trans h)
  obtain ⟨rfl, rfl⟩ := finI_inv hf
  exact ab_met (by decide) rfl (Nat.le_of_ble_eq_true rfl) hR
theorem cs_X_drawn {l : Launch} {G : ab_Gt} (hG : ab_GG G) {R : Type} : ab_CS (R := R) l G 19 (7) cp_X_drawn := by
  intro as σ k res h
  unfold cp_X_drawn at h
  split at h
  · split at h
    · rename_i hb
      simp only [Bool.and_eq_true, Nat.beq_eq] at hb
      obtain ⟨hb1, hb2⟩ := hb
      subst hb1
      subst hb2
      obtain ⟨q, hq, hk⟩ := Option.bind_eq_some_iff.mp h
      exact ⟨_, _, lk_X_drawn hG hq, rfl, (fun _ => Or.inl ⟨rfl, rfl⟩), hk⟩
    · cases h
  · cases h
theorem tb_X_chance : ∀ q ∈ tab_X_chance, ab_bk (ab_mo 20) (ab_mb 20) (ab_ml 20) 2 q.1 q.2 = true := List.all_eq_true.mp (by decide +kernel)
theorem lc_X_chance_L56 {l : Launch} {G : ab_Gt} (hG : ab_GG G) : ∀ n : Nat, ab_KS l G 20 (7) finL 56 (kc_X_chance_56 (X_chance_L56 n)) := by
  intro n
  induction n with
  | zero =>
    intro L st σ res h
    unfold kc_X_chance_56 at h
    split at h
    · split at h
      · rename_i hb
        simp only [Bool.and_eq_true, Nat.beq_eq] at hb
        obtain ⟨hb1, hb2⟩ := hb
        subst hb1
        subst hb2
        exact absurd (show none = some res from h) (fun h => by cases h)
      · cases h
    · cases h
  | succ n ih =>
    intro L st σ res h
    unfold kc_X_chance_56 at h
    split at h
    · split at h
      · rename_i hb
        simp only [Bool.and_eq_true, Nat.beq_eq] at hb
        obtain ⟨hb1, hb2⟩ := hb
        subst hb1
        subst hb2
        exact ab_ev_sound (tab := tab_X_chance) (Os := [(29, cp_X_isOne), (37, cp_X_inLowestTerms), (52, cp_X_drawnCost)]) (Ks := [(56, kc_X_chance_56 (X_chance_L56 n))]) (fin := finL) hG (by omega) rfl (List.forall_mem_cons.mpr ⟨⟨1, by omega, cs_X_isOne hG⟩, (List.forall_mem_cons.mpr ⟨⟨1, by omega, cs_X_inLowestTerms hG⟩, (List.forall_mem_cons.mpr ⟨⟨6, by omega, cs_X_drawnCost hG⟩, (fun _ h => absurd h List.not_mem_nil)⟩)⟩)⟩) (List.forall_mem_cons.mpr ⟨ih, (fun _ h => absurd h List.not_mem_nil)⟩) tb_X_chance 300 (ab_row tab_X_chance 56) 56 _ _ σ res (ab_row_bk tb_X_chance 56) ((e_X_chance_L56  _ _ _ _ _ _ _ _ _).trans h)
      · cases h
    · cases h
theorem lk_X_chance {l : Launch} {G : ab_Gt} (hG : ab_GG G) {p1 : Int32} {p2 : Int32} {p3 : Int32} {p4 : Int32} {p5 : Int32} {r : Int64} {σ σ' : Sg} (h : X_chance p1 p2 p3 p4 p5 σ = some (r, σ')) : ab_CO l G 20 (7) [(vR 0 0), (.inl p1), (.inl p2), (.inl p3), (.inl p4), (.inl p5)] σ (vL r) σ' := by
  obtain ⟨r0, σ2, hR, hf⟩ := ab_ev_sound (tab := tab_X_chance) (Os := [(29, cp_X_isOne), (37, cp_X_inLowestTerms), (52, cp_X_drawnCost)]) (Ks := [(56, kc_X_chance_56 (X_chance_L56 FU))]) (fin := finL) hG (d := 7) (by omega) rfl (List.forall_mem_cons.mpr ⟨⟨1, by omega, cs_X_isOne hG⟩, (List.forall_mem_cons.mpr ⟨⟨1, by omega, cs_X_inLowestTerms hG⟩, (List.forall_mem_cons.mpr ⟨⟨6, by omega, cs_X_drawnCost hG⟩, (fun _ h => absurd h List.not_mem_nil)⟩)⟩)⟩) (List.forall_mem_cons.mpr ⟨lc_X_chance_L56 hG FU, (fun _ h => absurd h List.not_mem_nil)⟩) tb_X_chance 300 (ab_row tab_X_chance 0) 0 (ab_ini (ab_ml 20) [(vR 0 0), (.inl p1), (.inl p2), (.inl p3), (.inl p4), (.inl p5)]) [] σ (r, σ') (ab_row_bk tb_X_chance 0) ((e_X_chance _ _ _ _ _ _).trans h)
  obtain ⟨rfl, rfl⟩ := finL_inv hf
  exact ab_met (by decide) rfl (Nat.le_of_ble_eq_true rfl) hR
theorem cs_X_chance {l : Launch} {G : ab_Gt} (hG : ab_GG G) {R : Type} : ab_CS (R := R) l G 20 (7) cp_X_chance := by
  intro as σ k res h
  unfold cp_X_chance at h
  split at h
  · split at h
    · rename_i hb
      simp only [Bool.and_eq_true, Nat.beq_eq] at hb
      obtain ⟨hb1, hb2⟩ := hb
      subst hb1
      subst hb2
      obtain ⟨q, hq, hk⟩ := Option.bind_eq_some_iff.mp h
      exact ⟨_, _, lk_X_chance hG hq, rfl, (fun _ => Or.inl ⟨rfl, rfl⟩), hk⟩
    · cases h
  · cases h
