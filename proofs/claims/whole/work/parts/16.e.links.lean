theorem tb_M_rights : ∀ q ∈ tab_M_rights, ab_bk (ab_mo 143) (ab_mb 143) (ab_ml 143) 0 q.1 q.2 = true := List.all_eq_true.mp (by decide +kernel)
theorem lc_M_rights_L2 {l : Launch} {G : ab_Gt} (hG : ab_GG G) : ∀ n : Nat, ab_KS l G 143 (46) finV 2 (kc_M_rights_2 (M_rights_L2 n)) := by
  intro n
  induction n with
  | zero =>
    intro L st σ res h
    unfold kc_M_rights_2 at h
    split at h
    · split at h
      · rename_i hb
        simp only [Bool.and_eq_true, Nat.beq_eq] at hb
        obtain ⟨hb1, hb2⟩ := hb
        subst hb1
        subst hb2
        exact absurd (show none = some res from h) (fun h => by cases h)
      · cases h
    · cases h
  | succ n ih =>
    intro L st σ res h
    unfold kc_M_rights_2 at h
    split at h
    · split at h
      · rename_i hb
        simp only [Bool.and_eq_true, Nat.beq_eq] at hb
        obtain ⟨hb1, hb2⟩ := hb
        subst hb1
        subst hb2
        exact ab_ev_sound (tab := tab_M_rights) (Os := [(132, cp_M_rightAt)]) (Ks := [(2, kc_M_rights_2 (M_rights_L2 n))]) (fin := finV) hG (by omega) rfl (List.forall_mem_cons.mpr ⟨⟨45, by omega, cs_M_rightAt hG⟩, (fun _ h => absurd h List.not_mem_nil)⟩) (List.forall_mem_cons.mpr ⟨ih, (fun _ h => absurd h List.not_mem_nil)⟩) tb_M_rights 300 (ab_row tab_M_rights 2) 2 _ _ σ res (ab_row_bk tb_M_rights 2) ((e_M_rights_L2  _ _ _ _).trans h)
      · cases h
    · cases h
theorem lk_M_rights {l : Launch} {G : ab_Gt} (hG : ab_GG G) {p1 : Int32} {σ σ' : Sg} (h : M_rights p1 σ = some σ') : ab_CO l G 143 (46) [(vR 30 0), (.inl p1)] σ vU σ' := by
  obtain ⟨r0, σ2, hR, hf⟩ := ab_ev_sound (tab := tab_M_rights) (Os := [(132, cp_M_rightAt)]) (Ks := [(2, kc_M_rights_2 (M_rights_L2 FU))]) (fin := finV) hG (d := 46) (by omega) rfl (List.forall_mem_cons.mpr ⟨⟨45, by omega, cs_M_rightAt hG⟩, (fun _ h => absurd h List.not_mem_nil)⟩) (List.forall_mem_cons.mpr ⟨lc_M_rights_L2 hG FU, (fun _ h => absurd h List.not_mem_nil)⟩) tb_M_rights 300 (ab_row tab_M_rights 0) 0 (ab_ini (ab_ml 143) [(vR 30 0), (.inl p1)]) [] σ σ' (ab_row_bk tb_M_rights 0) ((e_M_rights _ _).trans h)
  obtain ⟨rfl, rfl⟩ := finV_inv hf
  exact ab_met (by decide) rfl (Nat.le_of_ble_eq_true rfl) hR
theorem cs_M_rights {l : Launch} {G : ab_Gt} (hG : ab_GG G) {R : Type} : ab_CS (R := R) l G 143 (46) cp_M_rights := by
  intro as σ k res h
  unfold cp_M_rights at h
  split at h
  · split at h
    · rename_i hb
      simp only [Bool.and_eq_true, Nat.beq_eq] at hb
      obtain ⟨hb1, hb2⟩ := hb
      subst hb1
      subst hb2
      obtain ⟨q, hq, hk⟩ := Option.bind_eq_some_iff.mp h
      exact ⟨_, _, lk_M_rights hG hq, rfl, (fun _ => Or.inl ⟨rfl, rfl⟩), hk⟩
    · cases h
  · cases h
theorem tb_M_covers : ∀ q ∈ tab_M_covers, ab_bk (ab_mo 144) (ab_mb 144) (ab_ml 144) 3 q.1 q.2 = true := List.all_eq_true.mp (by decide +kernel)
theorem lc_M_covers_L2 {l : Launch} {G : ab_Gt} (hG : ab_GG G) : ∀ n : Nat, ab_KS l G 144 (1) finI 2 (kc_M_covers_2 (M_covers_L2 n)) := by
  intro n
  induction n with
  | zero =>
    intro L st σ res h
    unfold kc_M_covers_2 at h
    split at h
    · split at h
      · rename_i hb
        simp only [Bool.and_eq_true, Nat.beq_eq] at hb
        obtain ⟨hb1, hb2⟩ := hb
        subst hb1
        subst hb2
        exact absurd (show none = some res from h) (fun h => by cases h)
      · cases h
    · cases h
  | succ n ih =>
    intro L st σ res h
    unfold kc_M_covers_2 at h
    split at h
    · split at h
      · rename_i hb
        simp only [Bool.and_eq_true, Nat.beq_eq] at hb
        obtain ⟨hb1, hb2⟩ := hb
        subst hb1
        subst hb2
        exact ab_ev_sound (tab := tab_M_covers) (Os := []) (Ks := [(2, kc_M_covers_2 (M_covers_L2 n))]) (fin := finI) hG (by omega) rfl (fun _ h => absurd h List.not_mem_nil) (List.forall_mem_cons.mpr ⟨ih, (fun _ h => absurd h List.not_mem_nil)⟩) tb_M_covers 300 (ab_row tab_M_covers 2) 2 _ _ σ res (ab_row_bk tb_M_covers 2) ((e_M_covers_L2  _ _ _ _).trans h)
      · cases h
    · cases h
theorem lk_M_covers {l : Launch} {G : ab_Gt} (hG : ab_GG G) {p1 : Int32} {r : Int32} {σ σ' : Sg} (h : M_covers p1 σ = some (r, σ')) : ab_CO l G 144 (1) [(vR 30 0), (.inl p1)] σ (vI r) σ' := by
  obtain ⟨r0, σ2, hR, hf⟩ := ab_ev_sound (tab := tab_M_covers) (Os := []) (Ks := [(2, kc_M_covers_2 (M_covers_L2 FU))]) (fin := finI) hG (d := 1) (by omega) rfl (fun _ h => absurd h List.not_mem_nil) (List.forall_mem_cons.mpr ⟨lc_M_covers_L2 hG FU, (fun _ h => absurd h List.not_mem_nil)⟩) tb_M_covers 300 (ab_row tab_M_covers 0) 0 (ab_ini (ab_ml 144) [(vR 30 0), (.inl p1)]) [] σ (r, σ') (ab_row_bk tb_M_covers 0) ((e_M_covers _ _).trans h)
  obtain ⟨rfl, rfl⟩ := finI_inv hf
  exact ab_met (by decide) rfl (Nat.le_of_ble_eq_true rfl) hR
theorem cs_M_covers {l : Launch} {G : ab_Gt} (hG : ab_GG G) {R : Type} : ab_CS (R := R) l G 144 (1) cp_M_covers := by
  intro as σ k res h
  unfold cp_M_covers at h
  split at h
  · split at h
    · rename_i hb
      simp only [Bool.and_eq_true, Nat.beq_eq] at hb
      obtain ⟨hb1, hb2⟩ := hb
      subst hb1
      subst hb2
      obtain ⟨q, hq, hk⟩ := Option.bind_eq_some_iff.mp h
      exact ⟨_, _, lk_M_covers hG hq, rfl, (fun _ => Or.inl ⟨rfl, rfl⟩), hk⟩
    · cases h
  · cases h
theorem tb_M_coverOf : ∀ q ∈ tab_M_coverOf, ab_bk (ab_mo 145) (ab_mb 145) (ab_ml 145) 1 q.1 q.2 = true := List.all_eq_true.mp (by decide +kernel)
theorem lc_M_coverOf_L9 {l : Launch} {G : ab_Gt} (hG : ab_GG G) : ∀ n : Nat, ab_KS l G 145 (47) finI 9 (kc_M_coverOf_9 (M_coverOf_L9 n)) := by
  intro n
  induction n with
  | zero =>
    intro L st σ res h
    unfold kc_M_coverOf_9 at h
    split at h
    · split at h
      · rename_i hb
        simp only [Bool.and_eq_true, Nat.beq_eq] at hb
        obtain ⟨hb1, hb2⟩ := hb
        subst hb1
        subst hb2
        exact absurd (show none = some res from h) (fun h => by cases h)
      · cases h
    · cases h
  | succ n ih =>
    intro L st σ res h
    unfold kc_M_coverOf_9 at h
    split at h
    · split at h
      · rename_i hb
        simp only [Bool.and_eq_true, Nat.beq_eq] at hb
        obtain ⟨hb1, hb2⟩ := hb
        subst hb1
        subst hb2
        exact ab_ev_sound (tab := tab_M_coverOf) (Os := [(142, cp_M_bitsOf), (143, cp_M_rights), (144, cp_M_covers)]) (Ks := [(9, kc_M_coverOf_9 (M_coverOf_L9 n))]) (fin := finI) hG (by omega) rfl (List.forall_mem_cons.mpr ⟨⟨1, by omega, cs_M_bitsOf hG⟩, (List.forall_mem_cons.mpr ⟨⟨46, by omega, cs_M_rights hG⟩, (List.forall_mem_cons.mpr ⟨⟨1, by omega, cs_M_covers hG⟩, (fun _ h => absurd h List.not_mem_nil)⟩)⟩)⟩) (List.forall_mem_cons.mpr ⟨ih, (fun _ h => absurd h List.not_mem_nil)⟩) tb_M_coverOf 300 (ab_row tab_M_coverOf 9) 9 _ _ σ res (ab_row_bk tb_M_coverOf 9) ((e_M_coverOf_L9  _ _ _ _ _).trans h)
      · cases h
    · cases h
theorem lk_M_coverOf {l : Launch} {G : ab_Gt} (hG : ab_GG G) {p1 : Int32} {r : Int32} {σ σ' : Sg} (h : M_coverOf p1 σ = some (r, σ')) : ab_CO l G 145 (47) [(vR 30 0), (.inl p1)] σ (vI r) σ' := by
  obtain ⟨r0, σ2, hR, hf⟩ := ab_ev_sound (tab := tab_M_coverOf) (Os := [(142, cp_M_bitsOf), (143, cp_M_rights), (144, cp_M_covers)]) (Ks := [(9, kc_M_coverOf_9 (M_coverOf_L9 FU))]) (fin := finI) hG (d := 47) (by omega) rfl (List.forall_mem_cons.mpr ⟨⟨1, by omega, cs_M_bitsOf hG⟩, (List.forall_mem_cons.mpr ⟨⟨46, by omega, cs_M_rights hG⟩, (List.forall_mem_cons.mpr ⟨⟨1, by omega, cs_M_covers hG⟩, (fun _ h => absurd h List.not_mem_nil)⟩)⟩)⟩) (List.forall_mem_cons.mpr ⟨lc_M_coverOf_L9 hG FU, (fun _ h => absurd h List.not_mem_nil)⟩) tb_M_coverOf 300 (ab_row tab_M_coverOf 0) 0 (ab_ini (ab_ml 145) [(vR 30 0), (.inl p1)]) [] σ (r, σ') (ab_row_bk tb_M_coverOf 0) ((e_M_coverOf _ _).trans h)
  obtain ⟨rfl, rfl⟩ := finI_inv hf
  exact ab_met (by decide) rfl (Nat.le_of_ble_eq_true rfl) hR
theorem cs_M_coverOf {l : Launch} {G : ab_Gt} (hG : ab_GG G) {R : Type} : ab_CS (R := R) l G 145 (47) cp_M_coverOf := by
  intro as σ k res h
  unfold cp_M_coverOf at h
  split at h
  · split at h
    · rename_i hb
      simp only [Bool.and_eq_true, Nat.beq_eq] at hb
      obtain ⟨hb1, hb2⟩ := hb
      subst hb1
      subst hb2
      obtain ⟨q, hq, hk⟩ := Option.bind_eq_some_iff.mp h
      exact ⟨_, _, lk_M_coverOf hG hq, rfl, (fun _ => Or.inl ⟨rfl, rfl⟩), hk⟩
    · cases h
  · cases h
theorem tb_M_bareOf : ∀ q ∈ tab_M_bareOf, ab_bk (ab_mo 146) (ab_mb 146) (ab_ml 146) 1 q.1 q.2 = true := List.all_eq_true.mp (by decide +kernel)
theorem lc_M_bareOf_L4 {l : Launch} {G : ab_Gt} (hG : ab_GG G) : ∀ n : Nat, ab_KS l G 146 (46) finI 4 (kc_M_bareOf_4 (M_bareOf_L4 n)) := by
  intro n
  induction n with
  | zero =>
    intro L st σ res h
    unfold kc_M_bareOf_4 at h
    split at h
    · split at h
      · rename_i hb
        simp only [Bool.and_eq_true, Nat.beq_eq] at hb
        obtain ⟨hb1, hb2⟩ := hb
        subst hb1
        subst hb2
        exact absurd (show none = some res from h) (fun h => by cases h)
      · cases h
    · cases h
  | succ n ih =>
    intro L st σ res h
    unfold kc_M_bareOf_4 at h
    split at h
    · split at h
      · rename_i hb
        simp only [Bool.and_eq_true, Nat.beq_eq] at hb
        obtain ⟨hb1, hb2⟩ := hb
        subst hb1
        subst hb2
        exact ab_ev_sound (tab := tab_M_bareOf) (Os := [(132, cp_M_rightAt)]) (Ks := [(4, kc_M_bareOf_4 (M_bareOf_L4 n))]) (fin := finI) hG (by omega) rfl (List.forall_mem_cons.mpr ⟨⟨45, by omega, cs_M_rightAt hG⟩, (fun _ h => absurd h List.not_mem_nil)⟩) (List.forall_mem_cons.mpr ⟨ih, (fun _ h => absurd h List.not_mem_nil)⟩) tb_M_bareOf 300 (ab_row tab_M_bareOf 4) 4 _ _ σ res (ab_row_bk tb_M_bareOf 4) ((e_M_bareOf_L4  _ _ _ _ _).trans h)
      · cases h
    · cases h
theorem lk_M_bareOf {l : Launch} {G : ab_Gt} (hG : ab_GG G) {p1 : Int32} {r : Int32} {σ σ' : Sg} (h : M_bareOf p1 σ = some (r, σ')) : ab_CO l G 146 (46) [(vR 30 0), (.inl p1)] σ (vI r) σ' := by
  obtain ⟨r0, σ2, hR, hf⟩ := ab_ev_sound (tab := tab_M_bareOf) (Os := [(132, cp_M_rightAt)]) (Ks := [(4, kc_M_bareOf_4 (M_bareOf_L4 FU))]) (fin := finI) hG (d := 46) (by omega) rfl (List.forall_mem_cons.mpr ⟨⟨45, by omega, cs_M_rightAt hG⟩, (fun _ h => absurd h List.not_mem_nil)⟩) (List.forall_mem_cons.mpr ⟨lc_M_bareOf_L4 hG FU, (fun _ h => absurd h List.not_mem_nil)⟩) tb_M_bareOf 300 (ab_row tab_M_bareOf 0) 0 (ab_ini (ab_ml 146) [(vR 30 0), (.inl p1)]) [] σ (r, σ') (ab_row_bk tb_M_bareOf 0) ((e_M_bareOf _ _).trans h)
  obtain ⟨rfl, rfl⟩ := finI_inv hf
  exact ab_met (by decide) rfl (Nat.le_of_ble_eq_true rfl) hR
theorem cs_M_bareOf {l : Launch} {G : ab_Gt} (hG : ab_GG G) {R : Type} : ab_CS (R := R) l G 146 (46) cp_M_bareOf := by
  intro as σ k res h
  unfold cp_M_bareOf at h
  split at h
  · split at h
    · rename_i hb
      simp only [Bool.and_eq_true, Nat.beq_eq] at hb
      obtain ⟨hb1, hb2⟩ := hb
      subst hb1
      subst hb2
      obtain ⟨q, hq, hk⟩ := Option.bind_eq_some_iff.mp h
      exact ⟨_, _, lk_M_bareOf hG hq, rfl, (fun _ => Or.inl ⟨rfl, rfl⟩), hk⟩
    · cases h
  · cases h
theorem tb_M_changesOf : ∀ q ∈ tab_M_changesOf, ab_bk (ab_mo 147) (ab_mb 147) (ab_ml 147) 1 q.1 q.2 = true := List.all_eq_true.mp (by decide +kernel)
theorem lc_M_changesOf_L223 {l : Launch} {G : ab_Gt} (hG : ab_GG G) : ∀ n : Nat, ab_KS l G 147 (47) finI 223 (kc_M_changesOf_223 (M_changesOf_L223 n)) := by
  intro n
  induction n with
  | zero =>
    intro L st σ res h
    unfold kc_M_changesOf_223 at h
    split at h
    · split at h
      · rename_i hb
        simp only [Bool.and_eq_true, Nat.beq_eq] at hb
        obtain ⟨hb1, hb2⟩ := hb
        subst hb1
        subst hb2
        exact absurd (show none = some res from h) (fun h => by cases h)
      · cases h
    · cases h
  | succ n ih =>
    intro L st σ res h
    unfold kc_M_changesOf_223 at h
    split at h
    · split at h
      · rename_i hb
        simp only [Bool.and_eq_true, Nat.beq_eq] at hb
        obtain ⟨hb1, hb2⟩ := hb
        subst hb1
        subst hb2
        exact ab_ev_sound (tab := tab_M_changesOf) (Os := [(143, cp_M_rights)]) (Ks := [(223, kc_M_changesOf_223 (M_changesOf_L223 n))]) (fin := finI) hG (by omega) rfl (List.forall_mem_cons.mpr ⟨⟨46, by omega, cs_M_rights hG⟩, (fun _ h => absurd h List.not_mem_nil)⟩) (List.forall_mem_cons.mpr ⟨ih, (fun _ h => absurd h List.not_mem_nil)⟩) tb_M_changesOf 300 (ab_row tab_M_changesOf 223) 223 _ _ σ res (ab_row_bk tb_M_changesOf 223) ((e_M_changesOf_L223  _ _ _ _ _ _ _).trans h)
      · cases h
    · cases h
theorem lc_M_changesOf_L185 {l : Launch} {G : ab_Gt} (hG : ab_GG G) {k68 : Int32 → Sg → Option (Int32 × Sg)} (h68 : ab_KS l G 147 (47) finI 68 (kc_M_changesOf_68 k68)) : ∀ n : Nat, ab_KS l G 147 (47) finI 185 (kc_M_changesOf_185 (M_changesOf_L185 k68 n)) := by
  intro n
  induction n with
  | zero =>
    intro L st σ res h
    unfold kc_M_changesOf_185 at h
    split at h
    · split at h
      · rename_i hb
        simp only [Bool.and_eq_true, Nat.beq_eq] at hb
        obtain ⟨hb1, hb2⟩ := hb
        subst hb1
        subst hb2
        exact absurd (show none = some res from h) (fun h => by cases h)
      · cases h
    · cases h
  | succ n ih =>
    intro L st σ res h
    unfold kc_M_changesOf_185 at h
    split at h
    · split at h
      · rename_i hb
        simp only [Bool.and_eq_true, Nat.beq_eq] at hb
        obtain ⟨hb1, hb2⟩ := hb
        subst hb1
        subst hb2
        exact ab_ev_sound (tab := tab_M_changesOf) (Os := [(143, cp_M_rights)]) (Ks := [(68, kc_M_changesOf_68 k68), (185, kc_M_changesOf_185 (M_changesOf_L185 k68 n))]) (fin := finI) hG (by omega) rfl (List.forall_mem_cons.mpr ⟨⟨46, by omega, cs_M_rights hG⟩, (fun _ h => absurd h List.not_mem_nil)⟩) (List.forall_mem_cons.mpr ⟨h68, (List.forall_mem_cons.mpr ⟨ih, (fun _ h => absurd h List.not_mem_nil)⟩)⟩) tb_M_changesOf 300 (ab_row tab_M_changesOf 185) 185 _ _ σ res (ab_row_bk tb_M_changesOf 185) ((e_M_changesOf_L185 _ _ _ _ _ _ _ _).trans h)
      · cases h
    · cases h
theorem lc_M_changesOf_L95 {l : Launch} {G : ab_Gt} (hG : ab_GG G) {k68 : Int32 → Sg → Option (Int32 × Sg)} (h68 : ab_KS l G 147 (47) finI 68 (kc_M_changesOf_68 k68)) {k76 : Int32 → Int32 → Sg → Option (Int32 × Sg)} (h76 : ab_KS l G 147 (47) finI 76 (kc_M_changesOf_76 k76)) : ∀ n : Nat, ab_KS l G 147 (47) finI 95 (kc_M_changesOf_95 (M_changesOf_L95 k68 k76 n)) := by
  intro n
  induction n with
  | zero =>
    intro L st σ res h
    unfold kc_M_changesOf_95 at h
    split at h
    · split at h
      · rename_i hb
        simp only [Bool.and_eq_true, Nat.beq_eq] at hb
        obtain ⟨hb1, hb2⟩ := hb
        subst hb1
        subst hb2
        exact absurd (show none = some res from h) (fun h => by cases h)
      · cases h
    · cases h
  | succ n ih =>
    intro L st σ res h
    unfold kc_M_changesOf_95 at h
    split at h
    · split at h
      · rename_i hb
        simp only [Bool.and_eq_true, Nat.beq_eq] at hb
        obtain ⟨hb1, hb2⟩ := hb
        subst hb1
        subst hb2
        exact ab_ev_sound (tab := tab_M_changesOf) (Os := [(143, cp_M_rights)]) (Ks := [(76, kc_M_changesOf_76 k76), (95, kc_M_changesOf_95 (M_changesOf_L95 k68 k76 n))]) (fin := finI) hG (by omega) rfl (List.forall_mem_cons.mpr ⟨⟨46, by omega, cs_M_rights hG⟩, (fun _ h => absurd h List.not_mem_nil)⟩) (List.forall_mem_cons.mpr ⟨h76, (List.forall_mem_cons.mpr ⟨ih, (fun _ h => absurd h List.not_mem_nil)⟩)⟩) tb_M_changesOf 300 (ab_row tab_M_changesOf 95) 95 _ _ σ res (ab_row_bk tb_M_changesOf 95) ((e_M_changesOf_L95 _ _ _ _ _ _ _ _ _).trans h)
      · cases h
    · cases h
theorem lc_M_changesOf_L76 {l : Launch} {G : ab_Gt} (hG : ab_GG G) {k68 : Int32 → Sg → Option (Int32 × Sg)} (h68 : ab_KS l G 147 (47) finI 68 (kc_M_changesOf_68 k68)) : ∀ n : Nat, ab_KS l G 147 (47) finI 76 (kc_M_changesOf_76 (M_changesOf_L76 k68 n)) := by
  intro n
  induction n with
  | zero =>
    intro L st σ res h
    unfold kc_M_changesOf_76 at h
    split at h
    · split at h
      · rename_i hb
        simp only [Bool.and_eq_true, Nat.beq_eq] at hb
        obtain ⟨hb1, hb2⟩ := hb
        subst hb1
        subst hb2
        exact absurd (show none = some res from h) (fun h => by cases h)
      · cases h
    · cases h
  | succ n ih =>
    intro L st σ res h
    unfold kc_M_changesOf_76 at h
    split at h
    · split at h
      · rename_i hb
        simp only [Bool.and_eq_true, Nat.beq_eq] at hb
        obtain ⟨hb1, hb2⟩ := hb
        subst hb1
        subst hb2
        exact ab_ev_sound (tab := tab_M_changesOf) (Os := [(143, cp_M_rights)]) (Ks := [(95, kc_M_changesOf_95 (M_changesOf_L95 k68 (fun y0 y1 τ => M_changesOf_L76 k68 n y0 y1 τ) FU)), (185, kc_M_changesOf_185 (M_changesOf_L185 k68 FU))]) (fin := finI) hG (by omega) rfl (List.forall_mem_cons.mpr ⟨⟨46, by omega, cs_M_rights hG⟩, (fun _ h => absurd h List.not_mem_nil)⟩) (List.forall_mem_cons.mpr ⟨lc_M_changesOf_L95 hG h68 ih FU, (List.forall_mem_cons.mpr ⟨lc_M_changesOf_L185 hG h68 FU, (fun _ h => absurd h List.not_mem_nil)⟩)⟩) tb_M_changesOf 300 (ab_row tab_M_changesOf 76) 76 _ _ σ res (ab_row_bk tb_M_changesOf 76) ((e_M_changesOf_L76 _ _ _ _ _ _ _ _).trans h)
      · cases h
    · cases h
theorem lc_M_changesOf_L68 {l : Launch} {G : ab_Gt} (hG : ab_GG G) : ∀ n : Nat, ab_KS l G 147 (47) finI 68 (kc_M_changesOf_68 (M_changesOf_L68 n)) := by
  intro n
  induction n with
  | zero =>
    intro L st σ res h
    unfold kc_M_changesOf_68 at h
    split at h
    · split at h
      · rename_i hb
        simp only [Bool.and_eq_true, Nat.beq_eq] at hb
        obtain ⟨hb1, hb2⟩ := hb
        subst hb1
        subst hb2
        exact absurd (show none = some res from h) (fun h => by cases h)
      · cases h
    · cases h
  | succ n ih =>
    intro L st σ res h
    unfold kc_M_changesOf_68 at h
    split at h
    · split at h
      · rename_i hb
        simp only [Bool.and_eq_true, Nat.beq_eq] at hb
        obtain ⟨hb1, hb2⟩ := hb
        subst hb1
        subst hb2
        exact ab_ev_sound (tab := tab_M_changesOf) (Os := [(143, cp_M_rights)]) (Ks := [(76, kc_M_changesOf_76 (M_changesOf_L76 (fun y0 τ => M_changesOf_L68 n y0 τ) FU)), (223, kc_M_changesOf_223 (M_changesOf_L223 FU))]) (fin := finI) hG (by omega) rfl (List.forall_mem_cons.mpr ⟨⟨46, by omega, cs_M_rights hG⟩, (fun _ h => absurd h List.not_mem_nil)⟩) (List.forall_mem_cons.mpr ⟨lc_M_changesOf_L76 hG ih FU, (List.forall_mem_cons.mpr ⟨lc_M_changesOf_L223 hG FU, (fun _ h => absurd h List.not_mem_nil)⟩)⟩) tb_M_changesOf 300 (ab_row tab_M_changesOf 68) 68 _ _ σ res (ab_row_bk tb_M_changesOf 68) ((e_M_changesOf_L68  _ _ _ _ _ _ _).trans h)
      · cases h
    · cases h
theorem lc_M_changesOf_L16 {l : Launch} {G : ab_Gt} (hG : ab_GG G) : ∀ n : Nat, ab_KS l G 147 (47) finI 16 (kc_M_changesOf_16 (M_changesOf_L16 n)) := by
  intro n
  induction n with
  | zero =>
    intro L st σ res h
    unfold kc_M_changesOf_16 at h
    split at h
    · split at h
      · rename_i hb
        simp only [Bool.and_eq_true, Nat.beq_eq] at hb
        obtain ⟨hb1, hb2⟩ := hb
        subst hb1
        subst hb2
        exact absurd (show none = some res from h) (fun h => by cases h)
      · cases h
    · cases h
  | succ n ih =>
    intro L st σ res h
    unfold kc_M_changesOf_16 at h
    split at h
    · split at h
      · rename_i hb
        simp only [Bool.and_eq_true, Nat.beq_eq] at hb
        obtain ⟨hb1, hb2⟩ := hb
        subst hb1
        subst hb2
        exact ab_ev_sound (tab := tab_M_changesOf) (Os := [(143, cp_M_rights)]) (Ks := [(16, kc_M_changesOf_16 (M_changesOf_L16 n)), (68, kc_M_changesOf_68 (M_changesOf_L68 FU))]) (fin := finI) hG (by omega) rfl (List.forall_mem_cons.mpr ⟨⟨46, by omega, cs_M_rights hG⟩, (fun _ h => absurd h List.not_mem_nil)⟩) (List.forall_mem_cons.mpr ⟨ih, (List.forall_mem_cons.mpr ⟨lc_M_changesOf_L68 hG FU, (fun _ h => absurd h List.not_mem_nil)⟩)⟩) tb_M_changesOf 300 (ab_row tab_M_changesOf 16) 16 _ _ σ res (ab_row_bk tb_M_changesOf 16) ((e_M_changesOf_L16  _ _ _ _ _ _ _).trans h)
      · cases h
    · cases h
theorem lk_M_changesOf {l : Launch} {G : ab_Gt} (hG : ab_GG G) {p1 : Int32} {r : Int32} {σ σ' : Sg} (h : M_changesOf p1 σ = some (r, σ')) : ab_CO l G 147 (47) [(vR 30 0), (.inl p1)] σ (vI r) σ' := by
  obtain ⟨r0, σ2, hR, hf⟩ := ab_ev_sound (tab := tab_M_changesOf) (Os := [(143, cp_M_rights)]) (Ks := [(16, kc_M_changesOf_16 (M_changesOf_L16 FU))]) (fin := finI) hG (d := 47) (by omega) rfl (List.forall_mem_cons.mpr ⟨⟨46, by omega, cs_M_rights hG⟩, (fun _ h => absurd h List.not_mem_nil)⟩) (List.forall_mem_cons.mpr ⟨lc_M_changesOf_L16 hG FU, (fun _ h => absurd h List.not_mem_nil)⟩) tb_M_changesOf 300 (ab_row tab_M_changesOf 0) 0 (ab_ini (ab_ml 147) [(vR 30 0), (.inl p1)]) [] σ (r, σ') (ab_row_bk tb_M_changesOf 0) ((e_M_changesOf _ _).trans h)
  obtain ⟨rfl, rfl⟩ := finI_inv hf
  exact ab_met (by decide) rfl (Nat.le_of_ble_eq_true rfl) hR
theorem cs_M_changesOf {l : Launch} {G : ab_Gt} (hG : ab_GG G) {R : Type} : ab_CS (R := R) l G 147 (47) cp_M_changesOf := by
  intro as σ k res h
  unfold cp_M_changesOf at h
  split at h
  · split at h
    · rename_i hb
      simp only [Bool.and_eq_true, Nat.beq_eq] at hb
      obtain ⟨hb1, hb2⟩ := hb
      subst hb1
      subst hb2
      obtain ⟨q, hq, hk⟩ := Option.bind_eq_some_iff.mp h
      exact ⟨_, _, lk_M_changesOf hG hq, rfl, (fun _ => Or.inl ⟨rfl, rfl⟩), hk⟩
    · cases h
  · cases h
theorem tb_M_byCoat : ∀ q ∈ tab_M_byCoat, ab_bk (ab_mo 148) (ab_mb 148) (ab_ml 148) 1 q.1 q.2 = true := List.all_eq_true.mp (by decide +kernel)
theorem lc_M_byCoat_J31 {l : Launch} {G : ab_Gt} (hG : ab_GG G) : ab_KS l G 148 (1) finI 31 (kc_M_byCoat_31 (M_byCoat_J31)) := by
  intro L st σ res h
  unfold kc_M_byCoat_31 at h
  split at h
  · split at h
    · rename_i hb
      simp only [Bool.and_eq_true, Nat.beq_eq] at hb
      obtain ⟨hb1, hb2⟩ := hb
      subst hb1
      subst hb2
      exact ab_ev_sound (tab := tab_M_byCoat) (Os := []) (Ks := []) (fin := finI) hG (by omega) rfl (fun _ h => absurd h List.not_mem_nil) (fun _ h => absurd h List.not_mem_nil) tb_M_byCoat 300 (ab_row tab_M_byCoat 31) 31 _ _ σ res (ab_row_bk tb_M_byCoat 31) ((e_M_byCoat_J31  _ _ _ _ _ _).trans h)
    · cases h
  · cases h
theorem lk_M_byCoat {l : Launch} {G : ab_Gt} (hG : ab_GG G) {p1 : Int32} {p2 : Int32} {p3 : Int32} {r : Int32} {σ σ' : Sg} (h : M_byCoat p1 p2 p3 σ = some (r, σ')) : ab_CO l G 148 (1) [(vR 30 0), (.inl p1), (.inl p2), (.inl p3)] σ (vI r) σ' := by
  obtain ⟨r0, σ2, hR, hf⟩ := ab_ev_sound (tab := tab_M_byCoat) (Os := []) (Ks := [(31, kc_M_byCoat_31 (M_byCoat_J31))]) (fin := finI) hG (d := 1) (by omega) rfl (fun _ h => absurd h List.not_mem_nil) (List.forall_mem_cons.mpr ⟨lc_M_byCoat_J31 hG, (fun _ h => absurd h List.not_mem_nil)⟩) tb_M_byCoat 300 (ab_row tab_M_byCoat 0) 0 (ab_ini (ab_ml 148) [(vR 30 0), (.inl p1), (.inl p2), (.inl p3)]) [] σ (r, σ') (ab_row_bk tb_M_byCoat 0) ((e_M_byCoat _ _ _ _).trans h)
  obtain ⟨rfl, rfl⟩ := finI_inv hf
  exact ab_met (by decide) rfl (Nat.le_of_ble_eq_true rfl) hR
theorem cs_M_byCoat {l : Launch} {G : ab_Gt} (hG : ab_GG G) {R : Type} : ab_CS (R := R) l G 148 (1) cp_M_byCoat := by
  intro as σ k res h
  unfold cp_M_byCoat at h
  split at h
  · split at h
    · rename_i hb
      simp only [Bool.and_eq_true, Nat.beq_eq] at hb
      obtain ⟨hb1, hb2⟩ := hb
      subst hb1
      subst hb2
      obtain ⟨q, hq, hk⟩ := Option.bind_eq_some_iff.mp h
      exact ⟨_, _, lk_M_byCoat hG hq, rfl, (fun _ => Or.inl ⟨rfl, rfl⟩), hk⟩
    · cases h
  · cases h
theorem tb_M_cheapOf : ∀ q ∈ tab_M_cheapOf, ab_bk (ab_mo 149) (ab_mb 149) (ab_ml 149) 1 q.1 q.2 = true := List.all_eq_true.mp (by decide +kernel)
theorem lc_M_cheapOf_L242 {l : Launch} {G : ab_Gt} (hG : ab_GG G) {k233 : Int32 → Int32 → Sg → Option (Int32 × Sg)} (h233 : ab_KS l G 149 (45) finI 233 (kc_M_cheapOf_233 k233)) : ∀ n : Nat, ab_KS l G 149 (45) finI 242 (kc_M_cheapOf_242 (M_cheapOf_L242 k233 n)) := by
  intro n
  induction n with
  | zero =>
    intro L st σ res h
    unfold kc_M_cheapOf_242 at h
    split at h
    · split at h
      · rename_i hb
        simp only [Bool.and_eq_true, Nat.beq_eq] at hb
        obtain ⟨hb1, hb2⟩ := hb
        subst hb1
        subst hb2
        exact absurd (show none = some res from h) (fun h => by cases h)
      · cases h
    · cases h
  | succ n ih =>
    intro L st σ res h
    unfold kc_M_cheapOf_242 at h
    split at h
    · split at h
      · rename_i hb
        simp only [Bool.and_eq_true, Nat.beq_eq] at hb
        obtain ⟨hb1, hb2⟩ := hb
        subst hb1
        subst hb2
        exact ab_ev_sound (tab := tab_M_cheapOf) (Os := [(128, cp_M_fits), (129, cp_M_fineOf), (130, cp_M_costOf), (148, cp_M_byCoat)]) (Ks := [(233, kc_M_cheapOf_233 k233), (242, kc_M_cheapOf_242 (M_cheapOf_L242 k233 n))]) (fin := finI) hG (by omega) rfl (List.forall_mem_cons.mpr ⟨⟨44, by omega, cs_M_fits hG⟩, (List.forall_mem_cons.mpr ⟨⟨44, by omega, cs_M_fineOf hG⟩, (List.forall_mem_cons.mpr ⟨⟨44, by omega, cs_M_costOf hG⟩, (List.forall_mem_cons.mpr ⟨⟨1, by omega, cs_M_byCoat hG⟩, (fun _ h => absurd h List.not_mem_nil)⟩)⟩)⟩)⟩) (List.forall_mem_cons.mpr ⟨h233, (List.forall_mem_cons.mpr ⟨ih, (fun _ h => absurd h List.not_mem_nil)⟩)⟩) tb_M_cheapOf 300 (ab_row tab_M_cheapOf 242) 242 _ _ σ res (ab_row_bk tb_M_cheapOf 242) ((e_M_cheapOf_L242 _ _ _ _ _ _ _ _).trans h)
      · cases h
    · cases h
theorem lc_M_cheapOf_L233 {l : Launch} {G : ab_Gt} (hG : ab_GG G) : ∀ n : Nat, ab_KS l G 149 (45) finI 233 (kc_M_cheapOf_233 (M_cheapOf_L233 n)) := by
  intro n
  induction n with
  | zero =>
    intro L st σ res h
    unfold kc_M_cheapOf_233 at h
    split at h
    · split at h
      · rename_i hb
        simp only [Bool.and_eq_true, Nat.beq_eq] at hb
        obtain ⟨hb1, hb2⟩ := hb
        subst hb1
        subst hb2
        exact absurd (show none = some res from h) (fun h => by cases h)
      · cases h
    · cases h
  | succ n ih =>
    intro L st σ res h
    unfold kc_M_cheapOf_233 at h
    split at h
    · split at h
      · rename_i hb
        simp only [Bool.and_eq_true, Nat.beq_eq] at hb
        obtain ⟨hb1, hb2⟩ := hb
        subst hb1
        subst hb2
        exact ab_ev_sound (tab := tab_M_cheapOf) (Os := [(128, cp_M_fits), (129, cp_M_fineOf), (130, cp_M_costOf), (148, cp_M_byCoat)]) (Ks := [(242, kc_M_cheapOf_242 (M_cheapOf_L242 (fun y0 y1 τ => M_cheapOf_L233 n y0 y1 τ) FU))]) (fin := finI) hG (by omega) rfl (List.forall_mem_cons.mpr ⟨⟨44, by omega, cs_M_fits hG⟩, (List.forall_mem_cons.mpr ⟨⟨44, by omega, cs_M_fineOf hG⟩, (List.forall_mem_cons.mpr ⟨⟨44, by omega, cs_M_costOf hG⟩, (List.forall_mem_cons.mpr ⟨⟨1, by omega, cs_M_byCoat hG⟩, (fun _ h => absurd h List.not_mem_nil)⟩)⟩)⟩)⟩) (List.forall_mem_cons.mpr ⟨lc_M_cheapOf_L242 hG ih FU, (fun _ h => absurd h List.not_mem_nil)⟩) tb_M_cheapOf 300 (ab_row tab_M_cheapOf 233) 233 _ _ σ res (ab_row_bk tb_M_cheapOf 233) ((e_M_cheapOf_L233  _ _ _ _ _ _ _).trans h)
      · cases h
    · cases h
theorem lc_M_cheapOf_L161 {l : Launch} {G : ab_Gt} (hG : ab_GG G) {k135 : Int32 → Sg → Option (Int32 × Sg)} (h135 : ab_KS l G 149 (45) finI 135 (kc_M_cheapOf_135 k135)) {k141 : Int32 → Int32 → Sg → Option (Int32 × Sg)} (h141 : ab_KS l G 149 (45) finI 141 (kc_M_cheapOf_141 k141)) : ∀ n : Nat, ab_KS l G 149 (45) finI 161 (kc_M_cheapOf_161 (M_cheapOf_L161 k135 k141 n)) := by
  intro n
  induction n with
  | zero =>
    intro L st σ res h
    unfold kc_M_cheapOf_161 at h
    split at h
    · split at h
      · rename_i hb
        simp only [Bool.and_eq_true, Nat.beq_eq] at hb
        obtain ⟨hb1, hb2⟩ := hb
        subst hb1
        subst hb2
        exact absurd (show none = some res from h) (fun h => by cases h)
      · cases h
    · cases h
  | succ n ih =>
    intro L st σ res h
    unfold kc_M_cheapOf_161 at h
    split at h
    · split at h
      · rename_i hb
        simp only [Bool.and_eq_true, Nat.beq_eq] at hb
        obtain ⟨hb1, hb2⟩ := hb
        subst hb1
        subst hb2
        exact ab_ev_sound (tab := tab_M_cheapOf) (Os := [(128, cp_M_fits), (129, cp_M_fineOf), (130, cp_M_costOf), (148, cp_M_byCoat)]) (Ks := [(141, kc_M_cheapOf_141 k141), (161, kc_M_cheapOf_161 (M_cheapOf_L161 k135 k141 n))]) (fin := finI) hG (by omega) rfl (List.forall_mem_cons.mpr ⟨⟨44, by omega, cs_M_fits hG⟩, (List.forall_mem_cons.mpr ⟨⟨44, by omega, cs_M_fineOf hG⟩, (List.forall_mem_cons.mpr ⟨⟨44, by omega, cs_M_costOf hG⟩, (List.forall_mem_cons.mpr ⟨⟨1, by omega, cs_M_byCoat hG⟩, (fun _ h => absurd h List.not_mem_nil)⟩)⟩)⟩)⟩) (List.forall_mem_cons.mpr ⟨h141, (List.forall_mem_cons.mpr ⟨ih, (fun _ h => absurd h List.not_mem_nil)⟩)⟩) tb_M_cheapOf 300 (ab_row tab_M_cheapOf 161) 161 _ _ σ res (ab_row_bk tb_M_cheapOf 161) ((e_M_cheapOf_L161 _ _ _ _ _ _ _ _ _).trans h)
      · cases h
    · cases h
theorem lc_M_cheapOf_L141 {l : Launch} {G : ab_Gt} (hG : ab_GG G) {k135 : Int32 → Sg → Option (Int32 × Sg)} (h135 : ab_KS l G 149 (45) finI 135 (kc_M_cheapOf_135 k135)) : ∀ n : Nat, ab_KS l G 149 (45) finI 141 (kc_M_cheapOf_141 (M_cheapOf_L141 k135 n)) := by
  intro n
  induction n with
  | zero =>
    intro L st σ res h
    unfold kc_M_cheapOf_141 at h
    split at h
    · split at h
      · rename_i hb
        simp only [Bool.and_eq_true, Nat.beq_eq] at hb
        obtain ⟨hb1, hb2⟩ := hb
        subst hb1
        subst hb2
        exact absurd (show none = some res from h) (fun h => by cases h)
      · cases h
    · cases h
  | succ n ih =>
    intro L st σ res h
    unfold kc_M_cheapOf_141 at h
    split at h
    · split at h
      · rename_i hb
        simp only [Bool.and_eq_true, Nat.beq_eq] at hb
        obtain ⟨hb1, hb2⟩ := hb
        subst hb1
        subst hb2
        exact ab_ev_sound (tab := tab_M_cheapOf) (Os := [(128, cp_M_fits), (129, cp_M_fineOf), (130, cp_M_costOf), (148, cp_M_byCoat)]) (Ks := [(135, kc_M_cheapOf_135 k135), (161, kc_M_cheapOf_161 (M_cheapOf_L161 k135 (fun y0 y1 τ => M_cheapOf_L141 k135 n y0 y1 τ) FU))]) (fin := finI) hG (by omega) rfl (List.forall_mem_cons.mpr ⟨⟨44, by omega, cs_M_fits hG⟩, (List.forall_mem_cons.mpr ⟨⟨44, by omega, cs_M_fineOf hG⟩, (List.forall_mem_cons.mpr ⟨⟨44, by omega, cs_M_costOf hG⟩, (List.forall_mem_cons.mpr ⟨⟨1, by omega, cs_M_byCoat hG⟩, (fun _ h => absurd h List.not_mem_nil)⟩)⟩)⟩)⟩) (List.forall_mem_cons.mpr ⟨h135, (List.forall_mem_cons.mpr ⟨lc_M_cheapOf_L161 hG h135 ih FU, (fun _ h => absurd h List.not_mem_nil)⟩)⟩) tb_M_cheapOf 300 (ab_row tab_M_cheapOf 141) 141 _ _ σ res (ab_row_bk tb_M_cheapOf 141) ((e_M_cheapOf_L141 _ _ _ _ _ _ _ _).trans h)
      · cases h
    · cases h
theorem lc_M_cheapOf_L135 {l : Launch} {G : ab_Gt} (hG : ab_GG G) : ∀ n : Nat, ab_KS l G 149 (45) finI 135 (kc_M_cheapOf_135 (M_cheapOf_L135 n)) := by
  intro n
  induction n with
  | zero =>
    intro L st σ res h
    unfold kc_M_cheapOf_135 at h
    split at h
    · split at h
      · rename_i hb
        simp only [Bool.and_eq_true, Nat.beq_eq] at hb
        obtain ⟨hb1, hb2⟩ := hb
        subst hb1
        subst hb2
        exact absurd (show none = some res from h) (fun h => by cases h)
      · cases h
    · cases h
  | succ n ih =>
    intro L st σ res h
    unfold kc_M_cheapOf_135 at h
    split at h
    · split at h
      · rename_i hb
        simp only [Bool.and_eq_true, Nat.beq_eq] at hb
        obtain ⟨hb1, hb2⟩ := hb
        subst hb1
        subst hb2
        exact ab_ev_sound (tab := tab_M_cheapOf) (Os := [(128, cp_M_fits), (129, cp_M_fineOf), (130, cp_M_costOf), (148, cp_M_byCoat)]) (Ks := [(141, kc_M_cheapOf_141 (M_cheapOf_L141 (fun y0 τ => M_cheapOf_L135 n y0 τ) FU)), (233, kc_M_cheapOf_233 (M_cheapOf_L233 FU))]) (fin := finI) hG (by omega) rfl (List.forall_mem_cons.mpr ⟨⟨44, by omega, cs_M_fits hG⟩, (List.forall_mem_cons.mpr ⟨⟨44, by omega, cs_M_fineOf hG⟩, (List.forall_mem_cons.mpr ⟨⟨44, by omega, cs_M_costOf hG⟩, (List.forall_mem_cons.mpr ⟨⟨1, by omega, cs_M_byCoat hG⟩, (fun _ h => absurd h List.not_mem_nil)⟩)⟩)⟩)⟩) (List.forall_mem_cons.mpr ⟨lc_M_cheapOf_L141 hG ih FU, (List.forall_mem_cons.mpr ⟨lc_M_cheapOf_L233 hG FU, (fun _ h => absurd h List.not_mem_nil)⟩)⟩) tb_M_cheapOf 300 (ab_row tab_M_cheapOf 135) 135 _ _ σ res (ab_row_bk tb_M_cheapOf 135) ((e_M_cheapOf_L135  _ _ _ _ _ _ _).trans h)
      · cases h
    · cases h
theorem lc_M_cheapOf_L107 {l : Launch} {G : ab_Gt} (hG : ab_GG G) : ∀ n : Nat, ab_KS l G 149 (45) finI 107 (kc_M_cheapOf_107 (M_cheapOf_L107 n)) := by
  intro n
  induction n with
  | zero =>
    intro L st σ res h
    unfold kc_M_cheapOf_107 at h
    split at h
    · split at h
      · rename_i hb
        simp only [Bool.and_eq_true, Nat.beq_eq] at hb
        obtain ⟨hb1, hb2⟩ := hb
        subst hb1
        subst hb2
        exact absurd (show none = some res from h) (fun h => by cases h)
      · cases h
    · cases h
  | succ n ih =>
    intro L st σ res h
    unfold kc_M_cheapOf_107 at h
    split at h
    · split at h
      · rename_i hb
        simp only [Bool.and_eq_true, Nat.beq_eq] at hb
        obtain ⟨hb1, hb2⟩ := hb
        subst hb1
        subst hb2
        exact ab_ev_sound (tab := tab_M_cheapOf) (Os := [(128, cp_M_fits), (129, cp_M_fineOf), (130, cp_M_costOf), (148, cp_M_byCoat)]) (Ks := [(107, kc_M_cheapOf_107 (M_cheapOf_L107 n)), (135, kc_M_cheapOf_135 (M_cheapOf_L135 FU))]) (fin := finI) hG (by omega) rfl (List.forall_mem_cons.mpr ⟨⟨44, by omega, cs_M_fits hG⟩, (List.forall_mem_cons.mpr ⟨⟨44, by omega, cs_M_fineOf hG⟩, (List.forall_mem_cons.mpr ⟨⟨44, by omega, cs_M_costOf hG⟩, (List.forall_mem_cons.mpr ⟨⟨1, by omega, cs_M_byCoat hG⟩, (fun _ h => absurd h List.not_mem_nil)⟩)⟩)⟩)⟩) (List.forall_mem_cons.mpr ⟨ih, (List.forall_mem_cons.mpr ⟨lc_M_cheapOf_L135 hG FU, (fun _ h => absurd h List.not_mem_nil)⟩)⟩) tb_M_cheapOf 300 (ab_row tab_M_cheapOf 107) 107 _ _ σ res (ab_row_bk tb_M_cheapOf 107) ((e_M_cheapOf_L107  _ _ _ _ _ _ _).trans h)
      · cases h
    · cases h
theorem lc_M_cheapOf_J70 {l : Launch} {G : ab_Gt} (hG : ab_GG G) {k2 : Int32 → Int32 → Sg → Option (Int32 × Sg)} (h2 : ab_KS l G 149 (45) finI 2 (kc_M_cheapOf_2 k2)) {k23 : Int32 → Int32 → Int32 → Int32 → Sg → Option (Int32 × Sg)} (h23 : ab_KS l G 149 (45) finI 23 (kc_M_cheapOf_23 k23)) : ab_KS l G 149 (45) finI 70 (kc_M_cheapOf_70 (M_cheapOf_J70 k2 k23)) := by
  intro L st σ res h
  unfold kc_M_cheapOf_70 at h
  split at h
  · split at h
    · rename_i hb
      simp only [Bool.and_eq_true, Nat.beq_eq] at hb
      obtain ⟨⟨⟨hb1, hb2⟩, hb3⟩, hb4⟩ := hb
      subst hb1
      subst hb2
      subst hb3
      subst hb4
      exact ab_ev_sound (tab := tab_M_cheapOf) (Os := [(128, cp_M_fits), (129, cp_M_fineOf), (130, cp_M_costOf), (148, cp_M_byCoat)]) (Ks := [(23, kc_M_cheapOf_23 k23)]) (fin := finI) hG (by omega) rfl (List.forall_mem_cons.mpr ⟨⟨44, by omega, cs_M_fits hG⟩, (List.forall_mem_cons.mpr ⟨⟨44, by omega, cs_M_fineOf hG⟩, (List.forall_mem_cons.mpr ⟨⟨44, by omega, cs_M_costOf hG⟩, (List.forall_mem_cons.mpr ⟨⟨1, by omega, cs_M_byCoat hG⟩, (fun _ h => absurd h List.not_mem_nil)⟩)⟩)⟩)⟩) (List.forall_mem_cons.mpr ⟨h23, (fun _ h => absurd h List.not_mem_nil)⟩) tb_M_cheapOf 300 (ab_row tab_M_cheapOf 70) 70 _ _ σ res (ab_row_bk tb_M_cheapOf 70) ((e_M_cheapOf_J70 _ _ _ _ _ _ _ _ _ _).trans h)
    · cases h
  · cases h
theorem lc_M_cheapOf_L23 {l : Launch} {G : ab_Gt} (hG : ab_GG G) {k2 : Int32 → Int32 → Sg → Option (Int32 × Sg)} (h2 : ab_KS l G 149 (45) finI 2 (kc_M_cheapOf_2 k2)) : ∀ n : Nat, ab_KS l G 149 (45) finI 23 (kc_M_cheapOf_23 (M_cheapOf_L23 k2 n)) := by
  intro n
  induction n with
  | zero =>
    intro L st σ res h
    unfold kc_M_cheapOf_23 at h
    split at h
    · split at h
      · rename_i hb
        simp only [Bool.and_eq_true, Nat.beq_eq] at hb
        obtain ⟨hb1, hb2⟩ := hb
        subst hb1
        subst hb2
        exact absurd (show none = some res from h) (fun h => by cases h)
      · cases h
    · cases h
  | succ n ih =>
    intro L st σ res h
    unfold kc_M_cheapOf_23 at h
    split at h
    · split at h
      · rename_i hb
        simp only [Bool.and_eq_true, Nat.beq_eq] at hb
        obtain ⟨hb1, hb2⟩ := hb
        subst hb1
        subst hb2
        exact ab_ev_sound (tab := tab_M_cheapOf) (Os := [(128, cp_M_fits), (129, cp_M_fineOf), (130, cp_M_costOf), (148, cp_M_byCoat)]) (Ks := [(2, kc_M_cheapOf_2 k2), (70, kc_M_cheapOf_70 (M_cheapOf_J70 k2 (fun y0 y1 y2 y3 τ => M_cheapOf_L23 k2 n y0 y1 y2 y3 τ)))]) (fin := finI) hG (by omega) rfl (List.forall_mem_cons.mpr ⟨⟨44, by omega, cs_M_fits hG⟩, (List.forall_mem_cons.mpr ⟨⟨44, by omega, cs_M_fineOf hG⟩, (List.forall_mem_cons.mpr ⟨⟨44, by omega, cs_M_costOf hG⟩, (List.forall_mem_cons.mpr ⟨⟨1, by omega, cs_M_byCoat hG⟩, (fun _ h => absurd h List.not_mem_nil)⟩)⟩)⟩)⟩) (List.forall_mem_cons.mpr ⟨h2, (List.forall_mem_cons.mpr ⟨lc_M_cheapOf_J70 hG h2 ih, (fun _ h => absurd h List.not_mem_nil)⟩)⟩) tb_M_cheapOf 300 (ab_row tab_M_cheapOf 23) 23 _ _ σ res (ab_row_bk tb_M_cheapOf 23) ((e_M_cheapOf_L23 _ _ _ _ _ _ _ _).trans h)
      · cases h
    · cases h
theorem lc_M_cheapOf_L2 {l : Launch} {G : ab_Gt} (hG : ab_GG G) : ∀ n : Nat, ab_KS l G 149 (45) finI 2 (kc_M_cheapOf_2 (M_cheapOf_L2 n)) := by
  intro n
  induction n with
  | zero =>
    intro L st σ res h
    unfold kc_M_cheapOf_2 at h
    split at h
    · split at h
      · rename_i hb
        simp only [Bool.and_eq_true, Nat.beq_eq] at hb
        obtain ⟨hb1, hb2⟩ := hb
        subst hb1
        subst hb2
        exact absurd (show none = some res from h) (fun h => by cases h)
      · cases h
    · cases h
  | succ n ih =>
    intro L st σ res h
    unfold kc_M_cheapOf_2 at h
    split at h
    · split at h
      · rename_i hb
        simp only [Bool.and_eq_true, Nat.beq_eq] at hb
        obtain ⟨hb1, hb2⟩ := hb
        subst hb1
        subst hb2
        exact ab_ev_sound (tab := tab_M_cheapOf) (Os := [(128, cp_M_fits), (129, cp_M_fineOf), (130, cp_M_costOf), (148, cp_M_byCoat)]) (Ks := [(23, kc_M_cheapOf_23 (M_cheapOf_L23 (fun y0 y1 τ => M_cheapOf_L2 n y0 y1 τ) FU)), (107, kc_M_cheapOf_107 (M_cheapOf_L107 FU))]) (fin := finI) hG (by omega) rfl (List.forall_mem_cons.mpr ⟨⟨44, by omega, cs_M_fits hG⟩, (List.forall_mem_cons.mpr ⟨⟨44, by omega, cs_M_fineOf hG⟩, (List.forall_mem_cons.mpr ⟨⟨44, by omega, cs_M_costOf hG⟩, (List.forall_mem_cons.mpr ⟨⟨1, by omega, cs_M_byCoat hG⟩, (fun _ h => absurd h List.not_mem_nil)⟩)⟩)⟩)⟩) (List.forall_mem_cons.mpr ⟨lc_M_cheapOf_L23 hG ih FU, (List.forall_mem_cons.mpr ⟨lc_M_cheapOf_L107 hG FU, (fun _ h => absurd h List.not_mem_nil)⟩)⟩) tb_M_cheapOf 300 (ab_row tab_M_cheapOf 2) 2 _ _ σ res (ab_row_bk tb_M_cheapOf 2) ((e_M_cheapOf_L2  _ _ _ _ _ _ _).trans h)
      · cases h
    · cases h
theorem lk_M_cheapOf {l : Launch} {G : ab_Gt} (hG : ab_GG G) {p1 : Int32} {r : Int32} {σ σ' : Sg} (h : M_cheapOf p1 σ = some (r, σ')) : ab_CO l G 149 (45) [(vR 30 0), (.inl p1)] σ (vI r) σ' := by
  obtain ⟨r0, σ2, hR, hf⟩ := ab_ev_sound (tab := tab_M_cheapOf) (Os := [(128, cp_M_fits), (129, cp_M_fineOf), (130, cp_M_costOf), (148, cp_M_byCoat)]) (Ks := [(2, kc_M_cheapOf_2 (M_cheapOf_L2 FU))]) (fin := finI) hG (d := 45) (by omega) rfl (List.forall_mem_cons.mpr ⟨⟨44, by omega, cs_M_fits hG⟩, (List.forall_mem_cons.mpr ⟨⟨44, by omega, cs_M_fineOf hG⟩, (List.forall_mem_cons.mpr ⟨⟨44, by omega, cs_M_costOf hG⟩, (List.forall_mem_cons.mpr ⟨⟨1, by omega, cs_M_byCoat hG⟩, (fun _ h => absurd h List.not_mem_nil)⟩)⟩)⟩)⟩) (List.forall_mem_cons.mpr ⟨lc_M_cheapOf_L2 hG FU, (fun _ h => absurd h List.not_mem_nil)⟩) tb_M_cheapOf 300 (ab_row tab_M_cheapOf 0) 0 (ab_ini (ab_ml 149) [(vR 30 0), (.inl p1)]) [] σ (r, σ') (ab_row_bk tb_M_cheapOf 0) ((e_M_cheapOf _ _).trans h)
  obtain ⟨rfl, rfl⟩ := finI_inv hf
  exact ab_met (by decide) rfl (Nat.le_of_ble_eq_true rfl) hR
theorem cs_M_cheapOf {l : Launch} {G : ab_Gt} (hG : ab_GG G) {R : Type} : ab_CS (R := R) l G 149 (45) cp_M_cheapOf := by
  intro as σ k res h
  unfold cp_M_cheapOf at h
  split at h
  · split at h
    · rename_i hb
      simp only [Bool.and_eq_true, Nat.beq_eq] at hb
      obtain ⟨hb1, hb2⟩ := hb
      subst hb1
      subst hb2
      obtain ⟨q, hq, hk⟩ := Option.bind_eq_some_iff.mp h
      exact ⟨_, _, lk_M_cheapOf hG hq, rfl, (fun _ => Or.inl ⟨rfl, rfl⟩), hk⟩
    · cases h
  · cases h
theorem tb_M_day : ∀ q ∈ tab_M_day, ab_bk (ab_mo 150) (ab_mb 150) (ab_ml 150) 1 q.1 q.2 = true := List.all_eq_true.mp (by decide +kernel)
theorem lc_M_day_J36 {l : Launch} {G : ab_Gt} (hG : ab_GG G) : ab_KS l G 150 (48) finI 36 (kc_M_day_36 (M_day_J36)) := by
  intro L st σ res h
  unfold kc_M_day_36 at h
  split at h
  · split at h
    · rename_i hb
      simp only [Bool.and_eq_true, Nat.beq_eq] at hb
      obtain ⟨hb1, hb2⟩ := hb
      subst hb1
      subst hb2
      exact ab_ev_sound (tab := tab_M_day) (Os := [(65, cp_M_in), (69, cp_M_isOne), (142, cp_M_bitsOf), (145, cp_M_coverOf), (146, cp_M_bareOf), (147, cp_M_changesOf), (149, cp_M_cheapOf)]) (Ks := []) (fin := finI) hG (by omega) rfl (List.forall_mem_cons.mpr ⟨⟨1, by omega, cs_M_in hG⟩, (List.forall_mem_cons.mpr ⟨⟨2, by omega, cs_M_isOne hG⟩, (List.forall_mem_cons.mpr ⟨⟨1, by omega, cs_M_bitsOf hG⟩, (List.forall_mem_cons.mpr ⟨⟨47, by omega, cs_M_coverOf hG⟩, (List.forall_mem_cons.mpr ⟨⟨46, by omega, cs_M_bareOf hG⟩, (List.forall_mem_cons.mpr ⟨⟨47, by omega, cs_M_changesOf hG⟩, (List.forall_mem_cons.mpr ⟨⟨45, by omega, cs_M_cheapOf hG⟩, (fun _ h => absurd h List.not_mem_nil)⟩)⟩)⟩)⟩)⟩)⟩)⟩) (fun _ h => absurd h List.not_mem_nil) tb_M_day 300 (ab_row tab_M_day 36) 36 _ _ σ res (ab_row_bk tb_M_day 36) ((e_M_day_J36  _ _ _ _).trans h)
    · cases h
  · cases h
theorem lk_M_day {l : Launch} {G : ab_Gt} (hG : ab_GG G) {p1 : Int32} {p2 : Int32} {r : Int32} {σ σ' : Sg} (h : M_day p1 p2 σ = some (r, σ')) : ab_CO l G 150 (48) [(vR 30 0), (.inl p1), (.inl p2)] σ (vI r) σ' := by
  obtain ⟨r0, σ2, hR, hf⟩ := ab_ev_sound (tab := tab_M_day) (Os := [(65, cp_M_in), (69, cp_M_isOne), (142, cp_M_bitsOf), (145, cp_M_coverOf), (146, cp_M_bareOf), (147, cp_M_changesOf), (149, cp_M_cheapOf)]) (Ks := [(36, kc_M_day_36 (M_day_J36))]) (fin := finI) hG (d := 48) (by omega) rfl (List.forall_mem_cons.mpr ⟨⟨1, by omega, cs_M_in hG⟩, (List.forall_mem_cons.mpr ⟨⟨2, by omega, cs_M_isOne hG⟩, (List.forall_mem_cons.mpr ⟨⟨1, by omega, cs_M_bitsOf hG⟩, (List.forall_mem_cons.mpr ⟨⟨47, by omega, cs_M_coverOf hG⟩, (List.forall_mem_cons.mpr ⟨⟨46, by omega, cs_M_bareOf hG⟩, (List.forall_mem_cons.mpr ⟨⟨47, by omega, cs_M_changesOf hG⟩, (List.forall_mem_cons.mpr ⟨⟨45, by omega, cs_M_cheapOf hG⟩, (fun _ h => absurd h List.not_mem_nil)⟩)⟩)⟩)⟩)⟩)⟩)⟩) (List.forall_mem_cons.mpr ⟨lc_M_day_J36 hG, (fun _ h => absurd h List.not_mem_nil)⟩) tb_M_day 300 (ab_row tab_M_day 0) 0 (ab_ini (ab_ml 150) [(vR 30 0), (.inl p1), (.inl p2)]) [] σ (r, σ') (ab_row_bk tb_M_day 0) ((e_M_day _ _ _).trans h)
  obtain ⟨rfl, rfl⟩ := finI_inv hf
  exact ab_met (by decide) rfl (Nat.le_of_ble_eq_true rfl) hR
theorem cs_M_day {l : Launch} {G : ab_Gt} (hG : ab_GG G) {R : Type} : ab_CS (R := R) l G 150 (48) cp_M_day := by
  intro as σ k res h
  unfold cp_M_day at h
  split at h
  · split at h
    · rename_i hb
      simp only [Bool.and_eq_true, Nat.beq_eq] at hb
      obtain ⟨hb1, hb2⟩ := hb
      subst hb1
      subst hb2
      obtain ⟨q, hq, hk⟩ := Option.bind_eq_some_iff.mp h
      exact ⟨_, _, lk_M_day hG hq, rfl, (fun _ => Or.inl ⟨rfl, rfl⟩), hk⟩
    · cases h
  · cases h
theorem tb_M_sheet : ∀ q ∈ tab_M_sheet, ab_bk (ab_mo 171) (ab_mb 171) (ab_ml 171) 1 q.1 q.2 = true := List.all_eq_true.mp (by decide +kernel)
theorem lc_M_sheet_L77 {l : Launch} {G : ab_Gt} (hG : ab_GG G) : ∀ n : Nat, ab_KS l G 171 (3) finI 77 (kc_M_sheet_77 (M_sheet_L77 n)) := by
  intro n
  induction n with
  | zero =>
    intro L st σ res h
    unfold kc_M_sheet_77 at h
    split at h
    · split at h
      · rename_i hb
        simp only [Bool.and_eq_true, Nat.beq_eq] at hb
        obtain ⟨hb1, hb2⟩ := hb
        subst hb1
        subst hb2
        exact absurd (show none = some res from h) (fun h => by cases h)
      · cases h
    · cases h
  | succ n ih =>
    intro L st σ res h
    unfold kc_M_sheet_77 at h
    split at h
    · split at h
      · rename_i hb
        simp only [Bool.and_eq_true, Nat.beq_eq] at hb
        obtain ⟨hb1, hb2⟩ := hb
        subst hb1
        subst hb2
        exact ab_ev_sound (tab := tab_M_sheet) (Os := [(65, cp_M_in), (170, cp_M_isSheet)]) (Ks := [(77, kc_M_sheet_77 (M_sheet_L77 n))]) (fin := finI) hG (by omega) rfl (List.forall_mem_cons.mpr ⟨⟨1, by omega, cs_M_in hG⟩, (List.forall_mem_cons.mpr ⟨⟨2, by omega, cs_M_isSheet hG⟩, (fun _ h => absurd h List.not_mem_nil)⟩)⟩) (List.forall_mem_cons.mpr ⟨ih, (fun _ h => absurd h List.not_mem_nil)⟩) tb_M_sheet 300 (ab_row tab_M_sheet 77) 77 _ _ σ res (ab_row_bk tb_M_sheet 77) ((e_M_sheet_L77  _ _ _ _ _ _).trans h)
      · cases h
    · cases h
theorem lc_M_sheet_J59 {l : Launch} {G : ab_Gt} (hG : ab_GG G) : ab_KS l G 171 (3) finI 59 (kc_M_sheet_59 (M_sheet_J59)) := by
  intro L st σ res h
  unfold kc_M_sheet_59 at h
  split at h
  · split at h
    · rename_i hb
      simp only [Bool.and_eq_true, Nat.beq_eq] at hb
      obtain ⟨⟨⟨hb1, hb2⟩, hb3⟩, hb4⟩ := hb
      subst hb1
      subst hb2
      subst hb3
      subst hb4
      exact ab_ev_sound (tab := tab_M_sheet) (Os := [(65, cp_M_in), (170, cp_M_isSheet)]) (Ks := [(77, kc_M_sheet_77 (M_sheet_L77 FU))]) (fin := finI) hG (by omega) rfl (List.forall_mem_cons.mpr ⟨⟨1, by omega, cs_M_in hG⟩, (List.forall_mem_cons.mpr ⟨⟨2, by omega, cs_M_isSheet hG⟩, (fun _ h => absurd h List.not_mem_nil)⟩)⟩) (List.forall_mem_cons.mpr ⟨lc_M_sheet_L77 hG FU, (fun _ h => absurd h List.not_mem_nil)⟩) tb_M_sheet 300 (ab_row tab_M_sheet 59) 59 _ _ σ res (ab_row_bk tb_M_sheet 59) ((e_M_sheet_J59  _ _ _ _ _ _ _).trans h)
    · cases h
  · cases h
theorem lc_M_sheet_J45 {l : Launch} {G : ab_Gt} (hG : ab_GG G) : ab_KS l G 171 (3) finI 45 (kc_M_sheet_45 (M_sheet_J45)) := by
  intro L st σ res h
  unfold kc_M_sheet_45 at h
  split at h
  · split at h
    · rename_i hb
      simp only [Bool.and_eq_true, Nat.beq_eq] at hb
      obtain ⟨hb1, hb2⟩ := hb
      subst hb1
      subst hb2
      exact ab_ev_sound (tab := tab_M_sheet) (Os := [(65, cp_M_in), (170, cp_M_isSheet)]) (Ks := [(59, kc_M_sheet_59 (M_sheet_J59))]) (fin := finI) hG (by omega) rfl (List.forall_mem_cons.mpr ⟨⟨1, by omega, cs_M_in hG⟩, (List.forall_mem_cons.mpr ⟨⟨2, by omega, cs_M_isSheet hG⟩, (fun _ h => absurd h List.not_mem_nil)⟩)⟩) (List.forall_mem_cons.mpr ⟨lc_M_sheet_J59 hG, (fun _ h => absurd h List.not_mem_nil)⟩) tb_M_sheet 300 (ab_row tab_M_sheet 45) 45 _ _ σ res (ab_row_bk tb_M_sheet 45) ((e_M_sheet_J45  _ _ _ _ _).trans h)
    · cases h
  · cases h
theorem lc_M_sheet_J34 {l : Launch} {G : ab_Gt} (hG : ab_GG G) : ab_KS l G 171 (3) finI 34 (kc_M_sheet_34 (M_sheet_J34)) := by
  intro L st σ res h
  unfold kc_M_sheet_34 at h
  split at h
  · split at h
    · rename_i hb
      simp only [Bool.and_eq_true, Nat.beq_eq] at hb
      obtain ⟨hb1, hb2⟩ := hb
      subst hb1
      subst hb2
      exact ab_ev_sound (tab := tab_M_sheet) (Os := [(65, cp_M_in), (170, cp_M_isSheet)]) (Ks := [(45, kc_M_sheet_45 (M_sheet_J45))]) (fin := finI) hG (by omega) rfl (List.forall_mem_cons.mpr ⟨⟨1, by omega, cs_M_in hG⟩, (List.forall_mem_cons.mpr ⟨⟨2, by omega, cs_M_isSheet hG⟩, (fun _ h => absurd h List.not_mem_nil)⟩)⟩) (List.forall_mem_cons.mpr ⟨lc_M_sheet_J45 hG, (fun _ h => absurd h List.not_mem_nil)⟩) tb_M_sheet 300 (ab_row tab_M_sheet 34) 34 _ _ σ res (ab_row_bk tb_M_sheet 34) ((e_M_sheet_J34  _ _ _ _ _).trans h)
    · cases h
  · cases h
theorem lk_M_sheet {l : Launch} {G : ab_Gt} (hG : ab_GG G) {p1 : Int32} {p2 : Int32} {p3 : Int32} {r : Int32} {σ σ' : Sg} (h : M_sheet p1 p2 p3 σ = some (r, σ')) : ab_CO l G 171 (3) [(vR 30 0), (.inl p1), (.inl p2), (.inl p3)] σ (vI r) σ' := by
  obtain ⟨r0, σ2, hR, hf⟩ := ab_ev_sound (tab := tab_M_sheet) (Os := [(65, cp_M_in), (170, cp_M_isSheet)]) (Ks := [(34, kc_M_sheet_34 (M_sheet_J34))]) (fin := finI) hG (d := 3) (by omega) rfl (List.forall_mem_cons.mpr ⟨⟨1, by omega, cs_M_in hG⟩, (List.forall_mem_cons.mpr ⟨⟨2, by omega, cs_M_isSheet hG⟩, (fun _ h => absurd h List.not_mem_nil)⟩)⟩) (List.forall_mem_cons.mpr ⟨lc_M_sheet_J34 hG, (fun _ h => absurd h List.not_mem_nil)⟩) tb_M_sheet 300 (ab_row tab_M_sheet 0) 0 (ab_ini (ab_ml 171) [(vR 30 0), (.inl p1), (.inl p2), (.inl p3)]) [] σ (r, σ') (ab_row_bk tb_M_sheet 0) ((e_M_sheet _ _ _ _).trans h)
  obtain ⟨rfl, rfl⟩ := finI_inv hf
  exact ab_met (by decide) rfl (Nat.le_of_ble_eq_true rfl) hR
theorem cs_M_sheet {l : Launch} {G : ab_Gt} (hG : ab_GG G) {R : Type} : ab_CS (R := R) l G 171 (3) cp_M_sheet := by
  intro as σ k res h
  unfold cp_M_sheet at h
  split at h
  · split at h
    · rename_i hb
      simp only [Bool.and_eq_true, Nat.beq_eq] at hb
      obtain ⟨hb1, hb2⟩ := hb
      subst hb1
      subst hb2
      obtain ⟨q, hq, hk⟩ := Option.bind_eq_some_iff.mp h
      exact ⟨_, _, lk_M_sheet hG hq, rfl, (fun _ => Or.inl ⟨rfl, rfl⟩), hk⟩
    · cases h
  · cases h
theorem tb_M_dress : ∀ q ∈ tab_M_dress, ab_bk (ab_mo 151) (ab_mb 151) (ab_ml 151) 1 q.1 q.2 = true := List.all_eq_true.mp (by decide +kernel)
theorem lc_M_dress_L35 {l : Launch} {G : ab_Gt} (hG : ab_GG G) : ∀ n : Nat, ab_KS l G 151 (46) finI 35 (kc_M_dress_35 (M_dress_L35 n)) := by
  intro n
  induction n with
  | zero =>
    intro L st σ res h
    unfold kc_M_dress_35 at h
    split at h
    · split at h
      · rename_i hb
        simp only [Bool.and_eq_true, Nat.beq_eq] at hb
        obtain ⟨hb1, hb2⟩ := hb
        subst hb1
        subst hb2
        exact absurd (show none = some res from h) (fun h => by cases h)
      · cases h
    · cases h
  | succ n ih =>
    intro L st σ res h
    unfold kc_M_dress_35 at h
    split at h
    · split at h
      · rename_i hb
        simp only [Bool.and_eq_true, Nat.beq_eq] at hb
        obtain ⟨hb1, hb2⟩ := hb
        subst hb1
        subst hb2
        exact ab_ev_sound (tab := tab_M_dress) (Os := [(69, cp_M_isOne), (149, cp_M_cheapOf), (170, cp_M_isSheet), (171, cp_M_sheet)]) (Ks := [(35, kc_M_dress_35 (M_dress_L35 n))]) (fin := finI) hG (by omega) rfl (List.forall_mem_cons.mpr ⟨⟨2, by omega, cs_M_isOne hG⟩, (List.forall_mem_cons.mpr ⟨⟨45, by omega, cs_M_cheapOf hG⟩, (List.forall_mem_cons.mpr ⟨⟨2, by omega, cs_M_isSheet hG⟩, (List.forall_mem_cons.mpr ⟨⟨3, by omega, cs_M_sheet hG⟩, (fun _ h => absurd h List.not_mem_nil)⟩)⟩)⟩)⟩) (List.forall_mem_cons.mpr ⟨ih, (fun _ h => absurd h List.not_mem_nil)⟩) tb_M_dress 300 (ab_row tab_M_dress 35) 35 _ _ σ res (ab_row_bk tb_M_dress 35) ((e_M_dress_L35  _ _ _ _ _ _).trans h)
      · cases h
    · cases h
theorem lk_M_dress {l : Launch} {G : ab_Gt} (hG : ab_GG G) {p1 : Int32} {p2 : Int32} {r : Int32} {σ σ' : Sg} (h : M_dress p1 p2 σ = some (r, σ')) : ab_CO l G 151 (46) [(vR 30 0), (.inl p1), (.inl p2)] σ (vI r) σ' := by
  obtain ⟨r0, σ2, hR, hf⟩ := ab_ev_sound (tab := tab_M_dress) (Os := [(69, cp_M_isOne), (149, cp_M_cheapOf), (170, cp_M_isSheet), (171, cp_M_sheet)]) (Ks := [(35, kc_M_dress_35 (M_dress_L35 FU))]) (fin := finI) hG (d := 46) (by omega) rfl (List.forall_mem_cons.mpr ⟨⟨2, by omega, cs_M_isOne hG⟩, (List.forall_mem_cons.mpr ⟨⟨45, by omega, cs_M_cheapOf hG⟩, (List.forall_mem_cons.mpr ⟨⟨2, by omega, cs_M_isSheet hG⟩, (List.forall_mem_cons.mpr ⟨⟨3, by omega, cs_M_sheet hG⟩, (fun _ h => absurd h List.not_mem_nil)⟩)⟩)⟩)⟩) (List.forall_mem_cons.mpr ⟨lc_M_dress_L35 hG FU, (fun _ h => absurd h List.not_mem_nil)⟩) tb_M_dress 300 (ab_row tab_M_dress 0) 0 (ab_ini (ab_ml 151) [(vR 30 0), (.inl p1), (.inl p2)]) [] σ (r, σ') (ab_row_bk tb_M_dress 0) ((e_M_dress _ _ _).trans h)
  obtain ⟨rfl, rfl⟩ := finI_inv hf
  exact ab_met (by decide) rfl (Nat.le_of_ble_eq_true rfl) hR
theorem cs_M_dress {l : Launch} {G : ab_Gt} (hG : ab_GG G) {R : Type} : ab_CS (R := R) l G 151 (46) cp_M_dress := by
  intro as σ k res h
  unfold cp_M_dress at h
  split at h
  · split at h
    · rename_i hb
      simp only [Bool.and_eq_true, Nat.beq_eq] at hb
      obtain ⟨hb1, hb2⟩ := hb
      subst hb1
      subst hb2
      obtain ⟨q, hq, hk⟩ := Option.bind_eq_some_iff.mp h
      exact ⟨_, _, lk_M_dress hG hq, rfl, (fun _ => Or.inl ⟨rfl, rfl⟩), hk⟩
    · cases h
  · cases h
theorem tb_M_anew : ∀ q ∈ tab_M_anew, ab_bk (ab_mo 152) (ab_mb 152) (ab_ml 152) 1 q.1 q.2 = true := List.all_eq_true.mp (by decide +kernel)
theorem lc_M_anew_L49 {l : Launch} {G : ab_Gt} (hG : ab_GG G) : ∀ n : Nat, ab_KS l G 152 (46) finI 49 (kc_M_anew_49 (M_anew_L49 n)) := by
  intro n
  induction n with
  | zero =>
    intro L st σ res h
    unfold kc_M_anew_49 at h
    split at h
    · split at h
      · rename_i hb
        simp only [Bool.and_eq_true, Nat.beq_eq] at hb
        obtain ⟨hb1, hb2⟩ := hb
        subst hb1
        subst hb2
        exact absurd (show none = some res from h) (fun h => by cases h)
      · cases h
    · cases h
  | succ n ih =>
    intro L st σ res h
    unfold kc_M_anew_49 at h
    split at h
    · split at h
      · rename_i hb
        simp only [Bool.and_eq_true, Nat.beq_eq] at hb
        obtain ⟨hb1, hb2⟩ := hb
        subst hb1
        subst hb2
        exact ab_ev_sound (tab := tab_M_anew) (Os := [(65, cp_M_in), (67, cp_M_isCoat), (69, cp_M_isOne), (133, cp_M_hoursBy)]) (Ks := [(49, kc_M_anew_49 (M_anew_L49 n))]) (fin := finI) hG (by omega) rfl (List.forall_mem_cons.mpr ⟨⟨1, by omega, cs_M_in hG⟩, (List.forall_mem_cons.mpr ⟨⟨2, by omega, cs_M_isCoat hG⟩, (List.forall_mem_cons.mpr ⟨⟨2, by omega, cs_M_isOne hG⟩, (List.forall_mem_cons.mpr ⟨⟨45, by omega, cs_M_hoursBy hG⟩, (fun _ h => absurd h List.not_mem_nil)⟩)⟩)⟩)⟩) (List.forall_mem_cons.mpr ⟨ih, (fun _ h => absurd h List.not_mem_nil)⟩) tb_M_anew 300 (ab_row tab_M_anew 49) 49 _ _ σ res (ab_row_bk tb_M_anew 49) ((e_M_anew_L49  _ _ _ _ _ _ _ _ _ _).trans h)
      · cases h
    · cases h
theorem lk_M_anew {l : Launch} {G : ab_Gt} (hG : ab_GG G) {p1 : Int32} {p2 : Int32} {p3 : Int32} {r : Int32} {σ σ' : Sg} (h : M_anew p1 p2 p3 σ = some (r, σ')) : ab_CO l G 152 (46) [(vR 30 0), (.inl p1), (.inl p2), (.inl p3)] σ (vI r) σ' := by
  obtain ⟨r0, σ2, hR, hf⟩ := ab_ev_sound (tab := tab_M_anew) (Os := [(65, cp_M_in), (67, cp_M_isCoat), (69, cp_M_isOne), (133, cp_M_hoursBy)]) (Ks := [(49, kc_M_anew_49 (M_anew_L49 FU))]) (fin := finI) hG (d := 46) (by omega) rfl (List.forall_mem_cons.mpr ⟨⟨1, by omega, cs_M_in hG⟩, (List.forall_mem_cons.mpr ⟨⟨2, by omega, cs_M_isCoat hG⟩, (List.forall_mem_cons.mpr ⟨⟨2, by omega, cs_M_isOne hG⟩, (List.forall_mem_cons.mpr ⟨⟨45, by omega, cs_M_hoursBy hG⟩, (fun _ h => absurd h List.not_mem_nil)⟩)⟩)⟩)⟩) (List.forall_mem_cons.mpr ⟨lc_M_anew_L49 hG FU, (fun _ h => absurd h List.not_mem_nil)⟩) tb_M_anew 300 (ab_row tab_M_anew 0) 0 (ab_ini (ab_ml 152) [(vR 30 0), (.inl p1), (.inl p2), (.inl p3)]) [] σ (r, σ') (ab_row_bk tb_M_anew 0) ((e_M_anew _ _ _ _).trans h)
  obtain ⟨rfl, rfl⟩ := finI_inv hf
  exact ab_met (by decide) rfl (Nat.le_of_ble_eq_true rfl) hR
theorem cs_M_anew {l : Launch} {G : ab_Gt} (hG : ab_GG G) {R : Type} : ab_CS (R := R) l G 152 (46) cp_M_anew := by
  intro as σ k res h
  unfold cp_M_anew at h
  split at h
  · split at h
    · rename_i hb
      simp only [Bool.and_eq_true, Nat.beq_eq] at hb
      obtain ⟨hb1, hb2⟩ := hb
      subst hb1
      subst hb2
      obtain ⟨q, hq, hk⟩ := Option.bind_eq_some_iff.mp h
      exact ⟨_, _, lk_M_anew hG hq, rfl, (fun _ => Or.inl ⟨rfl, rfl⟩), hk⟩
    · cases h
  · cases h
theorem tb_M_laysAside : ∀ q ∈ tab_M_laysAside, ab_bk (ab_mo 153) (ab_mb 153) (ab_ml 153) 0 q.1 q.2 = true := List.all_eq_true.mp (by decide +kernel)
theorem lc_M_laysAside_L2 {l : Launch} {G : ab_Gt} (hG : ab_GG G) : ∀ n : Nat, ab_KS l G 153 (1) finV 2 (kc_M_laysAside_2 (M_laysAside_L2 n)) := by
  intro n
  induction n with
  | zero =>
    intro L st σ res h
    unfold kc_M_laysAside_2 at h
    split at h
    · split at h
      · rename_i hb
        simp only [Bool.and_eq_true, Nat.beq_eq] at hb
        obtain ⟨hb1, hb2⟩ := hb
        subst hb1
        subst hb2
        exact absurd (show none = some res from h) (fun h => by cases h)
      · cases h
    · cases h
  | succ n ih =>
    intro L st σ res h
    unfold kc_M_laysAside_2 at h
    split at h
    · split at h
      · rename_i hb
        simp only [Bool.and_eq_true, Nat.beq_eq] at hb
        obtain ⟨hb1, hb2⟩ := hb
        subst hb1
        subst hb2
        exact ab_ev_sound (tab := tab_M_laysAside) (Os := []) (Ks := [(2, kc_M_laysAside_2 (M_laysAside_L2 n))]) (fin := finV) hG (by omega) rfl (fun _ h => absurd h List.not_mem_nil) (List.forall_mem_cons.mpr ⟨ih, (fun _ h => absurd h List.not_mem_nil)⟩) tb_M_laysAside 300 (ab_row tab_M_laysAside 2) 2 _ _ σ res (ab_row_bk tb_M_laysAside 2) ((e_M_laysAside_L2  _ _ _ _).trans h)
      · cases h
    · cases h
theorem lk_M_laysAside {l : Launch} {G : ab_Gt} (hG : ab_GG G) {p1 : Int32} {σ σ' : Sg} (h : M_laysAside p1 σ = some σ') : ab_CO l G 153 (1) [(vR 30 0), (.inl p1)] σ vU σ' := by
  obtain ⟨r0, σ2, hR, hf⟩ := ab_ev_sound (tab := tab_M_laysAside) (Os := []) (Ks := [(2, kc_M_laysAside_2 (M_laysAside_L2 FU))]) (fin := finV) hG (d := 1) (by omega) rfl (fun _ h => absurd h List.not_mem_nil) (List.forall_mem_cons.mpr ⟨lc_M_laysAside_L2 hG FU, (fun _ h => absurd h List.not_mem_nil)⟩) tb_M_laysAside 300 (ab_row tab_M_laysAside 0) 0 (ab_ini (ab_ml 153) [(vR 30 0), (.inl p1)]) [] σ σ' (ab_row_bk tb_M_laysAside 0) ((e_M_laysAside _ _).trans h)
  obtain ⟨rfl, rfl⟩ := finV_inv hf
  exact ab_met (by decide) rfl (Nat.le_of_ble_eq_true rfl) hR
theorem cs_M_laysAside {l : Launch} {G : ab_Gt} (hG : ab_GG G) {R : Type} : ab_CS (R := R) l G 153 (1) cp_M_laysAside := by
  intro as σ k res h
  unfold cp_M_laysAside at h
  split at h
  · split at h
    · rename_i hb
      simp only [Bool.and_eq_true, Nat.beq_eq] at hb
      obtain ⟨hb1, hb2⟩ := hb
      subst hb1
      subst hb2
      obtain ⟨q, hq, hk⟩ := Option.bind_eq_some_iff.mp h
      exact ⟨_, _, lk_M_laysAside hG hq, rfl, (fun _ => Or.inl ⟨rfl, rfl⟩), hk⟩
    · cases h
  · cases h
theorem tb_M_laysBack : ∀ q ∈ tab_M_laysBack, ab_bk (ab_mo 154) (ab_mb 154) (ab_ml 154) 0 q.1 q.2 = true := List.all_eq_true.mp (by decide +kernel)
theorem lc_M_laysBack_L2 {l : Launch} {G : ab_Gt} (hG : ab_GG G) : ∀ n : Nat, ab_KS l G 154 (1) finV 2 (kc_M_laysBack_2 (M_laysBack_L2 n)) := by
  intro n
  induction n with
  | zero =>
    intro L st σ res h
    unfold kc_M_laysBack_2 at h
    split at h
    · split at h
      · rename_i hb
        simp only [Bool.and_eq_true, Nat.beq_eq] at hb
        obtain ⟨hb1, hb2⟩ := hb
        subst hb1
        subst hb2
        exact absurd (show none = some res from h) (fun h => by cases h)
      · cases h
    · cases h
  | succ n ih =>
    intro L st σ res h
    unfold kc_M_laysBack_2 at h
    split at h
    · split at h
      · rename_i hb
        simp only [Bool.and_eq_true, Nat.beq_eq] at hb
        obtain ⟨hb1, hb2⟩ := hb
        subst hb1
        subst hb2
        exact ab_ev_sound (tab := tab_M_laysBack) (Os := []) (Ks := [(2, kc_M_laysBack_2 (M_laysBack_L2 n))]) (fin := finV) hG (by omega) rfl (fun _ h => absurd h List.not_mem_nil) (List.forall_mem_cons.mpr ⟨ih, (fun _ h => absurd h List.not_mem_nil)⟩) tb_M_laysBack 300 (ab_row tab_M_laysBack 2) 2 _ _ σ res (ab_row_bk tb_M_laysBack 2) ((e_M_laysBack_L2  _ _ _ _).trans h)
      · cases h
    · cases h
theorem lk_M_laysBack {l : Launch} {G : ab_Gt} (hG : ab_GG G) {p1 : Int32} {σ σ' : Sg} (h : M_laysBack p1 σ = some σ') : ab_CO l G 154 (1) [(vR 30 0), (.inl p1)] σ vU σ' := by
  obtain ⟨r0, σ2, hR, hf⟩ := ab_ev_sound (tab := tab_M_laysBack) (Os := []) (Ks := [(2, kc_M_laysBack_2 (M_laysBack_L2 FU))]) (fin := finV) hG (d := 1) (by omega) rfl (fun _ h => absurd h List.not_mem_nil) (List.forall_mem_cons.mpr ⟨lc_M_laysBack_L2 hG FU, (fun _ h => absurd h List.not_mem_nil)⟩) tb_M_laysBack 300 (ab_row tab_M_laysBack 0) 0 (ab_ini (ab_ml 154) [(vR 30 0), (.inl p1)]) [] σ σ' (ab_row_bk tb_M_laysBack 0) ((e_M_laysBack _ _).trans h)
  obtain ⟨rfl, rfl⟩ := finV_inv hf
  exact ab_met (by decide) rfl (Nat.le_of_ble_eq_true rfl) hR
theorem cs_M_laysBack {l : Launch} {G : ab_Gt} (hG : ab_GG G) {R : Type} : ab_CS (R := R) l G 154 (1) cp_M_laysBack := by
  intro as σ k res h
  unfold cp_M_laysBack at h
  split at h
  · split at h
    · rename_i hb
      simp only [Bool.and_eq_true, Nat.beq_eq] at hb
      obtain ⟨hb1, hb2⟩ := hb
      subst hb1
      subst hb2
      obtain ⟨q, hq, hk⟩ := Option.bind_eq_some_iff.mp h
      exact ⟨_, _, lk_M_laysBack hG hq, rfl, (fun _ => Or.inl ⟨rfl, rfl⟩), hk⟩
    · cases h
  · cases h
theorem tb_M_pushes : ∀ q ∈ tab_M_pushes, ab_bk (ab_mo 155) (ab_mb 155) (ab_ml 155) 1 q.1 q.2 = true := List.all_eq_true.mp (by decide +kernel)
theorem lc_M_pushes_L50 {l : Launch} {G : ab_Gt} (hG : ab_GG G) : ∀ n : Nat, ab_KS l G 155 (46) finI 50 (kc_M_pushes_50 (M_pushes_L50 n)) := by
  intro n
  induction n with
  | zero =>
    intro L st σ res h
    unfold kc_M_pushes_50 at h
    split at h
    · split at h
      · rename_i hb
        simp only [Bool.and_eq_true, Nat.beq_eq] at hb
        obtain ⟨hb1, hb2⟩ := hb
        subst hb1
        subst hb2
        exact absurd (show none = some res from h) (fun h => by cases h)
      · cases h
    · cases h
  | succ n ih =>
    intro L st σ res h
    unfold kc_M_pushes_50 at h
    split at h
    · split at h
      · rename_i hb
        simp only [Bool.and_eq_true, Nat.beq_eq] at hb
        obtain ⟨hb1, hb2⟩ := hb
        subst hb1
        subst hb2
        exact ab_ev_sound (tab := tab_M_pushes) (Os := [(65, cp_M_in), (69, cp_M_isOne), (135, cp_M_pushed), (149, cp_M_cheapOf), (153, cp_M_laysAside), (154, cp_M_laysBack)]) (Ks := [(50, kc_M_pushes_50 (M_pushes_L50 n))]) (fin := finI) hG (by omega) rfl (List.forall_mem_cons.mpr ⟨⟨1, by omega, cs_M_in hG⟩, (List.forall_mem_cons.mpr ⟨⟨2, by omega, cs_M_isOne hG⟩, (List.forall_mem_cons.mpr ⟨⟨2, by omega, cs_M_pushed hG⟩, (List.forall_mem_cons.mpr ⟨⟨45, by omega, cs_M_cheapOf hG⟩, (List.forall_mem_cons.mpr ⟨⟨1, by omega, cs_M_laysAside hG⟩, (List.forall_mem_cons.mpr ⟨⟨1, by omega, cs_M_laysBack hG⟩, (fun _ h => absurd h List.not_mem_nil)⟩)⟩)⟩)⟩)⟩)⟩) (List.forall_mem_cons.mpr ⟨ih, (fun _ h => absurd h List.not_mem_nil)⟩) tb_M_pushes 300 (ab_row tab_M_pushes 50) 50 _ _ σ res (ab_row_bk tb_M_pushes 50) ((e_M_pushes_L50  _ _ _ _ _ _ _ _ _).trans h)
      · cases h
    · cases h
theorem lk_M_pushes {l : Launch} {G : ab_Gt} (hG : ab_GG G) {p1 : Int32} {p2 : Int32} {p3 : Int32} {r : Int32} {σ σ' : Sg} (h : M_pushes p1 p2 p3 σ = some (r, σ')) : ab_CO l G 155 (46) [(vR 30 0), (.inl p1), (.inl p2), (.inl p3)] σ (vI r) σ' := by
  obtain ⟨r0, σ2, hR, hf⟩ := ab_ev_sound (tab := tab_M_pushes) (Os := [(65, cp_M_in), (69, cp_M_isOne), (135, cp_M_pushed), (149, cp_M_cheapOf), (153, cp_M_laysAside), (154, cp_M_laysBack)]) (Ks := [(50, kc_M_pushes_50 (M_pushes_L50 FU))]) (fin := finI) hG (d := 46) (by omega) rfl (List.forall_mem_cons.mpr ⟨⟨1, by omega, cs_M_in hG⟩, (List.forall_mem_cons.mpr ⟨⟨2, by omega, cs_M_isOne hG⟩, (List.forall_mem_cons.mpr ⟨⟨2, by omega, cs_M_pushed hG⟩, (List.forall_mem_cons.mpr ⟨⟨45, by omega, cs_M_cheapOf hG⟩, (List.forall_mem_cons.mpr ⟨⟨1, by omega, cs_M_laysAside hG⟩, (List.forall_mem_cons.mpr ⟨⟨1, by omega, cs_M_laysBack hG⟩, (fun _ h => absurd h List.not_mem_nil)⟩)⟩)⟩)⟩)⟩)⟩) (List.forall_mem_cons.mpr ⟨lc_M_pushes_L50 hG FU, (fun _ h => absurd h List.not_mem_nil)⟩) tb_M_pushes 300 (ab_row tab_M_pushes 0) 0 (ab_ini (ab_ml 155) [(vR 30 0), (.inl p1), (.inl p2), (.inl p3)]) [] σ (r, σ') (ab_row_bk tb_M_pushes 0) ((e_M_pushes _ _ _ _).trans h)
  obtain ⟨rfl, rfl⟩ := finI_inv hf
  exact ab_met (by decide) rfl (Nat.le_of_ble_eq_true rfl) hR
theorem cs_M_pushes {l : Launch} {G : ab_Gt} (hG : ab_GG G) {R : Type} : ab_CS (R := R) l G 155 (46) cp_M_pushes := by
  intro as σ k res h
  unfold cp_M_pushes at h
  split at h
  · split at h
    · rename_i hb
      simp only [Bool.and_eq_true, Nat.beq_eq] at hb
      obtain ⟨hb1, hb2⟩ := hb
      subst hb1
      subst hb2
      obtain ⟨q, hq, hk⟩ := Option.bind_eq_some_iff.mp h
      exact ⟨_, _, lk_M_pushes hG hq, rfl, (fun _ => Or.inl ⟨rfl, rfl⟩), hk⟩
    · cases h
  · cases h
theorem tb_M_apart : ∀ q ∈ tab_M_apart, ab_bk (ab_mo 156) (ab_mb 156) (ab_ml 156) 1 q.1 q.2 = true := List.all_eq_true.mp (by decide +kernel)
theorem lc_M_apart_L5 {l : Launch} {G : ab_Gt} (hG : ab_GG G) : ∀ n : Nat, ab_KS l G 156 (1) finI 5 (kc_M_apart_5 (M_apart_L5 n)) := by
  intro n
  induction n with
  | zero =>
    intro L st σ res h
    unfold kc_M_apart_5 at h
    split at h
    · split at h
      · rename_i hb
        simp only [Bool.and_eq_true, Nat.beq_eq] at hb
        obtain ⟨hb1, hb2⟩ := hb
        subst hb1
        subst hb2
        exact absurd (show none = some res from h) (fun h => by cases h)
      · cases h
    · cases h
  | succ n ih =>
    intro L st σ res h
    unfold kc_M_apart_5 at h
    split at h
    · split at h
      · rename_i hb
        simp only [Bool.and_eq_true, Nat.beq_eq] at hb
        obtain ⟨hb1, hb2⟩ := hb
        subst hb1
        subst hb2
        exact ab_ev_sound (tab := tab_M_apart) (Os := []) (Ks := [(5, kc_M_apart_5 (M_apart_L5 n))]) (fin := finI) hG (by omega) rfl (fun _ h => absurd h List.not_mem_nil) (List.forall_mem_cons.mpr ⟨ih, (fun _ h => absurd h List.not_mem_nil)⟩) tb_M_apart 300 (ab_row tab_M_apart 5) 5 _ _ σ res (ab_row_bk tb_M_apart 5) ((e_M_apart_L5  _ _ _ _ _ _ _).trans h)
      · cases h
    · cases h
theorem lk_M_apart {l : Launch} {G : ab_Gt} (hG : ab_GG G) {p1 : Int32} {p2 : Int32} {r : Int32} {σ σ' : Sg} (h : M_apart p1 p2 σ = some (r, σ')) : ab_CO l G 156 (1) [(vR 30 0), (.inl p1), (.inl p2)] σ (vI r) σ' := by
  obtain ⟨r0, σ2, hR, hf⟩ := ab_ev_sound (tab := tab_M_apart) (Os := []) (Ks := [(5, kc_M_apart_5 (M_apart_L5 FU))]) (fin := finI) hG (d := 1) (by omega) rfl (fun _ h => absurd h List.not_mem_nil) (List.forall_mem_cons.mpr ⟨lc_M_apart_L5 hG FU, (fun _ h => absurd h List.not_mem_nil)⟩) tb_M_apart 300 (ab_row tab_M_apart 0) 0 (ab_ini (ab_ml 156) [(vR 30 0), (.inl p1), (.inl p2)]) [] σ (r, σ') (ab_row_bk tb_M_apart 0) ((e_M_apart _ _ _).trans h)
  obtain ⟨rfl, rfl⟩ := finI_inv hf
  exact ab_met (by decide) rfl (Nat.le_of_ble_eq_true rfl) hR
theorem cs_M_apart {l : Launch} {G : ab_Gt} (hG : ab_GG G) {R : Type} : ab_CS (R := R) l G 156 (1) cp_M_apart := by
  intro as σ k res h
  unfold cp_M_apart at h
  split at h
  · split at h
    · rename_i hb
      simp only [Bool.and_eq_true, Nat.beq_eq] at hb
      obtain ⟨hb1, hb2⟩ := hb
      subst hb1
      subst hb2
      obtain ⟨q, hq, hk⟩ := Option.bind_eq_some_iff.mp h
      exact ⟨_, _, lk_M_apart hG hq, rfl, (fun _ => Or.inl ⟨rfl, rfl⟩), hk⟩
    · cases h
  · cases h
theorem tb_M_all : ∀ q ∈ tab_M_all, ab_bk (ab_mo 157) (ab_mb 157) (ab_ml 157) 1 q.1 q.2 = true := List.all_eq_true.mp (by decide +kernel)
theorem lc_M_all_J97 {l : Launch} {G : ab_Gt} (hG : ab_GG G) : ab_KS l G 157 (47) finI 97 (kc_M_all_97 (M_all_J97)) := by
  intro L st σ res h
  unfold kc_M_all_97 at h
  split at h
  · split at h
    · rename_i hb
      simp only [Bool.and_eq_true, Nat.beq_eq] at hb
      obtain ⟨hb1, hb2⟩ := hb
      subst hb1
      subst hb2
      exact ab_ev_sound (tab := tab_M_all) (Os := [(65, cp_M_in), (134, cp_M_hoursOf), (156, cp_M_apart)]) (Ks := []) (fin := finI) hG (by omega) rfl (List.forall_mem_cons.mpr ⟨⟨1, by omega, cs_M_in hG⟩, (List.forall_mem_cons.mpr ⟨⟨46, by omega, cs_M_hoursOf hG⟩, (List.forall_mem_cons.mpr ⟨⟨1, by omega, cs_M_apart hG⟩, (fun _ h => absurd h List.not_mem_nil)⟩)⟩)⟩) (fun _ h => absurd h List.not_mem_nil) tb_M_all 300 (ab_row tab_M_all 97) 97 _ _ σ res (ab_row_bk tb_M_all 97) ((e_M_all_J97  _ _ _ _ _).trans h)
    · cases h
  · cases h
theorem lc_M_all_J75 {l : Launch} {G : ab_Gt} (hG : ab_GG G) : ab_KS l G 157 (47) finI 75 (kc_M_all_75 (M_all_J75)) := by
  intro L st σ res h
  unfold kc_M_all_75 at h
  split at h
  · split at h
    · rename_i hb
      simp only [Bool.and_eq_true, Nat.beq_eq] at hb
      obtain ⟨hb1, hb2⟩ := hb
      subst hb1
      subst hb2
      exact ab_ev_sound (tab := tab_M_all) (Os := [(65, cp_M_in), (134, cp_M_hoursOf), (156, cp_M_apart)]) (Ks := [(97, kc_M_all_97 (M_all_J97))]) (fin := finI) hG (by omega) rfl (List.forall_mem_cons.mpr ⟨⟨1, by omega, cs_M_in hG⟩, (List.forall_mem_cons.mpr ⟨⟨46, by omega, cs_M_hoursOf hG⟩, (List.forall_mem_cons.mpr ⟨⟨1, by omega, cs_M_apart hG⟩, (fun _ h => absurd h List.not_mem_nil)⟩)⟩)⟩) (List.forall_mem_cons.mpr ⟨lc_M_all_J97 hG, (fun _ h => absurd h List.not_mem_nil)⟩) tb_M_all 300 (ab_row tab_M_all 75) 75 _ _ σ res (ab_row_bk tb_M_all 75) ((e_M_all_J75  _ _ _ _ _).trans h)
    · cases h
  · cases h
theorem lc_M_all_J55 {l : Launch} {G : ab_Gt} (hG : ab_GG G) : ab_KS l G 157 (47) finI 55 (kc_M_all_55 (M_all_J55)) := by
  intro L st σ res h
  unfold kc_M_all_55 at h
  split at h
  · split at h
    · rename_i hb
      simp only [Bool.and_eq_true, Nat.beq_eq] at hb
      obtain ⟨hb1, hb2⟩ := hb
      subst hb1
      subst hb2
      exact ab_ev_sound (tab := tab_M_all) (Os := [(65, cp_M_in), (134, cp_M_hoursOf), (156, cp_M_apart)]) (Ks := [(75, kc_M_all_75 (M_all_J75))]) (fin := finI) hG (by omega) rfl (List.forall_mem_cons.mpr ⟨⟨1, by omega, cs_M_in hG⟩, (List.forall_mem_cons.mpr ⟨⟨46, by omega, cs_M_hoursOf hG⟩, (List.forall_mem_cons.mpr ⟨⟨1, by omega, cs_M_apart hG⟩, (fun _ h => absurd h List.not_mem_nil)⟩)⟩)⟩) (List.forall_mem_cons.mpr ⟨lc_M_all_J75 hG, (fun _ h => absurd h List.not_mem_nil)⟩) tb_M_all 300 (ab_row tab_M_all 55) 55 _ _ σ res (ab_row_bk tb_M_all 55) ((e_M_all_J55  _ _ _ _).trans h)
    · cases h
  · cases h
theorem lc_M_all_L19 {l : Launch} {G : ab_Gt} (hG : ab_GG G) : ∀ n : Nat, ab_KS l G 157 (47) finI 19 (kc_M_all_19 (M_all_L19 n)) := by
  intro n
  induction n with
  | zero =>
    intro L st σ res h
    unfold kc_M_all_19 at h
    split at h
    · split at h
      · rename_i hb
        simp only [Bool.and_eq_true, Nat.beq_eq] at hb
        obtain ⟨hb1, hb2⟩ := hb
        subst hb1
        subst hb2
        exact absurd (show none = some res from h) (fun h => by cases h)
      · cases h
    · cases h
  | succ n ih =>
    intro L st σ res h
    unfold kc_M_all_19 at h
    split at h
    · split at h
      · rename_i hb
        simp only [Bool.and_eq_true, Nat.beq_eq] at hb
        obtain ⟨hb1, hb2⟩ := hb
        subst hb1
        subst hb2
        exact ab_ev_sound (tab := tab_M_all) (Os := [(65, cp_M_in), (134, cp_M_hoursOf), (156, cp_M_apart)]) (Ks := [(19, kc_M_all_19 (M_all_L19 n)), (55, kc_M_all_55 (M_all_J55))]) (fin := finI) hG (by omega) rfl (List.forall_mem_cons.mpr ⟨⟨1, by omega, cs_M_in hG⟩, (List.forall_mem_cons.mpr ⟨⟨46, by omega, cs_M_hoursOf hG⟩, (List.forall_mem_cons.mpr ⟨⟨1, by omega, cs_M_apart hG⟩, (fun _ h => absurd h List.not_mem_nil)⟩)⟩)⟩) (List.forall_mem_cons.mpr ⟨ih, (List.forall_mem_cons.mpr ⟨lc_M_all_J55 hG, (fun _ h => absurd h List.not_mem_nil)⟩)⟩) tb_M_all 300 (ab_row tab_M_all 19) 19 _ _ σ res (ab_row_bk tb_M_all 19) ((e_M_all_L19  _ _ _ _ _).trans h)
      · cases h
    · cases h
theorem lk_M_all {l : Launch} {G : ab_Gt} (hG : ab_GG G) {p1 : Int32} {r : Int32} {σ σ' : Sg} (h : M_all p1 σ = some (r, σ')) : ab_CO l G 157 (47) [(vR 30 0), (.inl p1)] σ (vI r) σ' := by
  obtain ⟨r0, σ2, hR, hf⟩ := ab_ev_sound (tab := tab_M_all) (Os := [(65, cp_M_in), (134, cp_M_hoursOf), (156, cp_M_apart)]) (Ks := [(19, kc_M_all_19 (M_all_L19 FU))]) (fin := finI) hG (d := 47) (by omega) rfl (List.forall_mem_cons.mpr ⟨⟨1, by omega, cs_M_in hG⟩, (List.forall_mem_cons.mpr ⟨⟨46, by omega, cs_M_hoursOf hG⟩, (List.forall_mem_cons.mpr ⟨⟨1, by omega, cs_M_apart hG⟩, (fun _ h => absurd h List.not_mem_nil)⟩)⟩)⟩) (List.forall_mem_cons.mpr ⟨lc_M_all_L19 hG FU, (fun _ h => absurd h List.not_mem_nil)⟩) tb_M_all 300 (ab_row tab_M_all 0) 0 (ab_ini (ab_ml 157) [(vR 30 0), (.inl p1)]) [] σ (r, σ') (ab_row_bk tb_M_all 0) ((e_M_all _ _).trans h)
  obtain ⟨rfl, rfl⟩ := finI_inv hf
  exact ab_met (by decide) rfl (Nat.le_of_ble_eq_true rfl) hR
theorem cs_M_all {l : Launch} {G : ab_Gt} (hG : ab_GG G) {R : Type} : ab_CS (R := R) l G 157 (47) cp_M_all := by
  intro as σ k res h
  unfold cp_M_all at h
  split at h
  · split at h
    · rename_i hb
      simp only [Bool.and_eq_true, Nat.beq_eq] at hb
      obtain ⟨hb1, hb2⟩ := hb
      subst hb1
      subst hb2
      obtain ⟨q, hq, hk⟩ := Option.bind_eq_some_iff.mp h
      exact ⟨_, _, lk_M_all hG hq, rfl, (fun _ => Or.inl ⟨rfl, rfl⟩), hk⟩
    · cases h
  · cases h
theorem tb_M_lowest : ∀ q ∈ tab_M_lowest, ab_bk (ab_mo 158) (ab_mb 158) (ab_ml 158) 2 q.1 q.2 = true := List.all_eq_true.mp (by decide +kernel)
theorem lc_M_lowest_L6 {l : Launch} {G : ab_Gt} (hG : ab_GG G) : ∀ n : Nat, ab_KS l G 158 (1) finL 6 (kc_M_lowest_6 (M_lowest_L6 n)) := by
  intro n
  induction n with
  | zero =>
    intro L st σ res h
    unfold kc_M_lowest_6 at h
    split at h
    · exact absurd (show none = some res from h) (fun h => by cases h)
    · cases h
  | succ n ih =>
    intro L st σ res h
    unfold kc_M_lowest_6 at h
    split at h
    · exact ab_ev_sound (tab := tab_M_lowest) (Os := []) (Ks := [(6, kc_M_lowest_6 (M_lowest_L6 n))]) (fin := finL) hG (by omega) rfl (fun _ h => absurd h List.not_mem_nil) (List.forall_mem_cons.mpr ⟨ih, (fun _ h => absurd h List.not_mem_nil)⟩) tb_M_lowest 300 (ab_row tab_M_lowest 6) 6 _ _ σ res (ab_row_bk tb_M_lowest 6) ((e_M_lowest_L6  _ _ _ _ _ _ _ _ _ _ _ _ _).trans h)
    · cases h
theorem lk_M_lowest {l : Launch} {G : ab_Gt} (hG : ab_GG G) {p0 : Int64} {p1 : Int64} {p2 : Int32} {r : Int64} {σ σ' : Sg} (h : M_lowest p0 p1 p2 σ = some (r, σ')) : ab_CO l G 158 (1) [(.inr (.inl p0)), (.inr (.inl p1)), (.inl p2)] σ (vL r) σ' := by
  obtain ⟨r0, σ2, hR, hf⟩ := ab_ev_sound (tab := tab_M_lowest) (Os := []) (Ks := [(6, kc_M_lowest_6 (M_lowest_L6 FU))]) (fin := finL) hG (d := 1) (by omega) rfl (fun _ h => absurd h List.not_mem_nil) (List.forall_mem_cons.mpr ⟨lc_M_lowest_L6 hG FU, (fun _ h => absurd h List.not_mem_nil)⟩) tb_M_lowest 300 (ab_row tab_M_lowest 0) 0 (ab_ini (ab_ml 158) [(.inr (.inl p0)), (.inr (.inl p1)), (.inl p2)]) [] σ (r, σ') (ab_row_bk tb_M_lowest 0) ((e_M_lowest _ _ _ _).trans h)
  obtain ⟨rfl, rfl⟩ := finL_inv hf
  exact ab_met (by decide) rfl (Nat.le_of_ble_eq_true rfl) hR
theorem cs_M_lowest {l : Launch} {G : ab_Gt} (hG : ab_GG G) {R : Type} : ab_CS (R := R) l G 158 (1) cp_M_lowest := by
  intro as σ k res h
  unfold cp_M_lowest at h
  split at h
  · obtain ⟨q, hq, hk⟩ := Option.bind_eq_some_iff.mp h
    exact ⟨_, _, lk_M_lowest hG hq, rfl, (fun h => by cases h), hk⟩
  · cases h
theorem tb_M_mean : ∀ q ∈ tab_M_mean, ab_bk (ab_mo 159) (ab_mb 159) (ab_ml 159) 2 q.1 q.2 = true := List.all_eq_true.mp (by decide +kernel)
theorem lc_M_mean_L26 {l : Launch} {G : ab_Gt} (hG : ab_GG G) : ∀ n : Nat, ab_KS l G 159 (3) finL 26 (kc_M_mean_26 (M_mean_L26 n)) := by
  intro n
  induction n with
  | zero =>
    intro L st σ res h
    unfold kc_M_mean_26 at h
    split at h
    · split at h
      · rename_i hb
        simp only [Bool.and_eq_true, Nat.beq_eq] at hb
        obtain ⟨hb1, hb2⟩ := hb
        subst hb1
        subst hb2
        exact absurd (show none = some res from h) (fun h => by cases h)
      · cases h
    · cases h
  | succ n ih =>
    intro L st σ res h
    unfold kc_M_mean_26 at h
    split at h
    · split at h
      · rename_i hb
        simp only [Bool.and_eq_true, Nat.beq_eq] at hb
        obtain ⟨hb1, hb2⟩ := hb
        subst hb1
        subst hb2
        exact ab_ev_sound (tab := tab_M_mean) (Os := [(65, cp_M_in), (69, cp_M_isOne), (158, cp_M_lowest)]) (Ks := [(26, kc_M_mean_26 (M_mean_L26 n))]) (fin := finL) hG (by omega) rfl (List.forall_mem_cons.mpr ⟨⟨1, by omega, cs_M_in hG⟩, (List.forall_mem_cons.mpr ⟨⟨2, by omega, cs_M_isOne hG⟩, (List.forall_mem_cons.mpr ⟨⟨1, by omega, cs_M_lowest hG⟩, (fun _ h => absurd h List.not_mem_nil)⟩)⟩)⟩) (List.forall_mem_cons.mpr ⟨ih, (fun _ h => absurd h List.not_mem_nil)⟩) tb_M_mean 300 (ab_row tab_M_mean 26) 26 _ _ σ res (ab_row_bk tb_M_mean 26) ((e_M_mean_L26  _ _ _ _ _ _).trans h)
      · cases h
    · cases h
theorem lk_M_mean {l : Launch} {G : ab_Gt} (hG : ab_GG G) {p1 : Int32} {p2 : Int32} {r : Int64} {σ σ' : Sg} (h : M_mean p1 p2 σ = some (r, σ')) : ab_CO l G 159 (3) [(vR 30 0), (.inl p1), (.inl p2)] σ (vL r) σ' := by
  obtain ⟨r0, σ2, hR, hf⟩ := ab_ev_sound (tab := tab_M_mean) (Os := [(65, cp_M_in), (69, cp_M_isOne), (158, cp_M_lowest)]) (Ks := [(26, kc_M_mean_26 (M_mean_L26 FU))]) (fin := finL) hG (d := 3) (by omega) rfl (List.forall_mem_cons.mpr ⟨⟨1, by omega, cs_M_in hG⟩, (List.forall_mem_cons.mpr ⟨⟨2, by omega, cs_M_isOne hG⟩, (List.forall_mem_cons.mpr ⟨⟨1, by omega, cs_M_lowest hG⟩, (fun _ h => absurd h List.not_mem_nil)⟩)⟩)⟩) (List.forall_mem_cons.mpr ⟨lc_M_mean_L26 hG FU, (fun _ h => absurd h List.not_mem_nil)⟩) tb_M_mean 300 (ab_row tab_M_mean 0) 0 (ab_ini (ab_ml 159) [(vR 30 0), (.inl p1), (.inl p2)]) [] σ (r, σ') (ab_row_bk tb_M_mean 0) ((e_M_mean _ _ _).trans h)
  obtain ⟨rfl, rfl⟩ := finL_inv hf
  exact ab_met (by decide) rfl (Nat.le_of_ble_eq_true rfl) hR
theorem cs_M_mean {l : Launch} {G : ab_Gt} (hG : ab_GG G) {R : Type} : ab_CS (R := R) l G 159 (3) cp_M_mean := by
  intro as σ k res h
  unfold cp_M_mean at h
  split at h
  · split at h
    · rename_i hb
      simp only [Bool.and_eq_true, Nat.beq_eq] at hb
      obtain ⟨hb1, hb2⟩ := hb
      subst hb1
      subst hb2
      obtain ⟨q, hq, hk⟩ := Option.bind_eq_some_iff.mp h
      exact ⟨_, _, lk_M_mean hG hq, rfl, (fun _ => Or.inl ⟨rfl, rfl⟩), hk⟩
    · cases h
  · cases h
theorem tb_M_firstOther : ∀ q ∈ tab_M_firstOther, ab_bk (ab_mo 160) (ab_mb 160) (ab_ml 160) 1 q.1 q.2 = true := List.all_eq_true.mp (by decide +kernel)
theorem lc_M_firstOther_J30 {l : Launch} {G : ab_Gt} (hG : ab_GG G) {k3 : Int32 → Int32 → Int32 → Int32 → Sg → Option (Int32 × Sg)} (h3 : ab_KS l G 160 (45) finI 3 (kc_M_firstOther_3 k3)) : ab_KS l G 160 (45) finI 30 (kc_M_firstOther_30 (M_firstOther_J30 k3)) := by
  intro L st σ res h
  unfold kc_M_firstOther_30 at h
  split at h
  · split at h
    · rename_i hb
      simp only [Bool.and_eq_true, Nat.beq_eq] at hb
      obtain ⟨hb1, hb2⟩ := hb
      subst hb1
      subst hb2
      exact ab_ev_sound (tab := tab_M_firstOther) (Os := [(128, cp_M_fits)]) (Ks := [(3, kc_M_firstOther_3 k3)]) (fin := finI) hG (by omega) rfl (List.forall_mem_cons.mpr ⟨⟨44, by omega, cs_M_fits hG⟩, (fun _ h => absurd h List.not_mem_nil)⟩) (List.forall_mem_cons.mpr ⟨h3, (fun _ h => absurd h List.not_mem_nil)⟩) tb_M_firstOther 300 (ab_row tab_M_firstOther 30) 30 _ _ σ res (ab_row_bk tb_M_firstOther 30) ((e_M_firstOther_J30 _ _ _ _ _ _ _).trans h)
    · cases h
  · cases h
theorem lc_M_firstOther_L3 {l : Launch} {G : ab_Gt} (hG : ab_GG G) : ∀ n : Nat, ab_KS l G 160 (45) finI 3 (kc_M_firstOther_3 (M_firstOther_L3 n)) := by
  intro n
  induction n with
  | zero =>
    intro L st σ res h
    unfold kc_M_firstOther_3 at h
    split at h
    · split at h
      · rename_i hb
        simp only [Bool.and_eq_true, Nat.beq_eq] at hb
        obtain ⟨hb1, hb2⟩ := hb
        subst hb1
        subst hb2
        exact absurd (show none = some res from h) (fun h => by cases h)
      · cases h
    · cases h
  | succ n ih =>
    intro L st σ res h
    unfold kc_M_firstOther_3 at h
    split at h
    · split at h
      · rename_i hb
        simp only [Bool.and_eq_true, Nat.beq_eq] at hb
        obtain ⟨hb1, hb2⟩ := hb
        subst hb1
        subst hb2
        exact ab_ev_sound (tab := tab_M_firstOther) (Os := [(128, cp_M_fits)]) (Ks := [(30, kc_M_firstOther_30 (M_firstOther_J30 (fun y0 y1 y2 y3 τ => M_firstOther_L3 n y0 y1 y2 y3 τ)))]) (fin := finI) hG (by omega) rfl (List.forall_mem_cons.mpr ⟨⟨44, by omega, cs_M_fits hG⟩, (fun _ h => absurd h List.not_mem_nil)⟩) (List.forall_mem_cons.mpr ⟨lc_M_firstOther_J30 hG ih, (fun _ h => absurd h List.not_mem_nil)⟩) tb_M_firstOther 300 (ab_row tab_M_firstOther 3) 3 _ _ σ res (ab_row_bk tb_M_firstOther 3) ((e_M_firstOther_L3  _ _ _ _ _ _).trans h)
      · cases h
    · cases h
theorem lk_M_firstOther {l : Launch} {G : ab_Gt} (hG : ab_GG G) {p1 : Int32} {p2 : Int32} {p3 : Int32} {r : Int32} {σ σ' : Sg} (h : M_firstOther p1 p2 p3 σ = some (r, σ')) : ab_CO l G 160 (45) [(vR 30 0), (.inl p1), (.inl p2), (.inl p3)] σ (vI r) σ' := by
  obtain ⟨r0, σ2, hR, hf⟩ := ab_ev_sound (tab := tab_M_firstOther) (Os := [(128, cp_M_fits)]) (Ks := [(3, kc_M_firstOther_3 (M_firstOther_L3 FU))]) (fin := finI) hG (d := 45) (by omega) rfl (List.forall_mem_cons.mpr ⟨⟨44, by omega, cs_M_fits hG⟩, (fun _ h => absurd h List.not_mem_nil)⟩) (List.forall_mem_cons.mpr ⟨lc_M_firstOther_L3 hG FU, (fun _ h => absurd h List.not_mem_nil)⟩) tb_M_firstOther 300 (ab_row tab_M_firstOther 0) 0 (ab_ini (ab_ml 160) [(vR 30 0), (.inl p1), (.inl p2), (.inl p3)]) [] σ (r, σ') (ab_row_bk tb_M_firstOther 0) ((e_M_firstOther _ _ _ _).trans h)
  obtain ⟨rfl, rfl⟩ := finI_inv hf
  exact ab_met (by decide) rfl (Nat.le_of_ble_eq_true rfl) hR
theorem cs_M_firstOther {l : Launch} {G : ab_Gt} (hG : ab_GG G) {R : Type} : ab_CS (R := R) l G 160 (45) cp_M_firstOther := by
  intro as σ k res h
  unfold cp_M_firstOther at h
  split at h
  · split at h
    · rename_i hb
      simp only [Bool.and_eq_true, Nat.beq_eq] at hb
      obtain ⟨hb1, hb2⟩ := hb
      subst hb1
      subst hb2
      obtain ⟨q, hq, hk⟩ := Option.bind_eq_some_iff.mp h
      exact ⟨_, _, lk_M_firstOther hG hq, rfl, (fun _ => Or.inl ⟨rfl, rfl⟩), hk⟩
    · cases h
  · cases h
theorem tb_M_hourSet : ∀ q ∈ tab_M_hourSet, ab_bk (ab_mo 161) (ab_mb 161) (ab_ml 161) 1 q.1 q.2 = true := List.all_eq_true.mp (by decide +kernel)
theorem lc_M_hourSet_L5 {l : Launch} {G : ab_Gt} (hG : ab_GG G) : ∀ n : Nat, ab_KS l G 161 (46) finI 5 (kc_M_hourSet_5 (M_hourSet_L5 n)) := by
  intro n
  induction n with
  | zero =>
    intro L st σ res h
    unfold kc_M_hourSet_5 at h
    split at h
    · split at h
      · rename_i hb
        simp only [Bool.and_eq_true, Nat.beq_eq] at hb
        obtain ⟨hb1, hb2⟩ := hb
        subst hb1
        subst hb2
        exact absurd (show none = some res from h) (fun h => by cases h)
      · cases h
    · cases h
  | succ n ih =>
    intro L st σ res h
    unfold kc_M_hourSet_5 at h
    split at h
    · split at h
      · rename_i hb
        simp only [Bool.and_eq_true, Nat.beq_eq] at hb
        obtain ⟨hb1, hb2⟩ := hb
        subst hb1
        subst hb2
        exact ab_ev_sound (tab := tab_M_hourSet) (Os := [(160, cp_M_firstOther)]) (Ks := [(5, kc_M_hourSet_5 (M_hourSet_L5 n))]) (fin := finI) hG (by omega) rfl (List.forall_mem_cons.mpr ⟨⟨45, by omega, cs_M_firstOther hG⟩, (fun _ h => absurd h List.not_mem_nil)⟩) (List.forall_mem_cons.mpr ⟨ih, (fun _ h => absurd h List.not_mem_nil)⟩) tb_M_hourSet 300 (ab_row tab_M_hourSet 5) 5 _ _ σ res (ab_row_bk tb_M_hourSet 5) ((e_M_hourSet_L5  _ _ _ _ _ _).trans h)
      · cases h
    · cases h
theorem lk_M_hourSet {l : Launch} {G : ab_Gt} (hG : ab_GG G) {p1 : Int32} {p2 : Int32} {r : Int32} {σ σ' : Sg} (h : M_hourSet p1 p2 σ = some (r, σ')) : ab_CO l G 161 (46) [(vR 30 0), (.inl p1), (.inl p2)] σ (vI r) σ' := by
  obtain ⟨r0, σ2, hR, hf⟩ := ab_ev_sound (tab := tab_M_hourSet) (Os := [(160, cp_M_firstOther)]) (Ks := [(5, kc_M_hourSet_5 (M_hourSet_L5 FU))]) (fin := finI) hG (d := 46) (by omega) rfl (List.forall_mem_cons.mpr ⟨⟨45, by omega, cs_M_firstOther hG⟩, (fun _ h => absurd h List.not_mem_nil)⟩) (List.forall_mem_cons.mpr ⟨lc_M_hourSet_L5 hG FU, (fun _ h => absurd h List.not_mem_nil)⟩) tb_M_hourSet 300 (ab_row tab_M_hourSet 0) 0 (ab_ini (ab_ml 161) [(vR 30 0), (.inl p1), (.inl p2)]) [] σ (r, σ') (ab_row_bk tb_M_hourSet 0) ((e_M_hourSet _ _ _).trans h)
  obtain ⟨rfl, rfl⟩ := finI_inv hf
  exact ab_met (by decide) rfl (Nat.le_of_ble_eq_true rfl) hR
theorem cs_M_hourSet {l : Launch} {G : ab_Gt} (hG : ab_GG G) {R : Type} : ab_CS (R := R) l G 161 (46) cp_M_hourSet := by
  intro as σ k res h
  unfold cp_M_hourSet at h
  split at h
  · split at h
    · rename_i hb
      simp only [Bool.and_eq_true, Nat.beq_eq] at hb
      obtain ⟨hb1, hb2⟩ := hb
      subst hb1
      subst hb2
      obtain ⟨q, hq, hk⟩ := Option.bind_eq_some_iff.mp h
      exact ⟨_, _, lk_M_hourSet hG hq, rfl, (fun _ => Or.inl ⟨rfl, rfl⟩), hk⟩
    · cases h
  · cases h
theorem tb_M_tells : ∀ q ∈ tab_M_tells, ab_bk (ab_mo 162) (ab_mb 162) (ab_ml 162) 1 q.1 q.2 = true := List.all_eq_true.mp (by decide +kernel)
theorem lc_M_tells_L203 {l : Launch} {G : ab_Gt} (hG : ab_GG G) : ∀ n : Nat, ab_KS l G 162 (48) finI 203 (kc_M_tells_203 (M_tells_L203 n)) := by
  intro n
  induction n with
  | zero =>
    intro L st σ res h
    unfold kc_M_tells_203 at h
    split at h
    · split at h
      · rename_i hb
        simp only [Bool.and_eq_true, Nat.beq_eq] at hb
        obtain ⟨hb1, hb2⟩ := hb
        subst hb1
        subst hb2
        exact absurd (show none = some res from h) (fun h => by cases h)
      · cases h
    · cases h
  | succ n ih =>
    intro L st σ res h
    unfold kc_M_tells_203 at h
    split at h
    · split at h
      · rename_i hb
        simp only [Bool.and_eq_true, Nat.beq_eq] at hb
        obtain ⟨hb1, hb2⟩ := hb
        subst hb1
        subst hb2
        exact ab_ev_sound (tab := tab_M_tells) (Os := [(65, cp_M_in), (67, cp_M_isCoat), (68, cp_M_isHour), (74, cp_M_lays), (76, cp_M_told), (160, cp_M_firstOther), (161, cp_M_hourSet), (170, cp_M_isSheet)]) (Ks := [(203, kc_M_tells_203 (M_tells_L203 n))]) (fin := finI) hG (by omega) rfl (List.forall_mem_cons.mpr ⟨⟨1, by omega, cs_M_in hG⟩, (List.forall_mem_cons.mpr ⟨⟨2, by omega, cs_M_isCoat hG⟩, (List.forall_mem_cons.mpr ⟨⟨2, by omega, cs_M_isHour hG⟩, (List.forall_mem_cons.mpr ⟨⟨2, by omega, cs_M_lays hG⟩, (List.forall_mem_cons.mpr ⟨⟨47, by omega, cs_M_told hG⟩, (List.forall_mem_cons.mpr ⟨⟨45, by omega, cs_M_firstOther hG⟩, (List.forall_mem_cons.mpr ⟨⟨46, by omega, cs_M_hourSet hG⟩, (List.forall_mem_cons.mpr ⟨⟨2, by omega, cs_M_isSheet hG⟩, (fun _ h => absurd h List.not_mem_nil)⟩)⟩)⟩)⟩)⟩)⟩)⟩)⟩) (List.forall_mem_cons.mpr ⟨ih, (fun _ h => absurd h List.not_mem_nil)⟩) tb_M_tells 300 (ab_row tab_M_tells 203) 203 _ _ σ res (ab_row_bk tb_M_tells 203) ((e_M_tells_L203  _ _ _ _ _ _ _ _ _ _ _ _ _).trans h)
      · cases h
    · cases h
theorem lc_M_tells_J148 {l : Launch} {G : ab_Gt} (hG : ab_GG G) : ab_KS l G 162 (48) finI 148 (kc_M_tells_148 (M_tells_J148)) := by
  intro L st σ res h
  unfold kc_M_tells_148 at h
  split at h
  · split at h
    · rename_i hb
      simp only [Bool.and_eq_true, Nat.beq_eq] at hb
      obtain ⟨hb1, hb2⟩ := hb
      subst hb1
      subst hb2
      exact ab_ev_sound (tab := tab_M_tells) (Os := [(65, cp_M_in), (67, cp_M_isCoat), (68, cp_M_isHour), (74, cp_M_lays), (76, cp_M_told), (160, cp_M_firstOther), (161, cp_M_hourSet), (170, cp_M_isSheet)]) (Ks := [(203, kc_M_tells_203 (M_tells_L203 FU))]) (fin := finI) hG (by omega) rfl (List.forall_mem_cons.mpr ⟨⟨1, by omega, cs_M_in hG⟩, (List.forall_mem_cons.mpr ⟨⟨2, by omega, cs_M_isCoat hG⟩, (List.forall_mem_cons.mpr ⟨⟨2, by omega, cs_M_isHour hG⟩, (List.forall_mem_cons.mpr ⟨⟨2, by omega, cs_M_lays hG⟩, (List.forall_mem_cons.mpr ⟨⟨47, by omega, cs_M_told hG⟩, (List.forall_mem_cons.mpr ⟨⟨45, by omega, cs_M_firstOther hG⟩, (List.forall_mem_cons.mpr ⟨⟨46, by omega, cs_M_hourSet hG⟩, (List.forall_mem_cons.mpr ⟨⟨2, by omega, cs_M_isSheet hG⟩, (fun _ h => absurd h List.not_mem_nil)⟩)⟩)⟩)⟩)⟩)⟩)⟩)⟩) (List.forall_mem_cons.mpr ⟨lc_M_tells_L203 hG FU, (fun _ h => absurd h List.not_mem_nil)⟩) tb_M_tells 300 (ab_row tab_M_tells 148) 148 _ _ σ res (ab_row_bk tb_M_tells 148) ((e_M_tells_J148  _ _ _ _ _ _ _ _ _ _ _ _ _).trans h)
    · cases h
  · cases h
theorem lc_M_tells_J126 {l : Launch} {G : ab_Gt} (hG : ab_GG G) : ab_KS l G 162 (48) finI 126 (kc_M_tells_126 (M_tells_J126)) := by
  intro L st σ res h
  unfold kc_M_tells_126 at h
  split at h
  · split at h
    · rename_i hb
      simp only [Bool.and_eq_true, Nat.beq_eq] at hb
      obtain ⟨hb1, hb2⟩ := hb
      subst hb1
      subst hb2
      exact ab_ev_sound (tab := tab_M_tells) (Os := [(65, cp_M_in), (67, cp_M_isCoat), (68, cp_M_isHour), (74, cp_M_lays), (76, cp_M_told), (160, cp_M_firstOther), (161, cp_M_hourSet), (170, cp_M_isSheet)]) (Ks := [(148, kc_M_tells_148 (M_tells_J148))]) (fin := finI) hG (by omega) rfl (List.forall_mem_cons.mpr ⟨⟨1, by omega, cs_M_in hG⟩, (List.forall_mem_cons.mpr ⟨⟨2, by omega, cs_M_isCoat hG⟩, (List.forall_mem_cons.mpr ⟨⟨2, by omega, cs_M_isHour hG⟩, (List.forall_mem_cons.mpr ⟨⟨2, by omega, cs_M_lays hG⟩, (List.forall_mem_cons.mpr ⟨⟨47, by omega, cs_M_told hG⟩, (List.forall_mem_cons.mpr ⟨⟨45, by omega, cs_M_firstOther hG⟩, (List.forall_mem_cons.mpr ⟨⟨46, by omega, cs_M_hourSet hG⟩, (List.forall_mem_cons.mpr ⟨⟨2, by omega, cs_M_isSheet hG⟩, (fun _ h => absurd h List.not_mem_nil)⟩)⟩)⟩)⟩)⟩)⟩)⟩)⟩) (List.forall_mem_cons.mpr ⟨lc_M_tells_J148 hG, (fun _ h => absurd h List.not_mem_nil)⟩) tb_M_tells 300 (ab_row tab_M_tells 126) 126 _ _ σ res (ab_row_bk tb_M_tells 126) ((e_M_tells_J126  _ _ _ _ _ _ _ _ _ _ _ _ _).trans h)
    · cases h
  · cases h
theorem lc_M_tells_J84 {l : Launch} {G : ab_Gt} (hG : ab_GG G) : ab_KS l G 162 (48) finI 84 (kc_M_tells_84 (M_tells_J84)) := by
  intro L st σ res h
  unfold kc_M_tells_84 at h
  split at h
  · split at h
    · rename_i hb
      simp only [Bool.and_eq_true, Nat.beq_eq] at hb
      obtain ⟨hb1, hb2⟩ := hb
      subst hb1
      subst hb2
      exact ab_ev_sound (tab := tab_M_tells) (Os := [(65, cp_M_in), (67, cp_M_isCoat), (68, cp_M_isHour), (74, cp_M_lays), (76, cp_M_told), (160, cp_M_firstOther), (161, cp_M_hourSet), (170, cp_M_isSheet)]) (Ks := [(126, kc_M_tells_126 (M_tells_J126))]) (fin := finI) hG (by omega) rfl (List.forall_mem_cons.mpr ⟨⟨1, by omega, cs_M_in hG⟩, (List.forall_mem_cons.mpr ⟨⟨2, by omega, cs_M_isCoat hG⟩, (List.forall_mem_cons.mpr ⟨⟨2, by omega, cs_M_isHour hG⟩, (List.forall_mem_cons.mpr ⟨⟨2, by omega, cs_M_lays hG⟩, (List.forall_mem_cons.mpr ⟨⟨47, by omega, cs_M_told hG⟩, (List.forall_mem_cons.mpr ⟨⟨45, by omega, cs_M_firstOther hG⟩, (List.forall_mem_cons.mpr ⟨⟨46, by omega, cs_M_hourSet hG⟩, (List.forall_mem_cons.mpr ⟨⟨2, by omega, cs_M_isSheet hG⟩, (fun _ h => absurd h List.not_mem_nil)⟩)⟩)⟩)⟩)⟩)⟩)⟩)⟩) (List.forall_mem_cons.mpr ⟨lc_M_tells_J126 hG, (fun _ h => absurd h List.not_mem_nil)⟩) tb_M_tells 300 (ab_row tab_M_tells 84) 84 _ _ σ res (ab_row_bk tb_M_tells 84) ((e_M_tells_J84  _ _ _ _ _ _ _ _ _ _ _ _).trans h)
    · cases h
  · cases h
theorem lc_M_tells_J62 {l : Launch} {G : ab_Gt} (hG : ab_GG G) : ab_KS l G 162 (48) finI 62 (kc_M_tells_62 (M_tells_J62)) := by
  intro L st σ res h
  unfold kc_M_tells_62 at h
  split at h
  · split at h
    · rename_i hb
      simp only [Bool.and_eq_true, Nat.beq_eq] at hb
      obtain ⟨hb1, hb2⟩ := hb
      subst hb1
      subst hb2
      exact ab_ev_sound (tab := tab_M_tells) (Os := [(65, cp_M_in), (67, cp_M_isCoat), (68, cp_M_isHour), (74, cp_M_lays), (76, cp_M_told), (160, cp_M_firstOther), (161, cp_M_hourSet), (170, cp_M_isSheet)]) (Ks := []) (fin := finI) hG (by omega) rfl (List.forall_mem_cons.mpr ⟨⟨1, by omega, cs_M_in hG⟩, (List.forall_mem_cons.mpr ⟨⟨2, by omega, cs_M_isCoat hG⟩, (List.forall_mem_cons.mpr ⟨⟨2, by omega, cs_M_isHour hG⟩, (List.forall_mem_cons.mpr ⟨⟨2, by omega, cs_M_lays hG⟩, (List.forall_mem_cons.mpr ⟨⟨47, by omega, cs_M_told hG⟩, (List.forall_mem_cons.mpr ⟨⟨45, by omega, cs_M_firstOther hG⟩, (List.forall_mem_cons.mpr ⟨⟨46, by omega, cs_M_hourSet hG⟩, (List.forall_mem_cons.mpr ⟨⟨2, by omega, cs_M_isSheet hG⟩, (fun _ h => absurd h List.not_mem_nil)⟩)⟩)⟩)⟩)⟩)⟩)⟩)⟩) (fun _ h => absurd h List.not_mem_nil) tb_M_tells 300 (ab_row tab_M_tells 62) 62 _ _ σ res (ab_row_bk tb_M_tells 62) ((e_M_tells_J62  _ _ _ _ _ _ _ _ _ _ _ _).trans h)
    · cases h
  · cases h
theorem lc_M_tells_J50 {l : Launch} {G : ab_Gt} (hG : ab_GG G) : ab_KS l G 162 (48) finI 50 (kc_M_tells_50 (M_tells_J50)) := by
  intro L st σ res h
  unfold kc_M_tells_50 at h
  split at h
  · split at h
    · rename_i hb
      simp only [Bool.and_eq_true, Nat.beq_eq] at hb
      obtain ⟨hb1, hb2⟩ := hb
      subst hb1
      subst hb2
      exact ab_ev_sound (tab := tab_M_tells) (Os := [(65, cp_M_in), (67, cp_M_isCoat), (68, cp_M_isHour), (74, cp_M_lays), (76, cp_M_told), (160, cp_M_firstOther), (161, cp_M_hourSet), (170, cp_M_isSheet)]) (Ks := [(62, kc_M_tells_62 (M_tells_J62)), (84, kc_M_tells_84 (M_tells_J84))]) (fin := finI) hG (by omega) rfl (List.forall_mem_cons.mpr ⟨⟨1, by omega, cs_M_in hG⟩, (List.forall_mem_cons.mpr ⟨⟨2, by omega, cs_M_isCoat hG⟩, (List.forall_mem_cons.mpr ⟨⟨2, by omega, cs_M_isHour hG⟩, (List.forall_mem_cons.mpr ⟨⟨2, by omega, cs_M_lays hG⟩, (List.forall_mem_cons.mpr ⟨⟨47, by omega, cs_M_told hG⟩, (List.forall_mem_cons.mpr ⟨⟨45, by omega, cs_M_firstOther hG⟩, (List.forall_mem_cons.mpr ⟨⟨46, by omega, cs_M_hourSet hG⟩, (List.forall_mem_cons.mpr ⟨⟨2, by omega, cs_M_isSheet hG⟩, (fun _ h => absurd h List.not_mem_nil)⟩)⟩)⟩)⟩)⟩)⟩)⟩)⟩) (List.forall_mem_cons.mpr ⟨lc_M_tells_J62 hG, (List.forall_mem_cons.mpr ⟨lc_M_tells_J84 hG, (fun _ h => absurd h List.not_mem_nil)⟩)⟩) tb_M_tells 300 (ab_row tab_M_tells 50) 50 _ _ σ res (ab_row_bk tb_M_tells 50) ((e_M_tells_J50  _ _ _ _ _ _ _ _ _ _ _ _).trans h)
    · cases h
  · cases h
theorem lk_M_tells {l : Launch} {G : ab_Gt} (hG : ab_GG G) {p1 : Int32} {p2 : Int32} {p3 : Int32} {p4 : Int32} {r : Int32} {σ σ' : Sg} (h : M_tells p1 p2 p3 p4 σ = some (r, σ')) : ab_CO l G 162 (48) [(vR 30 0), (.inl p1), (.inl p2), (.inl p3), (.inl p4)] σ (vI r) σ' := by
  obtain ⟨r0, σ2, hR, hf⟩ := ab_ev_sound (tab := tab_M_tells) (Os := [(65, cp_M_in), (67, cp_M_isCoat), (68, cp_M_isHour), (74, cp_M_lays), (76, cp_M_told), (160, cp_M_firstOther), (161, cp_M_hourSet), (170, cp_M_isSheet)]) (Ks := [(50, kc_M_tells_50 (M_tells_J50))]) (fin := finI) hG (d := 48) (by omega) rfl (List.forall_mem_cons.mpr ⟨⟨1, by omega, cs_M_in hG⟩, (List.forall_mem_cons.mpr ⟨⟨2, by omega, cs_M_isCoat hG⟩, (List.forall_mem_cons.mpr ⟨⟨2, by omega, cs_M_isHour hG⟩, (List.forall_mem_cons.mpr ⟨⟨2, by omega, cs_M_lays hG⟩, (List.forall_mem_cons.mpr ⟨⟨47, by omega, cs_M_told hG⟩, (List.forall_mem_cons.mpr ⟨⟨45, by omega, cs_M_firstOther hG⟩, (List.forall_mem_cons.mpr ⟨⟨46, by omega, cs_M_hourSet hG⟩, (List.forall_mem_cons.mpr ⟨⟨2, by omega, cs_M_isSheet hG⟩, (fun _ h => absurd h List.not_mem_nil)⟩)⟩)⟩)⟩)⟩)⟩)⟩)⟩) (List.forall_mem_cons.mpr ⟨lc_M_tells_J50 hG, (fun _ h => absurd h List.not_mem_nil)⟩) tb_M_tells 300 (ab_row tab_M_tells 0) 0 (ab_ini (ab_ml 162) [(vR 30 0), (.inl p1), (.inl p2), (.inl p3), (.inl p4)]) [] σ (r, σ') (ab_row_bk tb_M_tells 0) ((e_M_tells _ _ _ _ _).trans h)
  obtain ⟨rfl, rfl⟩ := finI_inv hf
  exact ab_met (by decide) rfl (Nat.le_of_ble_eq_true rfl) hR
theorem cs_M_tells {l : Launch} {G : ab_Gt} (hG : ab_GG G) {R : Type} : ab_CS (R := R) l G 162 (48) cp_M_tells := by
  intro as σ k res h
  unfold cp_M_tells at h
  split at h
  · split at h
    · rename_i hb
      simp only [Bool.and_eq_true, Nat.beq_eq] at hb
      obtain ⟨hb1, hb2⟩ := hb
      subst hb1
      subst hb2
      obtain ⟨q, hq, hk⟩ := Option.bind_eq_some_iff.mp h
      exact ⟨_, _, lk_M_tells hG hq, rfl, (fun _ => Or.inl ⟨rfl, rfl⟩), hk⟩
    · cases h
  · cases h
theorem tb_M_film : ∀ q ∈ tab_M_film, ab_bk (ab_mo 163) (ab_mb 163) (ab_ml 163) 1 q.1 q.2 = true := List.all_eq_true.mp (by decide +kernel)
theorem lc_M_film_J76 {l : Launch} {G : ab_Gt} (hG : ab_GG G) {k53 : Int32 → Int32 → Int32 → Int32 → Int32 → Int32 → Sg → Option (Int32 × Sg)} (h53 : ab_KS l G 163 (45) finI 53 (kc_M_film_53 k53)) : ab_KS l G 163 (45) finI 76 (kc_M_film_76 (M_film_J76 k53)) := by
  intro L st σ res h
  unfold kc_M_film_76 at h
  split at h
  · split at h
    · rename_i hb
      simp only [Bool.and_eq_true, Nat.beq_eq] at hb
      obtain ⟨hb1, hb2⟩ := hb
      subst hb1
      subst hb2
      exact ab_ev_sound (tab := tab_M_film) (Os := [(65, cp_M_in), (67, cp_M_isCoat), (68, cp_M_isHour), (128, cp_M_fits), (170, cp_M_isSheet), (171, cp_M_sheet)]) (Ks := [(53, kc_M_film_53 k53)]) (fin := finI) hG (by omega) rfl (List.forall_mem_cons.mpr ⟨⟨1, by omega, cs_M_in hG⟩, (List.forall_mem_cons.mpr ⟨⟨2, by omega, cs_M_isCoat hG⟩, (List.forall_mem_cons.mpr ⟨⟨2, by omega, cs_M_isHour hG⟩, (List.forall_mem_cons.mpr ⟨⟨44, by omega, cs_M_fits hG⟩, (List.forall_mem_cons.mpr ⟨⟨2, by omega, cs_M_isSheet hG⟩, (List.forall_mem_cons.mpr ⟨⟨3, by omega, cs_M_sheet hG⟩, (fun _ h => absurd h List.not_mem_nil)⟩)⟩)⟩)⟩)⟩)⟩) (List.forall_mem_cons.mpr ⟨h53, (fun _ h => absurd h List.not_mem_nil)⟩) tb_M_film 300 (ab_row tab_M_film 76) 76 _ _ σ res (ab_row_bk tb_M_film 76) ((e_M_film_J76 _ _ _ _ _ _ _ _ _ _).trans h)
    · cases h
  · cases h
theorem lc_M_film_L53 {l : Launch} {G : ab_Gt} (hG : ab_GG G) : ∀ n : Nat, ab_KS l G 163 (45) finI 53 (kc_M_film_53 (M_film_L53 n)) := by
  intro n
  induction n with
  | zero =>
    intro L st σ res h
    unfold kc_M_film_53 at h
    split at h
    · split at h
      · rename_i hb
        simp only [Bool.and_eq_true, Nat.beq_eq] at hb
        obtain ⟨hb1, hb2⟩ := hb
        subst hb1
        subst hb2
        exact absurd (show none = some res from h) (fun h => by cases h)
      · cases h
    · cases h
  | succ n ih =>
    intro L st σ res h
    unfold kc_M_film_53 at h
    split at h
    · split at h
      · rename_i hb
        simp only [Bool.and_eq_true, Nat.beq_eq] at hb
        obtain ⟨hb1, hb2⟩ := hb
        subst hb1
        subst hb2
        exact ab_ev_sound (tab := tab_M_film) (Os := [(65, cp_M_in), (67, cp_M_isCoat), (68, cp_M_isHour), (128, cp_M_fits), (170, cp_M_isSheet), (171, cp_M_sheet)]) (Ks := [(76, kc_M_film_76 (M_film_J76 (fun y0 y1 y2 y3 y4 y5 τ => M_film_L53 n y0 y1 y2 y3 y4 y5 τ)))]) (fin := finI) hG (by omega) rfl (List.forall_mem_cons.mpr ⟨⟨1, by omega, cs_M_in hG⟩, (List.forall_mem_cons.mpr ⟨⟨2, by omega, cs_M_isCoat hG⟩, (List.forall_mem_cons.mpr ⟨⟨2, by omega, cs_M_isHour hG⟩, (List.forall_mem_cons.mpr ⟨⟨44, by omega, cs_M_fits hG⟩, (List.forall_mem_cons.mpr ⟨⟨2, by omega, cs_M_isSheet hG⟩, (List.forall_mem_cons.mpr ⟨⟨3, by omega, cs_M_sheet hG⟩, (fun _ h => absurd h List.not_mem_nil)⟩)⟩)⟩)⟩)⟩)⟩) (List.forall_mem_cons.mpr ⟨lc_M_film_J76 hG ih, (fun _ h => absurd h List.not_mem_nil)⟩) tb_M_film 300 (ab_row tab_M_film 53) 53 _ _ σ res (ab_row_bk tb_M_film 53) ((e_M_film_L53  _ _ _ _ _ _ _ _ _).trans h)
      · cases h
    · cases h
theorem lk_M_film {l : Launch} {G : ab_Gt} (hG : ab_GG G) {p1 : Int32} {p2 : Int32} {p3 : Int32} {p4 : Int32} {r : Int32} {σ σ' : Sg} (h : M_film p1 p2 p3 p4 σ = some (r, σ')) : ab_CO l G 163 (45) [(vR 30 0), (.inl p1), (.inl p2), (.inl p3), (.inl p4)] σ (vI r) σ' := by
  obtain ⟨r0, σ2, hR, hf⟩ := ab_ev_sound (tab := tab_M_film) (Os := [(65, cp_M_in), (67, cp_M_isCoat), (68, cp_M_isHour), (128, cp_M_fits), (170, cp_M_isSheet), (171, cp_M_sheet)]) (Ks := [(53, kc_M_film_53 (M_film_L53 FU))]) (fin := finI) hG (d := 45) (by omega) rfl (List.forall_mem_cons.mpr ⟨⟨1, by omega, cs_M_in hG⟩, (List.forall_mem_cons.mpr ⟨⟨2, by omega, cs_M_isCoat hG⟩, (List.forall_mem_cons.mpr ⟨⟨2, by omega, cs_M_isHour hG⟩, (List.forall_mem_cons.mpr ⟨⟨44, by omega, cs_M_fits hG⟩, (List.forall_mem_cons.mpr ⟨⟨2, by omega, cs_M_isSheet hG⟩, (List.forall_mem_cons.mpr ⟨⟨3, by omega, cs_M_sheet hG⟩, (fun _ h => absurd h List.not_mem_nil)⟩)⟩)⟩)⟩)⟩)⟩) (List.forall_mem_cons.mpr ⟨lc_M_film_L53 hG FU, (fun _ h => absurd h List.not_mem_nil)⟩) tb_M_film 300 (ab_row tab_M_film 0) 0 (ab_ini (ab_ml 163) [(vR 30 0), (.inl p1), (.inl p2), (.inl p3), (.inl p4)]) [] σ (r, σ') (ab_row_bk tb_M_film 0) ((e_M_film _ _ _ _ _).trans h)
  obtain ⟨rfl, rfl⟩ := finI_inv hf
  exact ab_met (by decide) rfl (Nat.le_of_ble_eq_true rfl) hR
theorem cs_M_film {l : Launch} {G : ab_Gt} (hG : ab_GG G) {R : Type} : ab_CS (R := R) l G 163 (45) cp_M_film := by
  intro as σ k res h
  unfold cp_M_film at h
  split at h
  · split at h
    · rename_i hb
      simp only [Bool.and_eq_true, Nat.beq_eq] at hb
      obtain ⟨hb1, hb2⟩ := hb
      subst hb1
      subst hb2
      obtain ⟨q, hq, hk⟩ := Option.bind_eq_some_iff.mp h
      exact ⟨_, _, lk_M_film hG hq, rfl, (fun _ => Or.inl ⟨rfl, rfl⟩), hk⟩
    · cases h
  · cases h
theorem tb_M_cheapDrawn : ∀ q ∈ tab_M_cheapDrawn, ab_bk (ab_mo 164) (ab_mb 164) (ab_ml 164) 1 q.1 q.2 = true := List.all_eq_true.mp (by decide +kernel)
theorem lc_M_cheapDrawn_L10 {l : Launch} {G : ab_Gt} (hG : ab_GG G) : ∀ n : Nat, ab_KS l G 164 (46) finI 10 (kc_M_cheapDrawn_10 (M_cheapDrawn_L10 n)) := by
  intro n
  induction n with
  | zero =>
    intro L st σ res h
    unfold kc_M_cheapDrawn_10 at h
    split at h
    · split at h
      · rename_i hb
        simp only [Bool.and_eq_true, Nat.beq_eq] at hb
        obtain ⟨hb1, hb2⟩ := hb
        subst hb1
        subst hb2
        exact absurd (show none = some res from h) (fun h => by cases h)
      · cases h
    · cases h
  | succ n ih =>
    intro L st σ res h
    unfold kc_M_cheapDrawn_10 at h
    split at h
    · split at h
      · rename_i hb
        simp only [Bool.and_eq_true, Nat.beq_eq] at hb
        obtain ⟨hb1, hb2⟩ := hb
        subst hb1
        subst hb2
        exact ab_ev_sound (tab := tab_M_cheapDrawn) (Os := [(149, cp_M_cheapOf), (153, cp_M_laysAside), (154, cp_M_laysBack)]) (Ks := [(10, kc_M_cheapDrawn_10 (M_cheapDrawn_L10 n))]) (fin := finI) hG (by omega) rfl (List.forall_mem_cons.mpr ⟨⟨45, by omega, cs_M_cheapOf hG⟩, (List.forall_mem_cons.mpr ⟨⟨1, by omega, cs_M_laysAside hG⟩, (List.forall_mem_cons.mpr ⟨⟨1, by omega, cs_M_laysBack hG⟩, (fun _ h => absurd h List.not_mem_nil)⟩)⟩)⟩) (List.forall_mem_cons.mpr ⟨ih, (fun _ h => absurd h List.not_mem_nil)⟩) tb_M_cheapDrawn 300 (ab_row tab_M_cheapDrawn 10) 10 _ _ σ res (ab_row_bk tb_M_cheapDrawn 10) ((e_M_cheapDrawn_L10  _ _ _ _ _ _).trans h)
      · cases h
    · cases h
theorem lk_M_cheapDrawn {l : Launch} {G : ab_Gt} (hG : ab_GG G) {p1 : Int32} {p2 : Int32} {r : Int32} {σ σ' : Sg} (h : M_cheapDrawn p1 p2 σ = some (r, σ')) : ab_CO l G 164 (46) [(vR 30 0), (.inl p1), (.inl p2)] σ (vI r) σ' := by
  obtain ⟨r0, σ2, hR, hf⟩ := ab_ev_sound (tab := tab_M_cheapDrawn) (Os := [(149, cp_M_cheapOf), (153, cp_M_laysAside), (154, cp_M_laysBack)]) (Ks := [(10, kc_M_cheapDrawn_10 (M_cheapDrawn_L10 FU))]) (fin := finI) hG (d := 46) (by omega) rfl (List.forall_mem_cons.mpr ⟨⟨45, by omega, cs_M_cheapOf hG⟩, (List.forall_mem_cons.mpr ⟨⟨1, by omega, cs_M_laysAside hG⟩, (List.forall_mem_cons.mpr ⟨⟨1, by omega, cs_M_laysBack hG⟩, (fun _ h => absurd h List.not_mem_nil)⟩)⟩)⟩) (List.forall_mem_cons.mpr ⟨lc_M_cheapDrawn_L10 hG FU, (fun _ h => absurd h List.not_mem_nil)⟩) tb_M_cheapDrawn 300 (ab_row tab_M_cheapDrawn 0) 0 (ab_ini (ab_ml 164) [(vR 30 0), (.inl p1), (.inl p2)]) [] σ (r, σ') (ab_row_bk tb_M_cheapDrawn 0) ((e_M_cheapDrawn _ _ _).trans h)
  obtain ⟨rfl, rfl⟩ := finI_inv hf
  exact ab_met (by decide) rfl (Nat.le_of_ble_eq_true rfl) hR
theorem cs_M_cheapDrawn {l : Launch} {G : ab_Gt} (hG : ab_GG G) {R : Type} : ab_CS (R := R) l G 164 (46) cp_M_cheapDrawn := by
  intro as σ k res h
  unfold cp_M_cheapDrawn at h
  split at h
  · split at h
    · rename_i hb
      simp only [Bool.and_eq_true, Nat.beq_eq] at hb
      obtain ⟨hb1, hb2⟩ := hb
      subst hb1
      subst hb2
      obtain ⟨q, hq, hk⟩ := Option.bind_eq_some_iff.mp h
      exact ⟨_, _, lk_M_cheapDrawn hG hq, rfl, (fun _ => Or.inl ⟨rfl, rfl⟩), hk⟩
    · cases h
  · cases h
theorem tb_M_drawn : ∀ q ∈ tab_M_drawn, ab_bk (ab_mo 165) (ab_mb 165) (ab_ml 165) 1 q.1 q.2 = true := List.all_eq_true.mp (by decide +kernel)
theorem lk_M_drawn {l : Launch} {G : ab_Gt} (hG : ab_GG G) {p1 : Int32} {p2 : Int32} {r : Int32} {σ σ' : Sg} (h : M_drawn p1 p2 σ = some (r, σ')) : ab_CO l G 165 (47) [(vR 30 0), (.inl p1), (.inl p2)] σ (vI r) σ' := by
  obtain ⟨r0, σ2, hR, hf⟩ := ab_ev_sound (tab := tab_M_drawn) (Os := [(69, cp_M_isOne), (164, cp_M_cheapDrawn)]) (Ks := []) (fin := finI) hG (d := 47) (by omega) rfl (List.forall_mem_cons.mpr ⟨⟨2, by omega, cs_M_isOne hG⟩, (List.forall_mem_cons.mpr ⟨⟨46, by omega, cs_M_cheapDrawn hG⟩, (fun _ h => absurd h List.not_mem_nil)⟩)⟩) (fun _ h => absurd h List.not_mem_nil) tb_M_drawn 300 (ab_row tab_M_drawn 0) 0 (ab_ini (ab_ml 165) [(vR 30 0), (.inl p1), (.inl p2)]) [] σ (r, σ') (ab_row_bk tb_M_drawn 0) ((e_M_drawn _ _ _).trans h)
  obtain ⟨rfl, rfl⟩ := finI_inv hf
  exact ab_met (by decide) rfl (Nat.le_of_ble_eq_true rfl) hR
theorem cs_M_drawn {l : Launch} {G : ab_Gt} (hG : ab_GG G) {R : Type} : ab_CS (R := R) l G 165 (47) cp_M_drawn := by
  intro as σ k res h
  unfold cp_M_drawn at h
  split at h
  · split at h
    · rename_i hb
      simp only [Bool.and_eq_true, Nat.beq_eq] at hb
      obtain ⟨hb1, hb2⟩ := hb
      subst hb1
      subst hb2
      obtain ⟨q, hq, hk⟩ := Option.bind_eq_some_iff.mp h
      exact ⟨_, _, lk_M_drawn hG hq, rfl, (fun _ => Or.inl ⟨rfl, rfl⟩), hk⟩
    · cases h
  · cases h
theorem tb_M_chance : ∀ q ∈ tab_M_chance, ab_bk (ab_mo 166) (ab_mb 166) (ab_ml 166) 2 q.1 q.2 = true := List.all_eq_true.mp (by decide +kernel)
theorem lc_M_chance_L53 {l : Launch} {G : ab_Gt} (hG : ab_GG G) : ∀ n : Nat, ab_KS l G 166 (47) finL 53 (kc_M_chance_53 (M_chance_L53 n)) := by
  intro n
  induction n with
  | zero =>
    intro L st σ res h
    unfold kc_M_chance_53 at h
    split at h
    · split at h
      · rename_i hb
        simp only [Bool.and_eq_true, Nat.beq_eq] at hb
        obtain ⟨hb1, hb2⟩ := hb
        subst hb1
        subst hb2
        exact absurd (show none = some res from h) (fun h => by cases h)
      · cases h
    · cases h
  | succ n ih =>
    intro L st σ res h
    unfold kc_M_chance_53 at h
    split at h
    · split at h
      · rename_i hb
        simp only [Bool.and_eq_true, Nat.beq_eq] at hb
        obtain ⟨hb1, hb2⟩ := hb
        subst hb1
        subst hb2
        exact ab_ev_sound (tab := tab_M_chance) (Os := [(65, cp_M_in), (69, cp_M_isOne), (158, cp_M_lowest), (164, cp_M_cheapDrawn)]) (Ks := [(53, kc_M_chance_53 (M_chance_L53 n))]) (fin := finL) hG (by omega) rfl (List.forall_mem_cons.mpr ⟨⟨1, by omega, cs_M_in hG⟩, (List.forall_mem_cons.mpr ⟨⟨2, by omega, cs_M_isOne hG⟩, (List.forall_mem_cons.mpr ⟨⟨1, by omega, cs_M_lowest hG⟩, (List.forall_mem_cons.mpr ⟨⟨46, by omega, cs_M_cheapDrawn hG⟩, (fun _ h => absurd h List.not_mem_nil)⟩)⟩)⟩)⟩) (List.forall_mem_cons.mpr ⟨ih, (fun _ h => absurd h List.not_mem_nil)⟩) tb_M_chance 300 (ab_row tab_M_chance 53) 53 _ _ σ res (ab_row_bk tb_M_chance 53) ((e_M_chance_L53  _ _ _ _ _ _ _ _ _ _).trans h)
      · cases h
    · cases h
theorem lk_M_chance {l : Launch} {G : ab_Gt} (hG : ab_GG G) {p1 : Int32} {p2 : Int32} {p3 : Int32} {p4 : Int32} {p5 : Int32} {r : Int64} {σ σ' : Sg} (h : M_chance p1 p2 p3 p4 p5 σ = some (r, σ')) : ab_CO l G 166 (47) [(vR 30 0), (.inl p1), (.inl p2), (.inl p3), (.inl p4), (.inl p5)] σ (vL r) σ' := by
  obtain ⟨r0, σ2, hR, hf⟩ := ab_ev_sound (tab := tab_M_chance) (Os := [(65, cp_M_in), (69, cp_M_isOne), (158, cp_M_lowest), (164, cp_M_cheapDrawn)]) (Ks := [(53, kc_M_chance_53 (M_chance_L53 FU))]) (fin := finL) hG (d := 47) (by omega) rfl (List.forall_mem_cons.mpr ⟨⟨1, by omega, cs_M_in hG⟩, (List.forall_mem_cons.mpr ⟨⟨2, by omega, cs_M_isOne hG⟩, (List.forall_mem_cons.mpr ⟨⟨1, by omega, cs_M_lowest hG⟩, (List.forall_mem_cons.mpr ⟨⟨46, by omega, cs_M_cheapDrawn hG⟩, (fun _ h => absurd h List.not_mem_nil)⟩)⟩)⟩)⟩) (List.forall_mem_cons.mpr ⟨lc_M_chance_L53 hG FU, (fun _ h => absurd h List.not_mem_nil)⟩) tb_M_chance 300 (ab_row tab_M_chance 0) 0 (ab_ini (ab_ml 166) [(vR 30 0), (.inl p1), (.inl p2), (.inl p3), (.inl p4), (.inl p5)]) [] σ (r, σ') (ab_row_bk tb_M_chance 0) ((e_M_chance _ _ _ _ _ _).trans h)
  obtain ⟨rfl, rfl⟩ := finL_inv hf
  exact ab_met (by decide) rfl (Nat.le_of_ble_eq_true rfl) hR
theorem cs_M_chance {l : Launch} {G : ab_Gt} (hG : ab_GG G) {R : Type} : ab_CS (R := R) l G 166 (47) cp_M_chance := by
  intro as σ k res h
  unfold cp_M_chance at h
  split at h
  · split at h
    · rename_i hb
      simp only [Bool.and_eq_true, Nat.beq_eq] at hb
      obtain ⟨hb1, hb2⟩ := hb
      subst hb1
      subst hb2
      obtain ⟨q, hq, hk⟩ := Option.bind_eq_some_iff.mp h
      exact ⟨_, _, lk_M_chance hG hq, rfl, (fun _ => Or.inl ⟨rfl, rfl⟩), hk⟩
    · cases h
  · cases h
theorem tb_M_image : ∀ q ∈ tab_M_image, ab_bk (ab_mo 167) (ab_mb 167) (ab_ml 167) 1 q.1 q.2 = true := List.all_eq_true.mp (by decide +kernel)
theorem lc_M_image_L28 {l : Launch} {G : ab_Gt} (hG : ab_GG G) : ∀ n : Nat, ab_KS l G 167 (1) finI 28 (kc_M_image_28 (M_image_L28 n)) := by
  intro n
  induction n with
  | zero =>
    intro L st σ res h
    unfold kc_M_image_28 at h
    split at h
    · split at h
      · rename_i hb
        simp only [Bool.and_eq_true, Nat.beq_eq] at hb
        obtain ⟨hb1, hb2⟩ := hb
        subst hb1
        subst hb2
        exact absurd (show none = some res from h) (fun h => by cases h)
      · cases h
    · cases h
  | succ n ih =>
    intro L st σ res h
    unfold kc_M_image_28 at h
    split at h
    · split at h
      · rename_i hb
        simp only [Bool.and_eq_true, Nat.beq_eq] at hb
        obtain ⟨hb1, hb2⟩ := hb
        subst hb1
        subst hb2
        exact ab_ev_sound (tab := tab_M_image) (Os := []) (Ks := [(28, kc_M_image_28 (M_image_L28 n))]) (fin := finI) hG (by omega) rfl (fun _ h => absurd h List.not_mem_nil) (List.forall_mem_cons.mpr ⟨ih, (fun _ h => absurd h List.not_mem_nil)⟩) tb_M_image 300 (ab_row tab_M_image 28) 28 _ _ σ res (ab_row_bk tb_M_image 28) ((e_M_image_L28  _ _ _).trans h)
      · cases h
    · cases h
theorem lc_M_image_L2 {l : Launch} {G : ab_Gt} (hG : ab_GG G) : ∀ n : Nat, ab_KS l G 167 (1) finI 2 (kc_M_image_2 (M_image_L2 n)) := by
  intro n
  induction n with
  | zero =>
    intro L st σ res h
    unfold kc_M_image_2 at h
    split at h
    · split at h
      · rename_i hb
        simp only [Bool.and_eq_true, Nat.beq_eq] at hb
        obtain ⟨hb1, hb2⟩ := hb
        subst hb1
        subst hb2
        exact absurd (show none = some res from h) (fun h => by cases h)
      · cases h
    · cases h
  | succ n ih =>
    intro L st σ res h
    unfold kc_M_image_2 at h
    split at h
    · split at h
      · rename_i hb
        simp only [Bool.and_eq_true, Nat.beq_eq] at hb
        obtain ⟨hb1, hb2⟩ := hb
        subst hb1
        subst hb2
        exact ab_ev_sound (tab := tab_M_image) (Os := []) (Ks := [(2, kc_M_image_2 (M_image_L2 n)), (28, kc_M_image_28 (M_image_L28 FU))]) (fin := finI) hG (by omega) rfl (fun _ h => absurd h List.not_mem_nil) (List.forall_mem_cons.mpr ⟨ih, (List.forall_mem_cons.mpr ⟨lc_M_image_L28 hG FU, (fun _ h => absurd h List.not_mem_nil)⟩)⟩) tb_M_image 300 (ab_row tab_M_image 2) 2 _ _ σ res (ab_row_bk tb_M_image 2) ((e_M_image_L2  _ _ _).trans h)
      · cases h
    · cases h
theorem lk_M_image {l : Launch} {G : ab_Gt} (hG : ab_GG G) {r : Int32} {σ σ' : Sg} (h : M_image  σ = some (r, σ')) : ab_CO l G 167 (1) [(vR 30 0)] σ (vI r) σ' := by
  obtain ⟨r0, σ2, hR, hf⟩ := ab_ev_sound (tab := tab_M_image) (Os := []) (Ks := [(2, kc_M_image_2 (M_image_L2 FU))]) (fin := finI) hG (d := 1) (by omega) rfl (fun _ h => absurd h List.not_mem_nil) (List.forall_mem_cons.mpr ⟨lc_M_image_L2 hG FU, (fun _ h => absurd h List.not_mem_nil)⟩) tb_M_image 300 (ab_row tab_M_image 0) 0 (ab_ini (ab_ml 167) [(vR 30 0)]) [] σ (r, σ') (ab_row_bk tb_M_image 0) ((e_M_image _).trans h)
  obtain ⟨rfl, rfl⟩ := finI_inv hf
  exact ab_met (by decide) rfl (Nat.le_of_ble_eq_true rfl) hR
theorem cs_M_image {l : Launch} {G : ab_Gt} (hG : ab_GG G) {R : Type} : ab_CS (R := R) l G 167 (1) cp_M_image := by
  intro as σ k res h
  unfold cp_M_image at h
  split at h
  · split at h
    · rename_i hb
      simp only [Bool.and_eq_true, Nat.beq_eq] at hb
      obtain ⟨hb1, hb2⟩ := hb
      subst hb1
      subst hb2
      obtain ⟨q, hq, hk⟩ := Option.bind_eq_some_iff.mp h
      exact ⟨_, _, lk_M_image hG hq, rfl, (fun _ => Or.inl ⟨rfl, rfl⟩), hk⟩
    · cases h
  · cases h
theorem tb_M_back : ∀ q ∈ tab_M_back, ab_bk (ab_mo 168) (ab_mb 168) (ab_ml 168) 1 q.1 q.2 = true := List.all_eq_true.mp (by decide +kernel)
theorem lc_M_back_L39 {l : Launch} {G : ab_Gt} (hG : ab_GG G) : ∀ n : Nat, ab_KS l G 168 (1) finI 39 (kc_M_back_39 (M_back_L39 n)) := by
  intro n
  induction n with
  | zero =>
    intro L st σ res h
    unfold kc_M_back_39 at h
    split at h
    · split at h
      · rename_i hb
        simp only [Bool.and_eq_true, Nat.beq_eq] at hb
        obtain ⟨hb1, hb2⟩ := hb
        subst hb1
        subst hb2
        exact absurd (show none = some res from h) (fun h => by cases h)
      · cases h
    · cases h
  | succ n ih =>
    intro L st σ res h
    unfold kc_M_back_39 at h
    split at h
    · split at h
      · rename_i hb
        simp only [Bool.and_eq_true, Nat.beq_eq] at hb
        obtain ⟨hb1, hb2⟩ := hb
        subst hb1
        subst hb2
        exact ab_ev_sound (tab := tab_M_back) (Os := []) (Ks := [(39, kc_M_back_39 (M_back_L39 n))]) (fin := finI) hG (by omega) rfl (fun _ h => absurd h List.not_mem_nil) (List.forall_mem_cons.mpr ⟨ih, (fun _ h => absurd h List.not_mem_nil)⟩) tb_M_back 300 (ab_row tab_M_back 39) 39 _ _ σ res (ab_row_bk tb_M_back 39) ((e_M_back_L39  _ _ _).trans h)
      · cases h
    · cases h
theorem lc_M_back_L13 {l : Launch} {G : ab_Gt} (hG : ab_GG G) : ∀ n : Nat, ab_KS l G 168 (1) finI 13 (kc_M_back_13 (M_back_L13 n)) := by
  intro n
  induction n with
  | zero =>
    intro L st σ res h
    unfold kc_M_back_13 at h
    split at h
    · split at h
      · rename_i hb
        simp only [Bool.and_eq_true, Nat.beq_eq] at hb
        obtain ⟨hb1, hb2⟩ := hb
        subst hb1
        subst hb2
        exact absurd (show none = some res from h) (fun h => by cases h)
      · cases h
    · cases h
  | succ n ih =>
    intro L st σ res h
    unfold kc_M_back_13 at h
    split at h
    · split at h
      · rename_i hb
        simp only [Bool.and_eq_true, Nat.beq_eq] at hb
        obtain ⟨hb1, hb2⟩ := hb
        subst hb1
        subst hb2
        exact ab_ev_sound (tab := tab_M_back) (Os := []) (Ks := [(13, kc_M_back_13 (M_back_L13 n)), (39, kc_M_back_39 (M_back_L39 FU))]) (fin := finI) hG (by omega) rfl (fun _ h => absurd h List.not_mem_nil) (List.forall_mem_cons.mpr ⟨ih, (List.forall_mem_cons.mpr ⟨lc_M_back_L39 hG FU, (fun _ h => absurd h List.not_mem_nil)⟩)⟩) tb_M_back 300 (ab_row tab_M_back 13) 13 _ _ σ res (ab_row_bk tb_M_back 13) ((e_M_back_L13  _ _ _).trans h)
      · cases h
    · cases h
theorem lk_M_back {l : Launch} {G : ab_Gt} (hG : ab_GG G) {r : Int32} {σ σ' : Sg} (h : M_back  σ = some (r, σ')) : ab_CO l G 168 (1) [(vR 30 0)] σ (vI r) σ' := by
  obtain ⟨r0, σ2, hR, hf⟩ := ab_ev_sound (tab := tab_M_back) (Os := []) (Ks := [(13, kc_M_back_13 (M_back_L13 FU))]) (fin := finI) hG (d := 1) (by omega) rfl (fun _ h => absurd h List.not_mem_nil) (List.forall_mem_cons.mpr ⟨lc_M_back_L13 hG FU, (fun _ h => absurd h List.not_mem_nil)⟩) tb_M_back 300 (ab_row tab_M_back 0) 0 (ab_ini (ab_ml 168) [(vR 30 0)]) [] σ (r, σ') (ab_row_bk tb_M_back 0) ((e_M_back _).trans h)
  obtain ⟨rfl, rfl⟩ := finI_inv hf
  exact ab_met (by decide) rfl (Nat.le_of_ble_eq_true rfl) hR
theorem cs_M_back {l : Launch} {G : ab_Gt} (hG : ab_GG G) {R : Type} : ab_CS (R := R) l G 168 (1) cp_M_back := by
  intro as σ k res h
  unfold cp_M_back at h
  split at h
  · split at h
    · rename_i hb
      simp only [Bool.and_eq_true, Nat.beq_eq] at hb
      obtain ⟨hb1, hb2⟩ := hb
      subst hb1
      subst hb2
      obtain ⟨q, hq, hk⟩ := Option.bind_eq_some_iff.mp h
      exact ⟨_, _, lk_M_back hG hq, rfl, (fun _ => Or.inl ⟨rfl, rfl⟩), hk⟩
    · cases h
  · cases h
theorem tb_M_count : ∀ q ∈ tab_M_count, ab_bk (ab_mo 169) (ab_mb 169) (ab_ml 169) 1 q.1 q.2 = true := List.all_eq_true.mp (by decide +kernel)
theorem lc_M_count_L19 {l : Launch} {G : ab_Gt} (hG : ab_GG G) : ∀ n : Nat, ab_KS l G 169 (2) finI 19 (kc_M_count_19 (M_count_L19 n)) := by
  intro n
  induction n with
  | zero =>
    intro L st σ res h
    unfold kc_M_count_19 at h
    split at h
    · split at h
      · rename_i hb
        simp only [Bool.and_eq_true, Nat.beq_eq] at hb
        obtain ⟨hb1, hb2⟩ := hb
        subst hb1
        subst hb2
        exact absurd (show none = some res from h) (fun h => by cases h)
      · cases h
    · cases h
  | succ n ih =>
    intro L st σ res h
    unfold kc_M_count_19 at h
    split at h
    · split at h
      · rename_i hb
        simp only [Bool.and_eq_true, Nat.beq_eq] at hb
        obtain ⟨hb1, hb2⟩ := hb
        subst hb1
        subst hb2
        exact ab_ev_sound (tab := tab_M_count) (Os := [(65, cp_M_in)]) (Ks := [(19, kc_M_count_19 (M_count_L19 n))]) (fin := finI) hG (by omega) rfl (List.forall_mem_cons.mpr ⟨⟨1, by omega, cs_M_in hG⟩, (fun _ h => absurd h List.not_mem_nil)⟩) (List.forall_mem_cons.mpr ⟨ih, (fun _ h => absurd h List.not_mem_nil)⟩) tb_M_count 300 (ab_row tab_M_count 19) 19 _ _ σ res (ab_row_bk tb_M_count 19) ((e_M_count_L19  _ _ _ _ _).trans h)
      · cases h
    · cases h
theorem lk_M_count {l : Launch} {G : ab_Gt} (hG : ab_GG G) {p1 : Int32} {r : Int32} {σ σ' : Sg} (h : M_count p1 σ = some (r, σ')) : ab_CO l G 169 (2) [(vR 30 0), (.inl p1)] σ (vI r) σ' := by
  obtain ⟨r0, σ2, hR, hf⟩ := ab_ev_sound (tab := tab_M_count) (Os := [(65, cp_M_in)]) (Ks := [(19, kc_M_count_19 (M_count_L19 FU))]) (fin := finI) hG (d := 2) (by omega) rfl (List.forall_mem_cons.mpr ⟨⟨1, by omega, cs_M_in hG⟩, (fun _ h => absurd h List.not_mem_nil)⟩) (List.forall_mem_cons.mpr ⟨lc_M_count_L19 hG FU, (fun _ h => absurd h List.not_mem_nil)⟩) tb_M_count 300 (ab_row tab_M_count 0) 0 (ab_ini (ab_ml 169) [(vR 30 0), (.inl p1)]) [] σ (r, σ') (ab_row_bk tb_M_count 0) ((e_M_count _ _).trans h)
  obtain ⟨rfl, rfl⟩ := finI_inv hf
  exact ab_met (by decide) rfl (Nat.le_of_ble_eq_true rfl) hR
theorem cs_M_count {l : Launch} {G : ab_Gt} (hG : ab_GG G) {R : Type} : ab_CS (R := R) l G 169 (2) cp_M_count := by
  intro as σ k res h
  unfold cp_M_count at h
  split at h
  · split at h
    · rename_i hb
      simp only [Bool.and_eq_true, Nat.beq_eq] at hb
      obtain ⟨hb1, hb2⟩ := hb
      subst hb1
      subst hb2
      obtain ⟨q, hq, hk⟩ := Option.bind_eq_some_iff.mp h
      exact ⟨_, _, lk_M_count hG hq, rfl, (fun _ => Or.inl ⟨rfl, rfl⟩), hk⟩
    · cases h
  · cases h
theorem tb_M_cell : ∀ q ∈ tab_M_cell, ab_bk (ab_mo 172) (ab_mb 172) (ab_ml 172) 1 q.1 q.2 = true := List.all_eq_true.mp (by decide +kernel)
theorem lk_M_cell {l : Launch} {G : ab_Gt} (hG : ab_GG G) {p1 : Int32} {p2 : Int32} {p3 : Int32} {r : Int32} {σ σ' : Sg} (h : M_cell p1 p2 p3 σ = some (r, σ')) : ab_CO l G 172 (3) [(vR 30 0), (.inl p1), (.inl p2), (.inl p3)] σ (vI r) σ' := by
  obtain ⟨r0, σ2, hR, hf⟩ := ab_ev_sound (tab := tab_M_cell) (Os := [(65, cp_M_in), (170, cp_M_isSheet)]) (Ks := []) (fin := finI) hG (d := 3) (by omega) rfl (List.forall_mem_cons.mpr ⟨⟨1, by omega, cs_M_in hG⟩, (List.forall_mem_cons.mpr ⟨⟨2, by omega, cs_M_isSheet hG⟩, (fun _ h => absurd h List.not_mem_nil)⟩)⟩) (fun _ h => absurd h List.not_mem_nil) tb_M_cell 300 (ab_row tab_M_cell 0) 0 (ab_ini (ab_ml 172) [(vR 30 0), (.inl p1), (.inl p2), (.inl p3)]) [] σ (r, σ') (ab_row_bk tb_M_cell 0) ((e_M_cell _ _ _ _).trans h)
  obtain ⟨rfl, rfl⟩ := finI_inv hf
  exact ab_met (by decide) rfl (Nat.le_of_ble_eq_true rfl) hR
theorem cs_M_cell {l : Launch} {G : ab_Gt} (hG : ab_GG G) {R : Type} : ab_CS (R := R) l G 172 (3) cp_M_cell := by
  intro as σ k res h
  unfold cp_M_cell at h
  split at h
  · split at h
    · rename_i hb
      simp only [Bool.and_eq_true, Nat.beq_eq] at hb
      obtain ⟨hb1, hb2⟩ := hb
      subst hb1
      subst hb2
      obtain ⟨q, hq, hk⟩ := Option.bind_eq_some_iff.mp h
      exact ⟨_, _, lk_M_cell hG hq, rfl, (fun _ => Or.inl ⟨rfl, rfl⟩), hk⟩
    · cases h
  · cases h
theorem tb_M_copy : ∀ q ∈ tab_M_copy, ab_bk (ab_mo 173) (ab_mb 173) (ab_ml 173) 1 q.1 q.2 = true := List.all_eq_true.mp (by decide +kernel)
theorem lc_M_copy_J145 {l : Launch} {G : ab_Gt} (hG : ab_GG G) {k121 : Int32 → Int32 → Int32 → Int32 → Int32 → Int32 → Int32 → Sg → Option (Int32 × Sg)} (h121 : ab_KS l G 173 (3) finI 121 (kc_M_copy_121 k121)) : ab_KS l G 173 (3) finI 145 (kc_M_copy_145 (M_copy_J145 k121)) := by
  intro L st σ res h
  unfold kc_M_copy_145 at h
  split at h
  · split at h
    · rename_i hb
      simp only [Bool.and_eq_true, Nat.beq_eq] at hb
      obtain ⟨hb1, hb2⟩ := hb
      subst hb1
      subst hb2
      exact ab_ev_sound (tab := tab_M_copy) (Os := [(170, cp_M_isSheet)]) (Ks := [(121, kc_M_copy_121 k121)]) (fin := finI) hG (by omega) rfl (List.forall_mem_cons.mpr ⟨⟨2, by omega, cs_M_isSheet hG⟩, (fun _ h => absurd h List.not_mem_nil)⟩) (List.forall_mem_cons.mpr ⟨h121, (fun _ h => absurd h List.not_mem_nil)⟩) tb_M_copy 300 (ab_row tab_M_copy 145) 145 _ _ σ res (ab_row_bk tb_M_copy 145) ((e_M_copy_J145 _ _ _ _ _ _ _ _ _ _ _).trans h)
    · cases h
  · cases h
theorem lc_M_copy_L121 {l : Launch} {G : ab_Gt} (hG : ab_GG G) : ∀ n : Nat, ab_KS l G 173 (3) finI 121 (kc_M_copy_121 (M_copy_L121 n)) := by
  intro n
  induction n with
  | zero =>
    intro L st σ res h
    unfold kc_M_copy_121 at h
    split at h
    · split at h
      · rename_i hb
        simp only [Bool.and_eq_true, Nat.beq_eq] at hb
        obtain ⟨hb1, hb2⟩ := hb
        subst hb1
        subst hb2
        exact absurd (show none = some res from h) (fun h => by cases h)
      · cases h
    · cases h
  | succ n ih =>
    intro L st σ res h
    unfold kc_M_copy_121 at h
    split at h
    · split at h
      · rename_i hb
        simp only [Bool.and_eq_true, Nat.beq_eq] at hb
        obtain ⟨hb1, hb2⟩ := hb
        subst hb1
        subst hb2
        exact ab_ev_sound (tab := tab_M_copy) (Os := [(170, cp_M_isSheet)]) (Ks := [(145, kc_M_copy_145 (M_copy_J145 (fun y0 y1 y2 y3 y4 y5 y6 τ => M_copy_L121 n y0 y1 y2 y3 y4 y5 y6 τ)))]) (fin := finI) hG (by omega) rfl (List.forall_mem_cons.mpr ⟨⟨2, by omega, cs_M_isSheet hG⟩, (fun _ h => absurd h List.not_mem_nil)⟩) (List.forall_mem_cons.mpr ⟨lc_M_copy_J145 hG ih, (fun _ h => absurd h List.not_mem_nil)⟩) tb_M_copy 300 (ab_row tab_M_copy 121) 121 _ _ σ res (ab_row_bk tb_M_copy 121) ((e_M_copy_L121  _ _ _ _ _ _ _ _ _ _).trans h)
      · cases h
    · cases h
theorem lk_M_copy {l : Launch} {G : ab_Gt} (hG : ab_GG G) {p1 : Int32} {p2 : Int32} {p3 : Int32} {p4 : Int32} {p5 : Int32} {r : Int32} {σ σ' : Sg} (h : M_copy p1 p2 p3 p4 p5 σ = some (r, σ')) : ab_CO l G 173 (3) [(vR 30 0), (.inl p1), (.inl p2), (.inl p3), (.inl p4), (.inl p5)] σ (vI r) σ' := by
  obtain ⟨r0, σ2, hR, hf⟩ := ab_ev_sound (tab := tab_M_copy) (Os := [(170, cp_M_isSheet)]) (Ks := [(121, kc_M_copy_121 (M_copy_L121 FU))]) (fin := finI) hG (d := 3) (by omega) rfl (List.forall_mem_cons.mpr ⟨⟨2, by omega, cs_M_isSheet hG⟩, (fun _ h => absurd h List.not_mem_nil)⟩) (List.forall_mem_cons.mpr ⟨lc_M_copy_L121 hG FU, (fun _ h => absurd h List.not_mem_nil)⟩) tb_M_copy 300 (ab_row tab_M_copy 0) 0 (ab_ini (ab_ml 173) [(vR 30 0), (.inl p1), (.inl p2), (.inl p3), (.inl p4), (.inl p5)]) [] σ (r, σ') (ab_row_bk tb_M_copy 0) ((e_M_copy _ _ _ _ _ _).trans h)
  obtain ⟨rfl, rfl⟩ := finI_inv hf
  exact ab_met (by decide) rfl (Nat.le_of_ble_eq_true rfl) hR
theorem cs_M_copy {l : Launch} {G : ab_Gt} (hG : ab_GG G) {R : Type} : ab_CS (R := R) l G 173 (3) cp_M_copy := by
  intro as σ k res h
  unfold cp_M_copy at h
  split at h
  · split at h
    · rename_i hb
      simp only [Bool.and_eq_true, Nat.beq_eq] at hb
      obtain ⟨hb1, hb2⟩ := hb
      subst hb1
      subst hb2
      obtain ⟨q, hq, hk⟩ := Option.bind_eq_some_iff.mp h
      exact ⟨_, _, lk_M_copy hG hq, rfl, (fun _ => Or.inl ⟨rfl, rfl⟩), hk⟩
    · cases h
  · cases h
