theorem ab_fl_facts {o ix a b k : Nat} (h : ab_flb o (ix, a, b, k) = true) : ∃ (C : String) (T : u_T) (N : Nat) (f : Nat × Nat × Nat), ab_cl[ab_ci a]? = some (C, T, N) ∧ b < N ∧ ab_kd a = 0 ∧ (ab_fds a).length = N ∧ Cond.fieldLink (ab_on o) ix (T b).1 (T b).2.1 (T b).2.2.1 ∈ lw_good ∧ (ab_fds a)[b]? = some f ∧ f.1 = ab_fkind (ab_ty (ab_ci a) b) := by
  unfold ab_flb at h
  dsimp only at h
  cases hcl : ab_cl[ab_ci a]? with
  | none => rw [hcl] at h; cases h
  | some q =>
    obtain ⟨C, T, N⟩ := q
    rw [hcl] at h
    dsimp only at h
    rw [Bool.and_eq_true, Bool.and_eq_true, Bool.and_eq_true, Bool.and_eq_true] at h
    obtain ⟨⟨⟨⟨h1, h2⟩, h3⟩, h4⟩, h5⟩ := h
    cases hf : (ab_fds a)[b]? with
    | none => rw [hf] at h5; cases h5
    | some f =>
      rw [hf] at h5
      exact ⟨C, T, N, f, rfl, of_decide_eq_true h1, by simpa using h2, by simpa using h3, ab_at_in h4, rfl, by simpa using h5⟩
theorem ab_nth_get {α : Type} (d : α) : ∀ (l : List α) (i : Nat) (x : α), l[i]? = some x → ab_nth d l i = x := by
  intro l
  induction l with
  | nil => intro i x h; simp at h
  | cons a r ih =>
    intro i x h
    cases i with
    | zero => simpa [ab_nth] using h
    | succ i => exact ih i x (by simpa using h)
theorem ab_in {G : ab_Gt} {g i : Nat} (h : ab_okr G (g, i)) (hk : ab_kd g ≠ 9) : (g, i) ∈ gP G := by
  rcases h with h | ⟨h, -⟩ | h
  · exact h
  · exact absurd (by rw [show g = 60 from h]; rfl) hk
  · exact absurd (by rw [(Prod.mk.inj h).1]; rfl) hk
theorem ab_ent_0 {G : ab_Gt} {ρ : Nat → Int32} {g i : Nat} (h : ab_kd g = 0) : ab_ent G ρ g i = .inr (ab_ci g, ab_fvs G ρ i 0 (ab_fds g)) := by unfold ab_ent; rw [h]; rfl
theorem ab_ent_1 {G : ab_Gt} {ρ : Nat → Int32} {g i : Nat} (h : ab_kd g = 1) : ab_ent G ρ g i = .inl (gC G 0, (ab_len g, .inl ρ)) := by unfold ab_ent; rw [h]; rfl
theorem ab_ent_2 {G : ab_Gt} {ρ : Nat → Int32} {g i : Nat} (h : ab_kd g = 2) : ab_ent G ρ g i = .inl (gC G 1, (ab_len g, .inl ρ)) := by unfold ab_ent; rw [h]; rfl
theorem ab_ent_3 {G : ab_Gt} {ρ : Nat → Int32} {g i : Nat} (h : ab_kd g = 3) : ab_ent G ρ g i = .inl (gC G (ab_rt g), (ab_len g, .inr (.inr (.inr (.inr (fun j => some (gad G (ab_refs g).1 (j + (ab_refs g).2)))))))) := by unfold ab_ent; rw [h]; rfl
theorem ab_cats_eq (G : ab_Gt) (st : List AV) : ((st.map (ab_val G)).map (fun v => v.category)).sum = ab_cats st := by
  induction st with
  | nil => rfl
  | cons v r ih =>
    simp only [List.map_cons, List.sum_cons, ab_cats, ih]
    congr 1
    match v with
    | .inl x => rfl
    | .inr (.inl x) => rfl
    | .inr (.inr (.inl q)) => rfl
    | .inr (.inr (.inr _)) => rfl
theorem r_18 {l : Launch} {G : ab_Gt} {id d pc a b : Nat} {v : AV} {ts : List (Int × Nat)} {L st : List AV} {σ σ2 : Sg} {r : AV} {i0 : Nat} (hG : ab_GG G) (hc : ab_chk (ab_mo id) (ab_mb id) (ab_ml id) pc (18, a, b, v, ts) = true) (k : ab_Ret l G id d (pc + ab_ln (ab_mb id) pc) L (vI (σ a i0 b) :: st) σ r σ2) : ab_Ret l G id d pc L (vR a i0 :: st) σ r σ2 := by
  obtain ⟨i, n, hd, hn, hc⟩ := ab_chk_inv hc
  rw [hn] at k
  intro p e R s m args below meth c cells slots H locs ls C hL oL oS hP hS
  have go := fun (H : Heap) (locs : List Loc) (ls : Array Slot) => k p e R s m args below meth c cells slots H locs ls C
  obtain ⟨hx, hb, hml, hown, hts, hr, hlk, hf, hlo, hKK, hcs⟩ := C
  change ab_c18 (ab_mo id) i n a b 0 = true at hc
  unfold ab_c18 at hc
  split at hc
  · rename_i ix
    rw [Bool.and_eq_true, Bool.and_eq_true] at hc
    obtain ⟨⟨h3, hfl⟩, hk⟩ := hc
    have h3 : n = 3 := by simpa using h3
    subst h3
    obtain ⟨kw, hq⟩ := ab_fl_at hfl
    obtain ⟨C, T, N, f, hcl, hbN, hkd, hlen, hlk2, hf, hfk⟩ := ab_fl_facts hq
    have hk : (ab_fk a b).1 = 0 := by simpa using hk
    have hfe : ab_fk a b = f := ab_nth_get _ _ _ _ hf
    rw [hfe] at hk
    have hin : (a, i0) ∈ gP G := ab_in (oS _ List.mem_cons_self) (by rw [hkd]; decide)
    obtain ⟨q0, hq0, he⟩ := ab_ws_at σ hin
    rw [ab_ent_0 hkd] at he
    have hv : (ab_fvs G (σ a i0) i0 0 (ab_fds a))[b]? = some (Value.int (σ a i0 b)) := by
      rw [ab_fvs_at, hf]
      simp [ab_fval, hk]
    exact va_get hx hb (Ts := ab_W id) (C := C) (T := T) (N := N) hts (fun w hw => List.mem_cons_of_mem _ (ab_cl_in hcl w hw)) hown hKK.1 hP q0 he hcl b hbN (ab_gw hts hlk2) (fun _ h => h) hv hd (go H locs ls hL oL (okc trivial (okt oS)) hP hS)
  · cases hc
theorem r_19 {l : Launch} {G : ab_Gt} {id d pc a b : Nat} {v : AV} {ts : List (Int × Nat)} {L st : List AV} {σ σ2 : Sg} {r : AV} {i0 : Nat} (hG : ab_GG G) (hc : ab_chk (ab_mo id) (ab_mb id) (ab_ml id) pc (19, a, b, v, ts) = true) (k : ab_Ret l G id d (pc + ab_ln (ab_mb id) pc) L (vL (σ a i0 b).toInt64 :: st) σ r σ2) : ab_Ret l G id d pc L (vR a i0 :: st) σ r σ2 := by
  obtain ⟨i, n, hd, hn, hc⟩ := ab_chk_inv hc
  rw [hn] at k
  intro p e R s m args below meth c cells slots H locs ls C hL oL oS hP hS
  have go := fun (H : Heap) (locs : List Loc) (ls : Array Slot) => k p e R s m args below meth c cells slots H locs ls C
  obtain ⟨hx, hb, hml, hown, hts, hr, hlk, hf, hlo, hKK, hcs⟩ := C
  change ab_c18 (ab_mo id) i n a b 1 = true at hc
  unfold ab_c18 at hc
  split at hc
  · rename_i ix
    rw [Bool.and_eq_true, Bool.and_eq_true] at hc
    obtain ⟨⟨h3, hfl⟩, hk⟩ := hc
    have h3 : n = 3 := by simpa using h3
    subst h3
    obtain ⟨kw, hq⟩ := ab_fl_at hfl
    obtain ⟨C, T, N, f, hcl, hbN, hkd, hlen, hlk2, hf, hfk⟩ := ab_fl_facts hq
    have hk : (ab_fk a b).1 = 1 := by simpa using hk
    have hfe : ab_fk a b = f := ab_nth_get _ _ _ _ hf
    rw [hfe] at hk
    have hin : (a, i0) ∈ gP G := ab_in (oS _ List.mem_cons_self) (by rw [hkd]; decide)
    obtain ⟨q0, hq0, he⟩ := ab_ws_at σ hin
    rw [ab_ent_0 hkd] at he
    have hv : (ab_fvs G (σ a i0) i0 0 (ab_fds a))[b]? = some (Value.long (σ a i0 b).toInt64) := by
      rw [ab_fvs_at, hf]
      simp [ab_fval, hk]
    exact va_get hx hb (Ts := ab_W id) (C := C) (T := T) (N := N) hts (fun w hw => List.mem_cons_of_mem _ (ab_cl_in hcl w hw)) hown hKK.1 hP q0 he hcl b hbN (ab_gw hts hlk2) (fun _ h => h) hv hd (go H locs ls hL oL (okc trivial (okt oS)) hP hS)
  · cases hc
theorem r_20 {l : Launch} {G : ab_Gt} {id d pc a b : Nat} {v : AV} {ts : List (Int × Nat)} {L st : List AV} {σ σ2 : Sg} {r : AV} {i0 g2 o2 : Nat} (hG : ab_GG G) (hc : ab_chk (ab_mo id) (ab_mb id) (ab_ml id) pc (20, a, b, vR g2 o2, ts) = true) (k : ab_Ret l G id d (pc + ab_ln (ab_mb id) pc) L (vR g2 (i0 + o2) :: st) σ r σ2) : ab_Ret l G id d pc L (vR a i0 :: st) σ r σ2 := by
  obtain ⟨i, n, hd, hn, hc⟩ := ab_chk_inv hc
  rw [hn] at k
  intro p e R s m args below meth c cells slots H locs ls C hL oL oS hP hS
  have go := fun (H : Heap) (locs : List Loc) (ls : Array Slot) => k p e R s m args below meth c cells slots H locs ls C
  obtain ⟨hx, hb, hml, hown, hts, hr, hlk, hf, hlo, hKK, hcs⟩ := C
  change (ab_c18 (ab_mo id) i n a b 2 && decide (vR g2 o2 = vR (ab_fk a b).2.1 (ab_fk a b).2.2)) = true at hc
  rw [Bool.and_eq_true, decide_eq_true_eq] at hc
  obtain ⟨hc, hg⟩ := hc
  unfold ab_c18 at hc
  split at hc
  · rename_i ix
    rw [Bool.and_eq_true, Bool.and_eq_true] at hc
    obtain ⟨⟨h3, hfl⟩, hk⟩ := hc
    have h3 : n = 3 := by simpa using h3
    subst h3
    obtain ⟨kw, hq⟩ := ab_fl_at hfl
    obtain ⟨C, T, N, f, hcl, hbN, hkd, hlen, hlk2, hf, hfk⟩ := ab_fl_facts hq
    have hk : (ab_fk a b).1 = 2 := by simpa using hk
    have hfe : ab_fk a b = f := ab_nth_get _ _ _ _ hf
    rw [hfe] at hk
    rw [hfe] at hg
    have hg := Prod.mk.inj (Sum.inl.inj (Sum.inr.inj (Sum.inr.inj hg)))
    obtain ⟨rfl, rfl⟩ := hg
    have hin : (a, i0) ∈ gP G := ab_in (oS _ List.mem_cons_self) (by rw [hkd]; decide)
    obtain ⟨q0, hq0, he⟩ := ab_ws_at σ hin
    rw [ab_ent_0 hkd] at he
    have hv : (ab_fvs G (σ a i0) i0 0 (ab_fds a))[b]? = some (Value.ref (gad G f.2.1 (i0 + f.2.2))) := by
      rw [ab_fvs_at, hf]
      simp [ab_fval, hk]
    exact va_get hx hb (Ts := ab_W id) (C := C) (T := T) (N := N) hts (fun w hw => List.mem_cons_of_mem _ (ab_cl_in hcl w hw)) hown hKK.1 hP q0 he hcl b hbN (ab_gw hts hlk2) (fun _ h => h) hv hd (go H locs ls hL oL (okc (Or.inl (hG.2.2.1 a i0 hin b f hf hk)) (okt oS)) hP hS)
  · cases hc
theorem r_21 {l : Launch} {G : ab_Gt} {id d pc a b : Nat} {v : AV} {ts : List (Int × Nat)} {L st : List AV} {σ σ2 : Sg} {r : AV} {i0 : Nat} (hG : ab_GG G) {x : Int32} (hc : ab_chk (ab_mo id) (ab_mb id) (ab_ml id) pc (21, a, b, v, ts) = true) (k : ab_Ret l G id d (pc + ab_ln (ab_mb id) pc) L st (upd3 σ a i0 b x) r σ2) : ab_Ret l G id d pc L (vI x :: vR a i0 :: st) σ r σ2 := by
  obtain ⟨i, n, hd, hn, hc⟩ := ab_chk_inv hc
  rw [hn] at k
  intro p e R s m args below meth c cells slots H locs ls C hL oL oS hP hS
  have go := fun (H : Heap) (locs : List Loc) (ls : Array Slot) => k p e R s m args below meth c cells slots H locs ls C
  obtain ⟨hx, hb, hml, hown, hts, hr, hlk, hf, hlo, hKK, hcs⟩ := C
  change ab_c21 (ab_mo id) i n a b .int = true at hc
  unfold ab_c21 at hc
  split at hc
  · rename_i ix
    rw [Bool.and_eq_true, Bool.and_eq_true, Bool.and_eq_true, decide_eq_true_eq] at hc
    obtain ⟨⟨⟨h3, hfl⟩, hty⟩, hfin⟩ := hc
    have h3 : n = 3 := by simpa using h3
    subst h3
    obtain ⟨kw, hq⟩ := ab_fl_at hfl
    obtain ⟨C, T, N, f, hcl, hbN, hkd, hlen, hlk2, hf, hfk⟩ := ab_fl_facts hq
    rw [hcl] at hfin
    have hfin : (T b).2.2.2 = false := by simpa using hfin
    rw [hty] at hfk
    have hin : (a, i0) ∈ gP G := ab_in (oS _ (List.mem_cons_of_mem _ List.mem_cons_self)) (by rw [hkd]; decide)
    obtain ⟨q0, hq0, he⟩ := ab_ws_at σ hin
    rw [ab_ent_0 hkd] at he
    have hpd : parseFieldDescriptor (T b).2.2.1 = some .int := by rw [← hty]; exact ab_cl_tt hcl b hbN
    have hfk : f.1 = 0 := hfk
    refine va_put hx hb (Ts := ab_W id) (C := C) (T := T) (N := N) hts (fun w hw => List.mem_cons_of_mem _ (ab_cl_in hcl w hw)) (ab_ty (ab_ci a)) (ab_cl_tt hcl) (ab_cl_nn hcl) hown hKK.1 hP (hG.1 σ) hS q0 he hcl b hbN (ab_gw hts hlk2) (fun _ h => h) hfin hpd rfl rfl (by rw [ab_fvs_len, hlen]; exact hbN) hd (fun H1 locs1 hP1 hD1 hS1 => go H1 locs1 ls hL oL (okt (okt oS)) ?_ hS1)
    have hset := ab_ws_set (G := G) hG.2.1 σ (upd3 σ a i0 b x) hq0 (upd3_off σ a i0 b _) (a := gad G a i0) (en := .inr (ab_ci a, (ab_fvs G (σ a i0) i0 0 (ab_fds a)).set b (Value.int x))) rfl (by
      rw [upd3_row, ab_ent_0 hkd, ab_fvs_set G (σ a i0) i0 (ab_fds a) hf x (Value.int x) (by simp [ab_fval, hfk, upd])])
    rw [← hset]
    exact hP1
  · cases hc
theorem r_22 {l : Launch} {G : ab_Gt} {id d pc a b : Nat} {v : AV} {ts : List (Int × Nat)} {L st : List AV} {σ σ2 : Sg} {r : AV} {i0 : Nat} (hG : ab_GG G) {x : Int32} (hc : ab_chk (ab_mo id) (ab_mb id) (ab_ml id) pc (22, a, b, v, ts) = true) (h01 : x = 0 ∨ x = 1) (k : ab_Ret l G id d (pc + ab_ln (ab_mb id) pc) L st (upd3 σ a i0 b x) r σ2) : ab_Ret l G id d pc L (vI x :: vR a i0 :: st) σ r σ2 := by
  obtain ⟨i, n, hd, hn, hc⟩ := ab_chk_inv hc
  rw [hn] at k
  intro p e R s m args below meth c cells slots H locs ls C hL oL oS hP hS
  have go := fun (H : Heap) (locs : List Loc) (ls : Array Slot) => k p e R s m args below meth c cells slots H locs ls C
  obtain ⟨hx, hb, hml, hown, hts, hr, hlk, hf, hlo, hKK, hcs⟩ := C
  change ab_c21 (ab_mo id) i n a b .boolean = true at hc
  unfold ab_c21 at hc
  split at hc
  · rename_i ix
    rw [Bool.and_eq_true, Bool.and_eq_true, Bool.and_eq_true, decide_eq_true_eq] at hc
    obtain ⟨⟨⟨h3, hfl⟩, hty⟩, hfin⟩ := hc
    have h3 : n = 3 := by simpa using h3
    subst h3
    obtain ⟨kw, hq⟩ := ab_fl_at hfl
    obtain ⟨C, T, N, f, hcl, hbN, hkd, hlen, hlk2, hf, hfk⟩ := ab_fl_facts hq
    rw [hcl] at hfin
    have hfin : (T b).2.2.2 = false := by simpa using hfin
    rw [hty] at hfk
    have hin : (a, i0) ∈ gP G := ab_in (oS _ (List.mem_cons_of_mem _ List.mem_cons_self)) (by rw [hkd]; decide)
    obtain ⟨q0, hq0, he⟩ := ab_ws_at σ hin
    rw [ab_ent_0 hkd] at he
    have hpd : parseFieldDescriptor (T b).2.2.1 = some .boolean := by rw [← hty]; exact ab_cl_tt hcl b hbN
    have hfk : f.1 = 0 := hfk
    refine va_put hx hb (Ts := ab_W id) (C := C) (T := T) (N := N) hts (fun w hw => List.mem_cons_of_mem _ (ab_cl_in hcl w hw)) (ab_ty (ab_ci a)) (ab_cl_tt hcl) (ab_cl_nn hcl) hown hKK.1 hP (hG.1 σ) hS q0 he hcl b hbN (ab_gw hts hlk2) (fun _ h => h) hfin hpd (by rcases h01 with rfl | rfl <;> rfl) (by rcases h01 with rfl | rfl <;> rfl) (by rw [ab_fvs_len, hlen]; exact hbN) hd (fun H1 locs1 hP1 hD1 hS1 => go H1 locs1 ls hL oL (okt (okt oS)) ?_ hS1)
    have hset := ab_ws_set (G := G) hG.2.1 σ (upd3 σ a i0 b x) hq0 (upd3_off σ a i0 b _) (a := gad G a i0) (en := .inr (ab_ci a, (ab_fvs G (σ a i0) i0 0 (ab_fds a)).set b (Value.int x))) rfl (by
      rw [upd3_row, ab_ent_0 hkd, ab_fvs_set G (σ a i0) i0 (ab_fds a) hf x (Value.int x) (by simp [ab_fval, hfk, upd])])
    rw [← hset]
    exact hP1
  · cases hc
theorem r_23 {l : Launch} {G : ab_Gt} {id d pc a b : Nat} {v : AV} {ts : List (Int × Nat)} {L st : List AV} {σ σ2 : Sg} {r : AV} {i0 : Nat} (hG : ab_GG G) {x : Int64} (hc : ab_chk (ab_mo id) (ab_mb id) (ab_ml id) pc (23, a, b, v, ts) = true) (h64 : x.toInt32.toInt64 = x) (k : ab_Ret l G id d (pc + ab_ln (ab_mb id) pc) L st (upd3 σ a i0 b x.toInt32) r σ2) : ab_Ret l G id d pc L (vL x :: vR a i0 :: st) σ r σ2 := by
  obtain ⟨i, n, hd, hn, hc⟩ := ab_chk_inv hc
  rw [hn] at k
  intro p e R s m args below meth c cells slots H locs ls C hL oL oS hP hS
  have go := fun (H : Heap) (locs : List Loc) (ls : Array Slot) => k p e R s m args below meth c cells slots H locs ls C
  obtain ⟨hx, hb, hml, hown, hts, hr, hlk, hf, hlo, hKK, hcs⟩ := C
  change ab_c21 (ab_mo id) i n a b .long = true at hc
  unfold ab_c21 at hc
  split at hc
  · rename_i ix
    rw [Bool.and_eq_true, Bool.and_eq_true, Bool.and_eq_true, decide_eq_true_eq] at hc
    obtain ⟨⟨⟨h3, hfl⟩, hty⟩, hfin⟩ := hc
    have h3 : n = 3 := by simpa using h3
    subst h3
    obtain ⟨kw, hq⟩ := ab_fl_at hfl
    obtain ⟨C, T, N, f, hcl, hbN, hkd, hlen, hlk2, hf, hfk⟩ := ab_fl_facts hq
    rw [hcl] at hfin
    have hfin : (T b).2.2.2 = false := by simpa using hfin
    rw [hty] at hfk
    have hin : (a, i0) ∈ gP G := ab_in (oS _ (List.mem_cons_of_mem _ List.mem_cons_self)) (by rw [hkd]; decide)
    obtain ⟨q0, hq0, he⟩ := ab_ws_at σ hin
    rw [ab_ent_0 hkd] at he
    have hpd : parseFieldDescriptor (T b).2.2.1 = some .long := by rw [← hty]; exact ab_cl_tt hcl b hbN
    have hfk : f.1 = 1 := hfk
    refine va_put hx hb (Ts := ab_W id) (C := C) (T := T) (N := N) hts (fun w hw => List.mem_cons_of_mem _ (ab_cl_in hcl w hw)) (ab_ty (ab_ci a)) (ab_cl_tt hcl) (ab_cl_nn hcl) hown hKK.1 hP (hG.1 σ) hS q0 he hcl b hbN (ab_gw hts hlk2) (fun _ h => h) hfin hpd rfl rfl (by rw [ab_fvs_len, hlen]; exact hbN) hd (fun H1 locs1 hP1 hD1 hS1 => go H1 locs1 ls hL oL (okt (okt oS)) ?_ hS1)
    have hset := ab_ws_set (G := G) hG.2.1 σ (upd3 σ a i0 b x.toInt32) hq0 (upd3_off σ a i0 b _) (a := gad G a i0) (en := .inr (ab_ci a, (ab_fvs G (σ a i0) i0 0 (ab_fds a)).set b (Value.long x))) rfl (by
      rw [upd3_row, ab_ent_0 hkd, ab_fvs_set G (σ a i0) i0 (ab_fds a) hf x.toInt32 (Value.long x) (by simp [ab_fval, hfk, upd, h64])])
    rw [← hset]
    exact hP1
  · cases hc
theorem r_24 {l : Launch} {G : ab_Gt} {id d pc a b : Nat} {v : AV} {ts : List (Int × Nat)} {L st : List AV} {σ σ2 : Sg} {r : AV} {i0 : Nat} {j : Int32} (hG : ab_GG G) (hc : ab_chk (ab_mo id) (ab_mb id) (ab_ml id) pc (24, a, b, v, ts) = true) (hj0 : ¬ j < 0) (hj1 : ¬ ab_len a ≤ j.toNatClampNeg) (k : ab_Ret l G id d (pc + ab_ln (ab_mb id) pc) L (vI (σ a i0 j.toNatClampNeg) :: st) σ r σ2) : ab_Ret l G id d pc L (vI j :: vR a i0 :: st) σ r σ2 := by
  obtain ⟨i, n, hd, hn, hc⟩ := ab_chk_inv hc
  rw [hn] at k
  intro p e R s m args below meth c cells slots H locs ls C hL oL oS hP hS
  have go := fun (H : Heap) (locs : List Loc) (ls : Array Slot) => k p e R s m args below meth c cells slots H locs ls C
  obtain ⟨hx, hb, hml, hown, hts, hr, hlk, hf, hlo, hKK, hcs⟩ := C
  change ab_ca i n 24 a = true at hc
  unfold ab_ca at hc
  rw [Bool.and_eq_true] at hc
  obtain ⟨hn1, hc⟩ := hc
  have hn1 : n = 1 := by simpa using hn1
  subst hn1
  have hin' : vp_in j (ab_len a) := fun h => h.elim hj0 hj1
  split at hc <;> first | (simp at hc; done) | skip
  have hkd : ab_kd a = 1 := by simpa using hc
  have hin : (a, i0) ∈ gP G := ab_in (oS _ (List.mem_cons_of_mem _ List.mem_cons_self)) (by rw [hkd]; decide)
  obtain ⟨q0, hq0, he⟩ := ab_ws_at σ hin
  rw [ab_ent_1 hkd] at he
  exact va_iald hx hb hKK.1 hP q0 0 he rfl hin' hd (go H locs ls hL oL (okc trivial (okt (okt oS))) hP hS)
theorem r_26 {l : Launch} {G : ab_Gt} {id d pc a b : Nat} {v : AV} {ts : List (Int × Nat)} {L st : List AV} {σ σ2 : Sg} {r : AV} {i0 : Nat} {j : Int32} (hG : ab_GG G) (hc : ab_chk (ab_mo id) (ab_mb id) (ab_ml id) pc (26, a, b, v, ts) = true) (hj0 : ¬ j < 0) (hj1 : ¬ ab_len a ≤ j.toNatClampNeg) (k : ab_Ret l G id d (pc + ab_ln (ab_mb id) pc) L (vI (σ a i0 j.toNatClampNeg) :: st) σ r σ2) : ab_Ret l G id d pc L (vI j :: vR a i0 :: st) σ r σ2 := by
  obtain ⟨i, n, hd, hn, hc⟩ := ab_chk_inv hc
  rw [hn] at k
  intro p e R s m args below meth c cells slots H locs ls C hL oL oS hP hS
  have go := fun (H : Heap) (locs : List Loc) (ls : Array Slot) => k p e R s m args below meth c cells slots H locs ls C
  obtain ⟨hx, hb, hml, hown, hts, hr, hlk, hf, hlo, hKK, hcs⟩ := C
  change ab_ca i n 26 a = true at hc
  unfold ab_ca at hc
  rw [Bool.and_eq_true] at hc
  obtain ⟨hn1, hc⟩ := hc
  have hn1 : n = 1 := by simpa using hn1
  subst hn1
  have hin' : vp_in j (ab_len a) := fun h => h.elim hj0 hj1
  split at hc <;> first | (simp at hc; done) | skip
  have hkd : ab_kd a = 2 := by simpa using hc
  have hin : (a, i0) ∈ gP G := ab_in (oS _ (List.mem_cons_of_mem _ List.mem_cons_self)) (by rw [hkd]; decide)
  obtain ⟨q0, hq0, he⟩ := ab_ws_at σ hin
  rw [ab_ent_2 hkd] at he
  exact va_zald hx hb hKK.1 hP q0 1 he rfl hin' hd (go H locs ls hL oL (okc trivial (okt (okt oS))) hP hS)
theorem r_25 {l : Launch} {G : ab_Gt} {id d pc a b : Nat} {v : AV} {ts : List (Int × Nat)} {L st : List AV} {σ σ2 : Sg} {r : AV} {i0 : Nat} {j : Int32} (hG : ab_GG G) {x : Int32} (hc : ab_chk (ab_mo id) (ab_mb id) (ab_ml id) pc (25, a, b, v, ts) = true) (hj0 : ¬ j < 0) (hj1 : ¬ ab_len a ≤ j.toNatClampNeg) (k : ab_Ret l G id d (pc + ab_ln (ab_mb id) pc) L st (upd3 σ a i0 j.toNatClampNeg x) r σ2) : ab_Ret l G id d pc L (vI x :: vI j :: vR a i0 :: st) σ r σ2 := by
  obtain ⟨i, n, hd, hn, hc⟩ := ab_chk_inv hc
  rw [hn] at k
  intro p e R s m args below meth c cells slots H locs ls C hL oL oS hP hS
  have go := fun (H : Heap) (locs : List Loc) (ls : Array Slot) => k p e R s m args below meth c cells slots H locs ls C
  obtain ⟨hx, hb, hml, hown, hts, hr, hlk, hf, hlo, hKK, hcs⟩ := C
  change ab_ca i n 25 a = true at hc
  unfold ab_ca at hc
  rw [Bool.and_eq_true] at hc
  obtain ⟨hn1, hc⟩ := hc
  have hn1 : n = 1 := by simpa using hn1
  subst hn1
  have hin' : vp_in j (ab_len a) := fun h => h.elim hj0 hj1
  split at hc <;> first | (simp at hc; done) | skip
  have hkd : ab_kd a = 1 := by simpa using hc
  have hin : (a, i0) ∈ gP G := ab_in (oS _ (List.mem_cons_of_mem _ (List.mem_cons_of_mem _ List.mem_cons_self))) (by rw [hkd]; decide)
  obtain ⟨q0, hq0, he⟩ := ab_ws_at σ hin
  rw [ab_ent_1 hkd] at he
  refine va_iast hx hb hKK.1 hP (hG.1 σ) hS q0 0 he rfl hin' hd (fun H1 locs1 hP1 hD1 hS1 => go H1 locs1 ls hL oL (okt (okt (okt oS))) ?_ hS1)
  have hset := ab_ws_set (G := G) hG.2.1 σ (upd3 σ a i0 j.toNatClampNeg x) hq0 (upd3_off σ a i0 _ _) (a := gad G a i0) (en := .inl (gC G 0, (ab_len a, .inl (upd (σ a i0) j.toNatClampNeg x)))) rfl (by
    rw [upd3_row, ab_ent_1 hkd])
  rw [← hset]
  exact hP1
theorem r_27 {l : Launch} {G : ab_Gt} {id d pc a b : Nat} {v : AV} {ts : List (Int × Nat)} {L st : List AV} {σ σ2 : Sg} {r : AV} {i0 : Nat} {j : Int32} (hG : ab_GG G) {x : Int32} (hc : ab_chk (ab_mo id) (ab_mb id) (ab_ml id) pc (27, a, b, v, ts) = true) (hj0 : ¬ j < 0) (hj1 : ¬ ab_len a ≤ j.toNatClampNeg) (k : ab_Ret l G id d (pc + ab_ln (ab_mb id) pc) L st (upd3 σ a i0 j.toNatClampNeg (x &&& 1)) r σ2) : ab_Ret l G id d pc L (vI x :: vI j :: vR a i0 :: st) σ r σ2 := by
  obtain ⟨i, n, hd, hn, hc⟩ := ab_chk_inv hc
  rw [hn] at k
  intro p e R s m args below meth c cells slots H locs ls C hL oL oS hP hS
  have go := fun (H : Heap) (locs : List Loc) (ls : Array Slot) => k p e R s m args below meth c cells slots H locs ls C
  obtain ⟨hx, hb, hml, hown, hts, hr, hlk, hf, hlo, hKK, hcs⟩ := C
  change ab_ca i n 27 a = true at hc
  unfold ab_ca at hc
  rw [Bool.and_eq_true] at hc
  obtain ⟨hn1, hc⟩ := hc
  have hn1 : n = 1 := by simpa using hn1
  subst hn1
  have hin' : vp_in j (ab_len a) := fun h => h.elim hj0 hj1
  split at hc <;> first | (simp at hc; done) | skip
  have hkd : ab_kd a = 2 := by simpa using hc
  have hin : (a, i0) ∈ gP G := ab_in (oS _ (List.mem_cons_of_mem _ (List.mem_cons_of_mem _ List.mem_cons_self))) (by rw [hkd]; decide)
  obtain ⟨q0, hq0, he⟩ := ab_ws_at σ hin
  rw [ab_ent_2 hkd] at he
  refine va_zast hx hb hKK.1 hP (hG.1 σ) hS q0 1 he rfl hin' hd (fun H1 locs1 hP1 hD1 hS1 => go H1 locs1 ls hL oL (okt (okt (okt oS))) ?_ hS1)
  have hset := ab_ws_set (G := G) hG.2.1 σ (upd3 σ a i0 j.toNatClampNeg (x &&& 1)) hq0 (upd3_off σ a i0 _ _) (a := gad G a i0) (en := .inl (gC G 1, (ab_len a, .inl (upd (σ a i0) j.toNatClampNeg (x &&& 1))))) rfl (by
    rw [upd3_row, ab_ent_2 hkd])
  rw [← hset]
  exact hP1
theorem r_28 {l : Launch} {G : ab_Gt} {id d pc a b : Nat} {v : AV} {ts : List (Int × Nat)} {L st : List AV} {σ σ2 : Sg} {r : AV} {i0 : Nat} {j : Int32} (hG : ab_GG G) (hc : ab_chk (ab_mo id) (ab_mb id) (ab_ml id) pc (28, a, b, v, ts) = true) (hj0 : ¬ j < 0) (hj1 : ¬ ab_len a ≤ j.toNatClampNeg) (k : ab_Ret l G id d (pc + ab_ln (ab_mb id) pc) L (vR (ab_refs a).1 (j.toNatClampNeg + (ab_refs a).2) :: st) σ r σ2) : ab_Ret l G id d pc L (vI j :: vR a i0 :: st) σ r σ2 := by
  obtain ⟨i, n, hd, hn, hc⟩ := ab_chk_inv hc
  rw [hn] at k
  intro p e R s m args below meth c cells slots H locs ls C hL oL oS hP hS
  have go := fun (H : Heap) (locs : List Loc) (ls : Array Slot) => k p e R s m args below meth c cells slots H locs ls C
  obtain ⟨hx, hb, hml, hown, hts, hr, hlk, hf, hlo, hKK, hcs⟩ := C
  change ab_ca i n 28 a = true at hc
  unfold ab_ca at hc
  rw [Bool.and_eq_true] at hc
  obtain ⟨hn1, hc⟩ := hc
  have hn1 : n = 1 := by simpa using hn1
  subst hn1
  have hin' : vp_in j (ab_len a) := fun h => h.elim hj0 hj1
  split at hc <;> first | (simp at hc; done) | skip
  have hkd : ab_kd a = 3 := by simpa using hc
  have hin : (a, i0) ∈ gP G := ab_in (oS _ (List.mem_cons_of_mem _ List.mem_cons_self)) (by rw [hkd]; decide)
  obtain ⟨q0, hq0, he⟩ := ab_ws_at σ hin
  rw [ab_ent_3 hkd] at he
  have ht : ∃ C : String, (ab_tys G)[ab_rt a]? = some (gC G (ab_rt a), .object C) := by
    unfold ab_rt
    split <;> exact ⟨_, rfl⟩
  obtain ⟨C, ht⟩ := ht
  exact va_aldq hx hb hKK.1 hP q0 (ab_rt a) he ht hin' hd (go H locs ls hL oL (okc (Or.inl (hG.2.2.2.1 a i0 hin hkd _ (Nat.not_le.mp hj1))) (okt (okt oS))) hP hS)
theorem r_34 {l : Launch} {G : ab_Gt} {id d pc a b : Nat} {v : AV} {ts : List (Int × Nat)} {L st : List AV} {σ σ2 : Sg} {r : AV} {i0 : Nat} {j : Int32} (hG : ab_GG G) (hc : ab_chk (ab_mo id) (ab_mb id) (ab_ml id) pc (34, a, b, v, ts) = true) (hj0 : ¬ j < 0) (hj1 : ¬ 6 ≤ j.toNatClampNeg) (k : ab_Ret l G id d (pc + ab_ln (ab_mb id) pc) L (vI (ab_ka j.toNatClampNeg) :: st) σ r σ2) : ab_Ret l G id d pc L (vI j :: vR 61 i0 :: st) σ r σ2 := by
  obtain ⟨i, n, hd, hn, hc⟩ := ab_chk_inv hc
  rw [hn] at k
  intro p e R s m args below meth c cells slots H locs ls C hL oL oS hP hS
  have go := fun (H : Heap) (locs : List Loc) (ls : Array Slot) => k p e R s m args below meth c cells slots H locs ls C
  obtain ⟨hx, hb, hml, hown, hts, hr, hlk, hf, hlo, hKK, hcs⟩ := C
  change ab_ca i n 34 61 = true at hc
  unfold ab_ca at hc
  rw [Bool.and_eq_true] at hc
  obtain ⟨hn1, hc⟩ := hc
  have hn1 : n = 1 := by simpa using hn1
  subst hn1
  have hi0 : i0 = 0 := by
    rcases oS _ (List.mem_cons_of_mem _ List.mem_cons_self) with h | ⟨h, -⟩ | h
    · exact absurd rfl (hG.2.2.2.2 _ h)
    · cases h
    · exact (Prod.mk.inj h).2
  subst hi0
  split at hc <;> first | (simp at hc; done) | skip
  exact va_ti hx hb hKK.2.2.1.2 hS (fun h => h.elim hj0 hj1) rfl hd (go H locs ls hL oL (okc trivial (okt (okt oS))) hP hS)
theorem r_29a {l : Launch} {G : ab_Gt} {id d pc a b : Nat} {v : AV} {ts : List (Int × Nat)} {L st : List AV} {σ σ2 : Sg} {r : AV} {x y : Int32} (hd1 : 1 ≤ d) (hct : ab_cats st ≤ 8) (hc : ab_chk (ab_mo id) (ab_mb id) (ab_ml id) pc (29, 0, b, v, ts) = true) (k : ab_Ret l G id d (pc + ab_ln (ab_mb id) pc) L (vI (if x < y then y else x) :: st) σ r σ2) : ab_Ret l G id d pc L (vI y :: vI x :: st) σ r σ2 := by
  obtain ⟨i, n, hd, hn, hc⟩ := ab_chk_inv hc
  rw [hn] at k
  intro p e R s m args below meth c cells slots H locs ls C hL oL oS hP hS
  have go := fun (H : Heap) (locs : List Loc) (ls : Array Slot) => k p e R s m args below meth c cells slots H locs ls C
  obtain ⟨hx, hb, hml, hown, hts, hr, hlk, hf, hlo, hKK, hcs⟩ := C
  change (ab_cj (ab_mo id) i n 0 && decide (0 < 2)) = true at hc
  rw [Bool.and_eq_true] at hc
  obtain ⟨hc, -⟩ := hc
  unfold ab_cj at hc
  split at hc
  · rw [Bool.and_eq_true] at hc
    obtain ⟨h3, hj⟩ := hc
    have h3 : n = 3 := by simpa using h3
    subst h3
    exact va_mmax hx hb (by rw [hml]; exact hL.1.symm) hown (ab_gw hts (ab_js_at hj)) (ab_gw hts ab_jm0.1) (ab_gw hts ab_jm0.2.2) (ab_gw hts ab_jm0.2.1) (by omega) (by rw [ab_cats_eq]; omega) hcs.1 hcs.2 hd (go H locs ls hL oL (okc trivial (okt (okt oS))) hP hS)
  · cases hc
theorem r_29b {l : Launch} {G : ab_Gt} {id d pc a b : Nat} {v : AV} {ts : List (Int × Nat)} {L st : List AV} {σ σ2 : Sg} {r : AV} {x y : Int32} (hd1 : 1 ≤ d) (hct : ab_cats st ≤ 8) (hc : ab_chk (ab_mo id) (ab_mb id) (ab_ml id) pc (29, 1, b, v, ts) = true) (k : ab_Ret l G id d (pc + ab_ln (ab_mb id) pc) L (vI (if y < x then y else x) :: st) σ r σ2) : ab_Ret l G id d pc L (vI y :: vI x :: st) σ r σ2 := by
  obtain ⟨i, n, hd, hn, hc⟩ := ab_chk_inv hc
  rw [hn] at k
  intro p e R s m args below meth c cells slots H locs ls C hL oL oS hP hS
  have go := fun (H : Heap) (locs : List Loc) (ls : Array Slot) => k p e R s m args below meth c cells slots H locs ls C
  obtain ⟨hx, hb, hml, hown, hts, hr, hlk, hf, hlo, hKK, hcs⟩ := C
  change (ab_cj (ab_mo id) i n 1 && decide (1 < 2)) = true at hc
  rw [Bool.and_eq_true] at hc
  obtain ⟨hc, -⟩ := hc
  unfold ab_cj at hc
  split at hc
  · rw [Bool.and_eq_true] at hc
    obtain ⟨h3, hj⟩ := hc
    have h3 : n = 3 := by simpa using h3
    subst h3
    exact va_mmin hx hb (by rw [hml]; exact hL.1.symm) hown (ab_gw hts (ab_js_at hj)) (ab_gw hts ab_jm1.1) (ab_gw hts ab_jm0.2.2) (ab_gw hts ab_jm1.2) (by omega) (by rw [ab_cats_eq]; omega) hcs.1 hcs.2 hd (go H locs ls hL oL (okc trivial (okt (okt oS))) hP hS)
  · cases hc
theorem r_30 {l : Launch} {G : ab_Gt} {id d pc a b : Nat} {v : AV} {ts : List (Int × Nat)} {L st : List AV} {σ σ2 : Sg} {r : AV} {x : Int32} (hd1 : 1 ≤ d) (hct : ab_cats st ≤ 8) (hc : ab_chk (ab_mo id) (ab_mb id) (ab_ml id) pc (30, a, b, v, ts) = true) (k : ab_Ret l G id d (pc + ab_ln (ab_mb id) pc) L (vI (if 0 ≤ x then x else 0 - x) :: st) σ r σ2) : ab_Ret l G id d pc L (vI x :: st) σ r σ2 := by
  obtain ⟨i, n, hd, hn, hc⟩ := ab_chk_inv hc
  rw [hn] at k
  intro p e R s m args below meth c cells slots H locs ls C hL oL oS hP hS
  have go := fun (H : Heap) (locs : List Loc) (ls : Array Slot) => k p e R s m args below meth c cells slots H locs ls C
  obtain ⟨hx, hb, hml, hown, hts, hr, hlk, hf, hlo, hKK, hcs⟩ := C
  change ab_cj (ab_mo id) i n 2 = true at hc
  unfold ab_cj at hc
  split at hc
  · rw [Bool.and_eq_true] at hc
    obtain ⟨h3, hj⟩ := hc
    have h3 : n = 3 := by simpa using h3
    subst h3
    exact va_mabs hx hb (by rw [hml]; exact hL.1.symm) hown (ab_gw hts (ab_js_at hj)) (ab_gw hts ab_jm2.1) (ab_gw hts ab_jm0.2.2) (ab_gw hts ab_jm2.2) (by omega) (by rw [ab_cats_eq]; omega) hcs.1 hcs.2 hd (go H locs ls hL oL (okc trivial (okt oS)) hP hS)
  · cases hc
theorem r_31 {l : Launch} {G : ab_Gt} {id d pc a b : Nat} {v : AV} {ts : List (Int × Nat)} {L st : List AV} {σ σ2 : Sg} {r : AV} {i0 i1 : Nat} {sp dp nn : Int32} (hG : ab_GG G) (hd1 : 1 ≤ d) (hct : ab_cats st ≤ 8) (c1 : ¬ sp < 0) (c2 : ¬ dp < 0) (c3 : ¬ nn < 0) (c4 : ¬ ab_len a < sp.toNatClampNeg + nn.toNatClampNeg) (c5 : ¬ ab_len b < dp.toNatClampNeg + nn.toNatClampNeg) (hc : ab_chk (ab_mo id) (ab_mb id) (ab_ml id) pc (31, a, b, v, ts) = true) (k : ab_Ret l G id d (pc + ab_ln (ab_mb id) pc) L st (cpy3 σ a i0 sp.toNatClampNeg b i1 dp.toNatClampNeg nn.toNatClampNeg) r σ2) : ab_Ret l G id d pc L (vI nn :: vI dp :: vR b i1 :: vI sp :: vR a i0 :: st) σ r σ2 := by
  obtain ⟨i, n, hd, hn, hc⟩ := ab_chk_inv hc
  rw [hn] at k
  intro p e R s m args below meth c cells slots H locs ls C hL oL oS hP hS
  have go := fun (H : Heap) (locs : List Loc) (ls : Array Slot) => k p e R s m args below meth c cells slots H locs ls C
  obtain ⟨hx, hb, hml, hown, hts, hr, hlk, hf, hlo, hKK, hcs⟩ := C
  change (ab_cj (ab_mo id) i n 3 && ab_kd a == 1 && ab_kd b == 1) = true at hc
  rw [Bool.and_eq_true, Bool.and_eq_true] at hc
  obtain ⟨⟨hc, hka⟩, hkb⟩ := hc
  have hka : ab_kd a = 1 := by simpa using hka
  have hkb : ab_kd b = 1 := by simpa using hkb
  unfold ab_cj at hc
  split at hc
  · rw [Bool.and_eq_true] at hc
    obtain ⟨h3, hj⟩ := hc
    have h3 : n = 3 := by simpa using h3
    subst h3
    have hin0 : (a, i0) ∈ gP G := ab_in (oS (vR a i0) (by simp)) (by rw [hka]; decide)
    have hin1 : (b, i1) ∈ gP G := ab_in (oS (vR b i1) (by simp)) (by rw [hkb]; decide)
    obtain ⟨q0, hq0, he0⟩ := ab_ws_at σ hin0
    obtain ⟨q1, hq1, he1⟩ := ab_ws_at σ hin1
    rw [ab_ent_1 hka] at he0
    rw [ab_ent_1 hkb] at he1
    have hnw : nativeFrameWords "java/lang/System" "arraycopy" 5 = 7 := by decide
    refine va_copyi hx hb (by rw [hml]; exact hL.1.symm) hown (ab_gw hts (ab_js_at hj)) (ab_gw hts ab_jm3.2.1) (ab_gw hts ab_jm3.1) (ab_gw hts ab_jm3.2.2) hKK.1 hP (hG.1 σ) hS q0 q1 0 0 he0 he1 rfl rfl rfl c1 c2 c3 (Nat.not_lt.mp c4) (Nat.not_lt.mp c5) (fun _ _ => rfl) (by omega) (by rw [ab_cats_eq, hnw]; omega) hd (fun H1 locs1 hP1 hD1 hS1 => go H1 locs1 ls hL oL (okt (okt (okt (okt (okt oS))))) ?_ hS1)
    have hset := ab_ws_set (G := G) hG.2.1 σ (cpy3 σ a i0 sp.toNatClampNeg b i1 dp.toNatClampNeg nn.toNatClampNeg) hq1 (fun g' i' hne => by
        funext k
        have : ¬ (g' = b ∧ i' = i1 ∧ dp.toNatClampNeg ≤ k ∧ k < dp.toNatClampNeg + nn.toNatClampNeg) := fun e => hne (by rw [e.1, e.2.1])
        simp [cpy3, this]) (a := gad G b i1) (en := .inl (gC G 0, (ab_len b, .inl (va_cpy (σ a i0) (σ b i1) sp.toNatClampNeg dp.toNatClampNeg nn.toNatClampNeg)))) rfl (by
      rw [ab_ent_1 hkb]
      congr 4
      funext k
      simp [cpy3, va_cpy])
    rw [← hset]
    exact hP1
  · cases hc
