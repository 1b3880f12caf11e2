def ab_d9 (a : Nat) (x y : Int32) : Int32 := match a with
  | 0 => x / y
  | _ => x - x / y * y
def ab_d10 (a : Nat) (x : Int32) : Int32 := match a with
  | 0 => -x
  | 1 => x.toInt8.toInt32
  | _ => x.toInt16.toInt32
def ab_d14 (a : Nat) (x y : Int64) : Int64 := match a with
  | 0 => x / y
  | _ => x - x / y * y
theorem okc {G : ab_Gt} {v : AV} {st : List AV} (hv : ab_ok G v) (h : ∀ x ∈ st, ab_ok G x) : ∀ x ∈ v :: st, ab_ok G x := fun x hx => (List.mem_cons.mp hx).elim (fun e => by rw [e]; exact hv) (h x)
theorem okt {G : ab_Gt} {v : AV} {st : List AV} (h : ∀ x ∈ v :: st, ab_ok G x) : ∀ x ∈ st, ab_ok G x := fun x hx => h x (List.mem_cons_of_mem _ hx)
theorem ab_gw {id : Nat} {w : Cond} {s : State} {args : Array Value} (hts : ∀ w ∈ ab_W id, w.before args s = true) (h : w ∈ lw_good) : w.before args s = true := hts w (List.mem_cons_of_mem _ h)
theorem ab_olt {o k : Nat} {α : Type} {f : Nat → List α} {x : α} (h : x ∈ f o) (h11 : ∀ o, 11 ≤ o → f o = []) : o < 11 := by
  cases Nat.lt_or_ge o 11 with
  | inl h => exact h
  | inr h' => rw [h11 o h'] at h; cases h
theorem ab_ks_11 : ∀ o, 11 ≤ o → ab_ks o = [] := fun o h => by
  match o, h with
  | n + 11, _ => rfl
theorem ab_fl_11 : ∀ o, 11 ≤ o → ab_fl o = [] := fun o h => by
  match o, h with
  | n + 11, _ => rfl
theorem ab_cs_11 : ∀ o, 11 ≤ o → ab_cs o = [] := fun o h => by
  match o, h with
  | n + 11, _ => rfl
theorem ab_js_11 : ∀ o, 11 ≤ o → ab_js o = [] := fun o h => by
  match o, h with
  | n + 11, _ => rfl
theorem ab_ks_at {o ix : Nat} {v : AV} (h : (ab_ks o).any (fun q => q.1 == ix && decide (q.2.1 = v)) = true) : ∃ k, ab_ksb o (ix, v, k) = true := by
  obtain ⟨q, hq, he⟩ := List.any_eq_true.mp h
  obtain ⟨x, w, k⟩ := q
  simp only [Bool.and_eq_true, beq_iff_eq, decide_eq_true_eq] at he
  obtain ⟨rfl, rfl⟩ := he
  exact ⟨k, List.all_eq_true.mp (ab_ks_ok o (ab_olt (k := 0) hq ab_ks_11)) _ hq⟩
theorem ab_fl_at {o ix a b : Nat} (h : (ab_fl o).any (fun q => q.1 == ix && q.2.1 == a && q.2.2.1 == b) = true) : ∃ k, ab_flb o (ix, a, b, k) = true := by
  obtain ⟨q, hq, he⟩ := List.any_eq_true.mp h
  obtain ⟨x, y, z, k⟩ := q
  simp only [Bool.and_eq_true, beq_iff_eq] at he
  obtain ⟨⟨rfl, rfl⟩, rfl⟩ := he
  exact ⟨k, List.all_eq_true.mp (ab_fl_ok o (ab_olt (k := 0) hq ab_fl_11)) _ hq⟩
theorem ab_js_at {o ix j : Nat} (h : (ab_js o).any (fun q => q.1 == ix && q.2.1 == j) = true) : Cond.methodLink (ab_on o) ix (ab_jn j) ∈ lw_good := by
  obtain ⟨q, hq, he⟩ := List.any_eq_true.mp h
  obtain ⟨x, y, k⟩ := q
  simp only [Bool.and_eq_true, beq_iff_eq] at he
  obtain ⟨rfl, rfl⟩ := he
  exact ab_at_in (List.all_eq_true.mp (ab_js_ok o (ab_olt (k := 0) hq ab_js_11)) _ hq)
theorem r_0 {l : Launch} {G : ab_Gt} {id d pc a b : Nat} {v : AV} {ts : List (Int × Nat)} {L st : List AV} {σ σ2 : Sg} {r : AV} (hc : ab_chk (ab_mo id) (ab_mb id) (ab_ml id) pc (0, a, b, v, ts) = true) (k : ab_Ret l G id d (pc + ab_ln (ab_mb id) pc) L (v :: st) σ r σ2) : ab_Ret l G id d pc L st σ r σ2 := by
  obtain ⟨i, n, hd, hn, hc⟩ := ab_chk_inv hc
  rw [hn] at k
  intro p e R s m args below meth c cells slots H locs ls C hL oL oS hP hS
  have go := fun (H : Heap) (locs : List Loc) (ls : Array Slot) => k p e R s m args below meth c cells slots H locs ls C
  obtain ⟨hx, hb, hml, hown, hts, hr, hlk, hf, hlo, hKK, hcs⟩ := C
  change ab_c0 (ab_mo id) i n v = true at hc
  unfold ab_c0 at hc
  split at hc
  · simp only [Bool.and_eq_true, beq_iff_eq, decide_eq_true_eq] at hc
    obtain ⟨rfl, rfl⟩ := hc
    exact lv_iconst hx hb hd rfl (go H locs ls hL oL (okc trivial oS) hP hS)
  · simp only [Bool.and_eq_true, beq_iff_eq, decide_eq_true_eq] at hc
    obtain ⟨rfl, rfl⟩ := hc
    exact lv_bipush hx hb hd rfl (go H locs ls hL oL (okc trivial oS) hP hS)
  · simp only [Bool.and_eq_true, beq_iff_eq, decide_eq_true_eq] at hc
    obtain ⟨rfl, rfl⟩ := hc
    exact lv_sipush hx hb hd rfl (go H locs ls hL oL (okc trivial oS) hP hS)
  · simp only [Bool.and_eq_true, beq_iff_eq, decide_eq_true_eq] at hc
    obtain ⟨rfl, rfl⟩ := hc
    exact lv_lconst hx hb hd rfl (go H locs ls hL oL (okc trivial oS) hP hS)
  · rename_i ix
    rw [Bool.and_eq_true, Bool.and_eq_true] at hc
    obtain ⟨⟨h2, h3⟩, h4⟩ := hc
    have h2 : n = 2 := by simpa using h2
    subst h2
    obtain ⟨q, hq⟩ := ab_ks_at h3
    match v with
    | .inl x => exact lv_ldc hx hb hown (ab_gw hts (ab_at_in hq)) hd (go H locs ls hL oL (okc trivial oS) hP hS)
    | .inr (.inl x) => cases h4
    | .inr (.inr (.inl w)) =>
      obtain ⟨g, w⟩ := w
      simp only [ab_ksb, Bool.and_eq_true, beq_iff_eq, decide_eq_true_eq] at hq
      obtain ⟨⟨⟨q1, rfl⟩, q3⟩, rfl⟩ := hq
      refine va_ldcS hx hb (by rw [q1] at hown; exact hown) (hKK.2.2.2.1 w q3) hd (go H locs ls hL oL (okc (Or.inr (Or.inl ⟨rfl, q3⟩)) oS) hP hS)
    | .inr (.inr (.inr u)) => cases hq
  · rename_i ix
    rw [Bool.and_eq_true, Bool.and_eq_true, Bool.and_eq_true] at hc
    obtain ⟨⟨⟨h2, h3⟩, h4⟩, h5⟩ := hc
    have h2 : n = 3 := by simpa using h2
    subst h2
    obtain ⟨q, hq⟩ := ab_ks_at h3
    match v with
    | .inl x => exact lv_ldcw hx hb hown (ab_gw hts (ab_at_in hq)) hd (go H locs ls hL oL (okc trivial oS) hP hS)
    | .inr (.inl x) => cases h4
    | .inr (.inr (.inl w)) => cases h5
    | .inr (.inr (.inr u)) => cases hq
  · rename_i ix
    rw [Bool.and_eq_true, Bool.and_eq_true] at hc
    obtain ⟨⟨h2, h3⟩, h4⟩ := hc
    have h2 : n = 3 := by simpa using h2
    subst h2
    obtain ⟨q, hq⟩ := ab_ks_at h3
    match v with
    | .inl x => cases h4
    | .inr (.inl x) => exact lv_ldc2 hx hb hown (ab_gw hts (ab_at_in hq)) hd (go H locs ls hL oL (okc trivial oS) hP hS)
    | .inr (.inr (.inl w)) => cases h4
    | .inr (.inr (.inr u)) => cases h4
  · simp only [Bool.and_eq_true, beq_iff_eq, decide_eq_true_eq] at hc
    obtain ⟨⟨⟨rfl, h1⟩, rfl⟩, rfl⟩ := hc
    rw [h1] at hown
    exact va_getsN hx hb (va_Z.kept hKK.2.2.1.1 (fun _ _ _ => rfl)) hS hown (va_Nw.use rfl hKK.2.1.2.2.2) (fun _ h => h) hd (go H locs ls hL oL (okc (Or.inr (Or.inr rfl)) oS) hP hS)
  · cases hc
theorem r_1 {l : Launch} {G : ab_Gt} {id d pc a b : Nat} {v : AV} {ts : List (Int × Nat)} {L st : List AV} {σ σ2 : Sg} {r : AV} {x : Int32} (hc : ab_chk (ab_mo id) (ab_mb id) (ab_ml id) pc (1, a, b, v, ts) = true) (hv : ab_nth vU L a = vI x) (k : ab_Ret l G id d (pc + ab_ln (ab_mb id) pc) L (vI x :: st) σ r σ2) : ab_Ret l G id d pc L st σ r σ2 := by
  obtain ⟨i, n, hd, hn, hc⟩ := ab_chk_inv hc
  rw [hn] at k
  intro p e R s m args below meth c cells slots H locs ls C hL oL oS hP hS
  have go := fun (H : Heap) (locs : List Loc) (ls : Array Slot) => k p e R s m args below meth c cells slots H locs ls C
  obtain ⟨hx, hb, hml, hown, hts, hr, hlk, hf, hlo, hKK, hcs⟩ := C
  change ab_c1 i n a (ab_ml id) = true at hc
  unfold ab_c1 at hc
  have hw : ls[a]? = some (.val (ab_val G (ab_nth vU L a))) := hL.2.2.2 a (by rw [hv]; exact fun h => by cases h)
  rw [hv] at hw
  have hok : ab_ok G (vI x) := by rw [← hv]; exact ab_nth_ok oL a
  split at hc
  · simp only [Bool.and_eq_true, beq_iff_eq, decide_eq_true_eq] at hc
    obtain ⟨⟨rfl, rfl⟩, h3⟩ := hc
    exact lv_iload hx hb hd hw (go H locs ls hL oL (okc hok oS) hP hS)
  · simp only [Bool.and_eq_true, beq_iff_eq, decide_eq_true_eq] at hc
    obtain ⟨⟨rfl, h2⟩, h3⟩ := hc
    exact lv_iload_n hx hb hd h2 hw (go H locs ls hL oL (okc hok oS) hP hS)
  · cases hc
theorem r_2 {l : Launch} {G : ab_Gt} {id d pc a b : Nat} {v : AV} {ts : List (Int × Nat)} {L st : List AV} {σ σ2 : Sg} {r : AV} {x : Int64} (hc : ab_chk (ab_mo id) (ab_mb id) (ab_ml id) pc (2, a, b, v, ts) = true) (hv : ab_nth vU L a = vL x) (k : ab_Ret l G id d (pc + ab_ln (ab_mb id) pc) L (vL x :: st) σ r σ2) : ab_Ret l G id d pc L st σ r σ2 := by
  obtain ⟨i, n, hd, hn, hc⟩ := ab_chk_inv hc
  rw [hn] at k
  intro p e R s m args below meth c cells slots H locs ls C hL oL oS hP hS
  have go := fun (H : Heap) (locs : List Loc) (ls : Array Slot) => k p e R s m args below meth c cells slots H locs ls C
  obtain ⟨hx, hb, hml, hown, hts, hr, hlk, hf, hlo, hKK, hcs⟩ := C
  change ab_c2 i n a (ab_ml id) = true at hc
  unfold ab_c2 at hc
  have hw : ls[a]? = some (.val (ab_val G (ab_nth vU L a))) := hL.2.2.2 a (by rw [hv]; exact fun h => by cases h)
  rw [hv] at hw
  have hok : ab_ok G (vL x) := by rw [← hv]; exact ab_nth_ok oL a
  split at hc
  · simp only [Bool.and_eq_true, beq_iff_eq, decide_eq_true_eq] at hc
    obtain ⟨⟨rfl, rfl⟩, h3⟩ := hc
    exact lv_lload hx hb hd hw (go H locs ls hL oL (okc hok oS) hP hS)
  · simp only [Bool.and_eq_true, beq_iff_eq, decide_eq_true_eq] at hc
    obtain ⟨⟨rfl, h2⟩, h3⟩ := hc
    exact lv_lload_n hx hb hd h2 hw (go H locs ls hL oL (okc hok oS) hP hS)
  · cases hc
theorem r_3 {l : Launch} {G : ab_Gt} {id d pc a b : Nat} {v : AV} {ts : List (Int × Nat)} {L st : List AV} {σ σ2 : Sg} {r : AV} {q : Nat × Nat} (hc : ab_chk (ab_mo id) (ab_mb id) (ab_ml id) pc (3, a, b, v, ts) = true) (hv : ab_nth vU L a = (.inr (.inr (.inl q)))) (k : ab_Ret l G id d (pc + ab_ln (ab_mb id) pc) L ((.inr (.inr (.inl q))) :: st) σ r σ2) : ab_Ret l G id d pc L st σ r σ2 := by
  obtain ⟨i, n, hd, hn, hc⟩ := ab_chk_inv hc
  rw [hn] at k
  intro p e R s m args below meth c cells slots H locs ls C hL oL oS hP hS
  have go := fun (H : Heap) (locs : List Loc) (ls : Array Slot) => k p e R s m args below meth c cells slots H locs ls C
  obtain ⟨hx, hb, hml, hown, hts, hr, hlk, hf, hlo, hKK, hcs⟩ := C
  change ab_c3 i n a (ab_ml id) = true at hc
  unfold ab_c3 at hc
  have hw : ls[a]? = some (.val (ab_val G (ab_nth vU L a))) := hL.2.2.2 a (by rw [hv]; exact fun h => by cases h)
  rw [hv] at hw
  have hok : ab_ok G ((.inr (.inr (.inl q)))) := by rw [← hv]; exact ab_nth_ok oL a
  split at hc
  · simp only [Bool.and_eq_true, beq_iff_eq, decide_eq_true_eq] at hc
    obtain ⟨⟨rfl, rfl⟩, h3⟩ := hc
    exact lv_aload hx hb hd hw (go H locs ls hL oL (okc hok oS) hP hS)
  · simp only [Bool.and_eq_true, beq_iff_eq, decide_eq_true_eq] at hc
    obtain ⟨⟨rfl, h2⟩, h3⟩ := hc
    exact lv_aload_n hx hb hd h2 hw (go H locs ls hL oL (okc hok oS) hP hS)
  · cases hc
theorem r_4 {l : Launch} {G : ab_Gt} {id d pc a b : Nat} {v : AV} {ts : List (Int × Nat)} {L st : List AV} {σ σ2 : Sg} {r : AV} {x : Int32} (hc : ab_chk (ab_mo id) (ab_mb id) (ab_ml id) pc (4, a, b, v, ts) = true) (k : ab_Ret l G id d (pc + ab_ln (ab_mb id) pc) (ab_sto L a (vI x)) st σ r σ2) : ab_Ret l G id d pc L (vI x :: st) σ r σ2 := by
  obtain ⟨i, n, hd, hn, hc⟩ := ab_chk_inv hc
  rw [hn] at k
  intro p e R s m args below meth c cells slots H locs ls C hL oL oS hP hS
  have go := fun (H : Heap) (locs : List Loc) (ls : Array Slot) => k p e R s m args below meth c cells slots H locs ls C
  obtain ⟨hx, hb, hml, hown, hts, hr, hlk, hf, hlo, hKK, hcs⟩ := C
  change ab_c4 i n a (ab_ml id) = true at hc
  unfold ab_c4 at hc
  obtain ⟨lv, hlv, hm⟩ := hL.lv
  have hok : ab_ok G (vI x) := oS _ List.mem_cons_self
  split at hc
  · simp only [Bool.and_eq_true, beq_iff_eq, decide_eq_true_eq] at hc
    obtain ⟨⟨rfl, rfl⟩, h3⟩ := hc
    exact lv_istore hx hb hd hlv h3 rfl (fun ls' h' => go H locs ls' (ab_LH.sto (v := vI x) hL.2.1 hm h3 h') (ab_sto_ok oL hok) (okt oS) hP hS)
  · simp only [Bool.and_eq_true, beq_iff_eq, decide_eq_true_eq] at hc
    obtain ⟨⟨rfl, h2⟩, h3⟩ := hc
    exact lv_istore_n hx hb hd h2 hlv h3 rfl (fun ls' h' => go H locs ls' (ab_LH.sto (v := vI x) hL.2.1 hm h3 h') (ab_sto_ok oL hok) (okt oS) hP hS)
  · cases hc
theorem r_5 {l : Launch} {G : ab_Gt} {id d pc a b : Nat} {v : AV} {ts : List (Int × Nat)} {L st : List AV} {σ σ2 : Sg} {r : AV} {x : Int64} (hc : ab_chk (ab_mo id) (ab_mb id) (ab_ml id) pc (5, a, b, v, ts) = true) (k : ab_Ret l G id d (pc + ab_ln (ab_mb id) pc) (ab_set (ab_sto L a (vL x)) (a + 1) vU) st σ r σ2) : ab_Ret l G id d pc L (vL x :: st) σ r σ2 := by
  obtain ⟨i, n, hd, hn, hc⟩ := ab_chk_inv hc
  rw [hn] at k
  intro p e R s m args below meth c cells slots H locs ls C hL oL oS hP hS
  have go := fun (H : Heap) (locs : List Loc) (ls : Array Slot) => k p e R s m args below meth c cells slots H locs ls C
  obtain ⟨hx, hb, hml, hown, hts, hr, hlk, hf, hlo, hKK, hcs⟩ := C
  change ab_c5 i n a (ab_ml id) = true at hc
  unfold ab_c5 at hc
  obtain ⟨lv, hlv, hm⟩ := hL.lv
  have hok : ab_ok G (vL x) := oS _ List.mem_cons_self
  split at hc
  · simp only [Bool.and_eq_true, beq_iff_eq, decide_eq_true_eq] at hc
    obtain ⟨⟨rfl, rfl⟩, h3⟩ := hc
    exact lv_lstore hx hb hd hlv h3 rfl (fun ls' h' => go H locs ls' (ab_LH.long hL.2.1 hm h3 h') (ab_set_ok (ab_sto_ok oL hok) trivial) (okt oS) hP hS)
  · simp only [Bool.and_eq_true, beq_iff_eq, decide_eq_true_eq] at hc
    obtain ⟨⟨rfl, h2⟩, h3⟩ := hc
    exact lv_lstore_n hx hb hd h2 hlv h3 rfl (fun ls' h' => go H locs ls' (ab_LH.long hL.2.1 hm h3 h') (ab_set_ok (ab_sto_ok oL hok) trivial) (okt oS) hP hS)
  · cases hc
theorem r_6 {l : Launch} {G : ab_Gt} {id d pc a b : Nat} {v : AV} {ts : List (Int × Nat)} {L st : List AV} {σ σ2 : Sg} {r : AV} {q : Nat × Nat} (hc : ab_chk (ab_mo id) (ab_mb id) (ab_ml id) pc (6, a, b, v, ts) = true) (k : ab_Ret l G id d (pc + ab_ln (ab_mb id) pc) (ab_sto L a (.inr (.inr (.inl q)))) st σ r σ2) : ab_Ret l G id d pc L ((.inr (.inr (.inl q))) :: st) σ r σ2 := by
  obtain ⟨i, n, hd, hn, hc⟩ := ab_chk_inv hc
  rw [hn] at k
  intro p e R s m args below meth c cells slots H locs ls C hL oL oS hP hS
  have go := fun (H : Heap) (locs : List Loc) (ls : Array Slot) => k p e R s m args below meth c cells slots H locs ls C
  obtain ⟨hx, hb, hml, hown, hts, hr, hlk, hf, hlo, hKK, hcs⟩ := C
  change ab_c6 i n a (ab_ml id) = true at hc
  unfold ab_c6 at hc
  obtain ⟨lv, hlv, hm⟩ := hL.lv
  have hok : ab_ok G ((.inr (.inr (.inl q)))) := oS _ List.mem_cons_self
  split at hc
  · simp only [Bool.and_eq_true, beq_iff_eq, decide_eq_true_eq] at hc
    obtain ⟨⟨rfl, rfl⟩, h3⟩ := hc
    exact lv_astore hx hb hd hlv h3 rfl (fun ls' h' => go H locs ls' (ab_LH.sto (v := .inr (.inr (.inl q))) hL.2.1 hm h3 h') (ab_sto_ok oL hok) (okt oS) hP hS)
  · simp only [Bool.and_eq_true, beq_iff_eq, decide_eq_true_eq] at hc
    obtain ⟨⟨rfl, h2⟩, h3⟩ := hc
    exact lv_astore_n hx hb hd h2 hlv h3 rfl (fun ls' h' => go H locs ls' (ab_LH.sto (v := .inr (.inr (.inl q))) hL.2.1 hm h3 h') (ab_sto_ok oL hok) (okt oS) hP hS)
  · cases hc
theorem r_7 {l : Launch} {G : ab_Gt} {id d pc a b : Nat} {v : AV} {ts : List (Int × Nat)} {L st : List AV} {σ σ2 : Sg} {r : AV} {x y : Int32} (hc : ab_chk (ab_mo id) (ab_mb id) (ab_ml id) pc (7, a, b, vI y, ts) = true) (hv : ab_nth vU L a = vI x) (k : ab_Ret l G id d (pc + ab_ln (ab_mb id) pc) (ab_set L a (vI (x + y))) st σ r σ2) : ab_Ret l G id d pc L st σ r σ2 := by
  obtain ⟨i, n, hd, hn, hc⟩ := ab_chk_inv hc
  rw [hn] at k
  intro p e R s m args below meth c cells slots H locs ls C hL oL oS hP hS
  have go := fun (H : Heap) (locs : List Loc) (ls : Array Slot) => k p e R s m args below meth c cells slots H locs ls C
  obtain ⟨hx, hb, hml, hown, hts, hr, hlk, hf, hlo, hKK, hcs⟩ := C
  change ab_c7 i n a (ab_ml id) (vI y) = true at hc
  unfold ab_c7 at hc
  have hw : ls[a]? = some (.val (ab_val G (ab_nth vU L a))) := hL.2.2.2 a (by rw [hv]; exact fun h => by cases h)
  rw [hv] at hw
  obtain ⟨lv, hlv, hm⟩ := hL.lv
  split at hc
  · rename_i kq zq
    simp only [Bool.and_eq_true, beq_iff_eq, decide_eq_true_eq] at hc
    obtain ⟨⟨⟨rfl, rfl⟩, h3⟩, h4⟩ := hc
    have h4 := Sum.inl.inj h4
    have hmem : (kq, Value.int x) ∈ lv := by
      have := hm kq (by rw [hv]; exact fun h => by cases h)
      rw [hv] at this
      exact this
    obtain ⟨k0, hk0⟩ := List.getElem?_of_mem hmem
    refine lv_iinc hx hb hd hlv hk0 (by rw [h4]) h3 rfl (fun ls' h' => go H locs ls' (ab_LH.set1 (v := vI (x + y)) hL.2.1 hm h3 ⟨x, hv⟩ (fun k z e1 e2 => ?_) h') (ab_set_ok oL trivial) oS hP hS)
    have h5 := hL.2.2.2 k (by rw [e2]; exact fun h => by cases h)
    rw [e2] at h5
    have h6 := hL.2.2.1.1 k _ h5 rfl
    rw [e1, hw] at h6
    cases h6
  · cases hc
theorem r_8 {l : Launch} {G : ab_Gt} {id d pc a b : Nat} {v : AV} {ts : List (Int × Nat)} {L st : List AV} {σ σ2 : Sg} {r : AV} {x y : Int32} (hc : ab_chk (ab_mo id) (ab_mb id) (ab_ml id) pc (8, a, b, v, ts) = true) (k : ab_Ret l G id d (pc + ab_ln (ab_mb id) pc) L (vI (ab_i2 a x y) :: st) σ r σ2) : ab_Ret l G id d pc L (vI y :: vI x :: st) σ r σ2 := by
  obtain ⟨i, n, hd, hn, hc⟩ := ab_chk_inv hc
  rw [hn] at k
  intro p e R s m args below meth c cells slots H locs ls C hL oL oS hP hS
  have go := fun (H : Heap) (locs : List Loc) (ls : Array Slot) => k p e R s m args below meth c cells slots H locs ls C
  obtain ⟨hx, hb, hml, hown, hts, hr, hlk, hf, hlo, hKK, hcs⟩ := C
  change ab_c8 i n a = true at hc
  unfold ab_c8 at hc
  rw [Bool.and_eq_true] at hc
  obtain ⟨hn1, hc⟩ := hc
  have hn1 : n = 1 := by simpa using hn1
  subst hn1
  split at hc
  · have hc : a = 0 := by simpa using hc
    subst hc
    exact lv_iadd hx hb hd (go H locs ls hL oL (okc trivial (okt (okt oS))) hP hS)
  · have hc : a = 1 := by simpa using hc
    subst hc
    exact lv_isub hx hb hd (go H locs ls hL oL (okc trivial (okt (okt oS))) hP hS)
  · have hc : a = 2 := by simpa using hc
    subst hc
    exact lv_imul hx hb hd (go H locs ls hL oL (okc trivial (okt (okt oS))) hP hS)
  · have hc : a = 3 := by simpa using hc
    subst hc
    exact lv_iand hx hb hd (go H locs ls hL oL (okc trivial (okt (okt oS))) hP hS)
  · have hc : a = 4 := by simpa using hc
    subst hc
    exact lv_ior hx hb hd (go H locs ls hL oL (okc trivial (okt (okt oS))) hP hS)
  · have hc : a = 5 := by simpa using hc
    subst hc
    exact lv_ishl hx hb hd (go H locs ls hL oL (okc trivial (okt (okt oS))) hP hS)
  · have hc : a = 6 := by simpa using hc
    subst hc
    exact lv_ishr hx hb hd (go H locs ls hL oL (okc trivial (okt (okt oS))) hP hS)
  · have hc : a = 7 := by simpa using hc
    subst hc
    exact lv_iushr hx hb hd rfl (go H locs ls hL oL (okc trivial (okt (okt oS))) hP hS)
  · cases hc
theorem r_9 {l : Launch} {G : ab_Gt} {id d pc a b : Nat} {v : AV} {ts : List (Int × Nat)} {L st : List AV} {σ σ2 : Sg} {r : AV} {x y : Int32} (hc : ab_chk (ab_mo id) (ab_mb id) (ab_ml id) pc (9, a, b, v, ts) = true) (hy : ¬ y = 0) (k : ab_Ret l G id d (pc + ab_ln (ab_mb id) pc) L (vI (ab_d9 a x y) :: st) σ r σ2) : ab_Ret l G id d pc L (vI y :: vI x :: st) σ r σ2 := by
  obtain ⟨i, n, hd, hn, hc⟩ := ab_chk_inv hc
  rw [hn] at k
  intro p e R s m args below meth c cells slots H locs ls C hL oL oS hP hS
  have go := fun (H : Heap) (locs : List Loc) (ls : Array Slot) => k p e R s m args below meth c cells slots H locs ls C
  obtain ⟨hx, hb, hml, hown, hts, hr, hlk, hf, hlo, hKK, hcs⟩ := C
  change ab_c9 i n a = true at hc
  unfold ab_c9 at hc
  rw [Bool.and_eq_true] at hc
  obtain ⟨hn1, hc⟩ := hc
  have hn1 : n = 1 := by simpa using hn1
  subst hn1
  split at hc
  · have hc : a = 0 := by simpa using hc
    subst hc
    exact lv_idiv hx hb hd hy (go H locs ls hL oL (okc trivial (okt (okt oS))) hP hS)
  · have hc : a = 1 := by simpa using hc
    subst hc
    exact lv_irem hx hb hd hy (go H locs ls hL oL (okc trivial (okt (okt oS))) hP hS)
  · cases hc
theorem r_10 {l : Launch} {G : ab_Gt} {id d pc a b : Nat} {v : AV} {ts : List (Int × Nat)} {L st : List AV} {σ σ2 : Sg} {r : AV} {x : Int32} (hc : ab_chk (ab_mo id) (ab_mb id) (ab_ml id) pc (10, a, b, v, ts) = true) (k : ab_Ret l G id d (pc + ab_ln (ab_mb id) pc) L (vI (ab_d10 a x) :: st) σ r σ2) : ab_Ret l G id d pc L (vI x :: st) σ r σ2 := by
  obtain ⟨i, n, hd, hn, hc⟩ := ab_chk_inv hc
  rw [hn] at k
  intro p e R s m args below meth c cells slots H locs ls C hL oL oS hP hS
  have go := fun (H : Heap) (locs : List Loc) (ls : Array Slot) => k p e R s m args below meth c cells slots H locs ls C
  obtain ⟨hx, hb, hml, hown, hts, hr, hlk, hf, hlo, hKK, hcs⟩ := C
  change ab_c10 i n a = true at hc
  unfold ab_c10 at hc
  rw [Bool.and_eq_true] at hc
  obtain ⟨hn1, hc⟩ := hc
  have hn1 : n = 1 := by simpa using hn1
  subst hn1
  split at hc
  · have hc : a = 0 := by simpa using hc
    subst hc
    exact lv_ineg hx hb hd (go H locs ls hL oL (okc trivial (okt oS)) hP hS)
  · have hc : a = 1 := by simpa using hc
    subst hc
    exact lv_i2b hx hb hd rfl (go H locs ls hL oL (okc trivial (okt oS)) hP hS)
  · have hc : a = 2 := by simpa using hc
    subst hc
    exact lv_i2s hx hb hd rfl (go H locs ls hL oL (okc trivial (okt oS)) hP hS)
  · cases hc
theorem r_13 {l : Launch} {G : ab_Gt} {id d pc a b : Nat} {v : AV} {ts : List (Int × Nat)} {L st : List AV} {σ σ2 : Sg} {r : AV} {x y : Int64} (hc : ab_chk (ab_mo id) (ab_mb id) (ab_ml id) pc (13, a, b, v, ts) = true) (k : ab_Ret l G id d (pc + ab_ln (ab_mb id) pc) L (vL (ab_l2 a x y) :: st) σ r σ2) : ab_Ret l G id d pc L (vL y :: vL x :: st) σ r σ2 := by
  obtain ⟨i, n, hd, hn, hc⟩ := ab_chk_inv hc
  rw [hn] at k
  intro p e R s m args below meth c cells slots H locs ls C hL oL oS hP hS
  have go := fun (H : Heap) (locs : List Loc) (ls : Array Slot) => k p e R s m args below meth c cells slots H locs ls C
  obtain ⟨hx, hb, hml, hown, hts, hr, hlk, hf, hlo, hKK, hcs⟩ := C
  change ab_c13 i n a = true at hc
  unfold ab_c13 at hc
  rw [Bool.and_eq_true] at hc
  obtain ⟨hn1, hc⟩ := hc
  have hn1 : n = 1 := by simpa using hn1
  subst hn1
  split at hc
  · have hc : a = 0 := by simpa using hc
    subst hc
    exact lv_ladd hx hb hd (go H locs ls hL oL (okc trivial (okt (okt oS))) hP hS)
  · have hc : a = 1 := by simpa using hc
    subst hc
    exact lv_lsub hx hb hd (go H locs ls hL oL (okc trivial (okt (okt oS))) hP hS)
  · have hc : a = 2 := by simpa using hc
    subst hc
    exact lv_lmul hx hb hd (go H locs ls hL oL (okc trivial (okt (okt oS))) hP hS)
  · cases hc
theorem r_14 {l : Launch} {G : ab_Gt} {id d pc a b : Nat} {v : AV} {ts : List (Int × Nat)} {L st : List AV} {σ σ2 : Sg} {r : AV} {x y : Int64} (hc : ab_chk (ab_mo id) (ab_mb id) (ab_ml id) pc (14, a, b, v, ts) = true) (hy : ¬ y = 0) (k : ab_Ret l G id d (pc + ab_ln (ab_mb id) pc) L (vL (ab_d14 a x y) :: st) σ r σ2) : ab_Ret l G id d pc L (vL y :: vL x :: st) σ r σ2 := by
  obtain ⟨i, n, hd, hn, hc⟩ := ab_chk_inv hc
  rw [hn] at k
  intro p e R s m args below meth c cells slots H locs ls C hL oL oS hP hS
  have go := fun (H : Heap) (locs : List Loc) (ls : Array Slot) => k p e R s m args below meth c cells slots H locs ls C
  obtain ⟨hx, hb, hml, hown, hts, hr, hlk, hf, hlo, hKK, hcs⟩ := C
  change ab_c14 i n a = true at hc
  unfold ab_c14 at hc
  rw [Bool.and_eq_true] at hc
  obtain ⟨hn1, hc⟩ := hc
  have hn1 : n = 1 := by simpa using hn1
  subst hn1
  split at hc
  · have hc : a = 0 := by simpa using hc
    subst hc
    exact lv_ldiv hx hb hd hy (go H locs ls hL oL (okc trivial (okt (okt oS))) hP hS)
  · have hc : a = 1 := by simpa using hc
    subst hc
    exact lv_lrem hx hb hd hy (go H locs ls hL oL (okc trivial (okt (okt oS))) hP hS)
  · cases hc
theorem r_11 {l : Launch} {G : ab_Gt} {id d pc a b : Nat} {v : AV} {ts : List (Int × Nat)} {L st : List AV} {σ σ2 : Sg} {r : AV} {x : Int32} (hc : ab_chk (ab_mo id) (ab_mb id) (ab_ml id) pc (11, a, b, v, ts) = true) (k : ab_Ret l G id d (pc + ab_ln (ab_mb id) pc) L (vL x.toInt64 :: st) σ r σ2) : ab_Ret l G id d pc L (vI x :: st) σ r σ2 := by
  obtain ⟨i, n, hd, hn, hc⟩ := ab_chk_inv hc
  rw [hn] at k
  intro p e R s m args below meth c cells slots H locs ls C hL oL oS hP hS
  have go := fun (H : Heap) (locs : List Loc) (ls : Array Slot) => k p e R s m args below meth c cells slots H locs ls C
  obtain ⟨hx, hb, hml, hown, hts, hr, hlk, hf, hlo, hKK, hcs⟩ := C
  change ab_cp i n 11 = true at hc
  unfold ab_cp at hc
  rw [Bool.and_eq_true] at hc
  obtain ⟨hn1, hc⟩ := hc
  have hn1 : n = 1 := by simpa using hn1
  subst hn1
  split at hc <;> first | (exact absurd hc (by decide)) | skip
  exact lv_i2l hx hb hd rfl (go H locs ls hL oL (okc trivial (okt oS)) hP hS)
theorem r_12 {l : Launch} {G : ab_Gt} {id d pc a b : Nat} {v : AV} {ts : List (Int × Nat)} {L st : List AV} {σ σ2 : Sg} {r : AV} {x : Int64} (hc : ab_chk (ab_mo id) (ab_mb id) (ab_ml id) pc (12, a, b, v, ts) = true) (k : ab_Ret l G id d (pc + ab_ln (ab_mb id) pc) L (vI x.toInt32 :: st) σ r σ2) : ab_Ret l G id d pc L (vL x :: st) σ r σ2 := by
  obtain ⟨i, n, hd, hn, hc⟩ := ab_chk_inv hc
  rw [hn] at k
  intro p e R s m args below meth c cells slots H locs ls C hL oL oS hP hS
  have go := fun (H : Heap) (locs : List Loc) (ls : Array Slot) => k p e R s m args below meth c cells slots H locs ls C
  obtain ⟨hx, hb, hml, hown, hts, hr, hlk, hf, hlo, hKK, hcs⟩ := C
  change ab_cp i n 12 = true at hc
  unfold ab_cp at hc
  rw [Bool.and_eq_true] at hc
  obtain ⟨hn1, hc⟩ := hc
  have hn1 : n = 1 := by simpa using hn1
  subst hn1
  split at hc <;> first | (exact absurd hc (by decide)) | skip
  exact lv_l2i hx hb hd rfl (go H locs ls hL oL (okc trivial (okt oS)) hP hS)
theorem r_15 {l : Launch} {G : ab_Gt} {id d pc a b : Nat} {v : AV} {ts : List (Int × Nat)} {L st : List AV} {σ σ2 : Sg} {r : AV} {x y : Int64} (hc : ab_chk (ab_mo id) (ab_mb id) (ab_ml id) pc (15, a, b, v, ts) = true) (k : ab_Ret l G id d (pc + ab_ln (ab_mb id) pc) L (vI (lg_cmp x y) :: st) σ r σ2) : ab_Ret l G id d pc L (vL y :: vL x :: st) σ r σ2 := by
  obtain ⟨i, n, hd, hn, hc⟩ := ab_chk_inv hc
  rw [hn] at k
  intro p e R s m args below meth c cells slots H locs ls C hL oL oS hP hS
  have go := fun (H : Heap) (locs : List Loc) (ls : Array Slot) => k p e R s m args below meth c cells slots H locs ls C
  obtain ⟨hx, hb, hml, hown, hts, hr, hlk, hf, hlo, hKK, hcs⟩ := C
  change ab_cp i n 15 = true at hc
  unfold ab_cp at hc
  rw [Bool.and_eq_true] at hc
  obtain ⟨hn1, hc⟩ := hc
  have hn1 : n = 1 := by simpa using hn1
  subst hn1
  split at hc <;> first | (exact absurd hc (by decide)) | skip
  exact W.lcmp hx hb hd (go H locs ls hL oL (okc trivial (okt (okt oS))) hP hS)
theorem r_16 {l : Launch} {G : ab_Gt} {id d pc a b : Nat} {v : AV} {ts : List (Int × Nat)} {L st : List AV} {σ σ2 : Sg} {r : AV} {x : Int32} (hc : ab_chk (ab_mo id) (ab_mb id) (ab_ml id) pc (16, a, b, v, ts) = true) (k : ab_Ret l G id d (pc + ab_ln (ab_mb id) pc) L (vI x :: vI x :: st) σ r σ2) : ab_Ret l G id d pc L (vI x :: st) σ r σ2 := by
  obtain ⟨i, n, hd, hn, hc⟩ := ab_chk_inv hc
  rw [hn] at k
  intro p e R s m args below meth c cells slots H locs ls C hL oL oS hP hS
  have go := fun (H : Heap) (locs : List Loc) (ls : Array Slot) => k p e R s m args below meth c cells slots H locs ls C
  obtain ⟨hx, hb, hml, hown, hts, hr, hlk, hf, hlo, hKK, hcs⟩ := C
  change ab_cp i n 16 = true at hc
  unfold ab_cp at hc
  rw [Bool.and_eq_true] at hc
  obtain ⟨hn1, hc⟩ := hc
  have hn1 : n = 1 := by simpa using hn1
  subst hn1
  split at hc <;> first | (exact absurd hc (by decide)) | skip
  exact lv_dup hx hb hd rfl (go H locs ls hL oL (okc trivial oS) hP hS)
theorem r_16r {l : Launch} {G : ab_Gt} {id d pc a b : Nat} {v : AV} {ts : List (Int × Nat)} {L st : List AV} {σ σ2 : Sg} {r : AV} {q : Nat × Nat} (hc : ab_chk (ab_mo id) (ab_mb id) (ab_ml id) pc (16, a, b, v, ts) = true) (k : ab_Ret l G id d (pc + ab_ln (ab_mb id) pc) L (.inr (.inr (.inl q)) :: .inr (.inr (.inl q)) :: st) σ r σ2) : ab_Ret l G id d pc L (.inr (.inr (.inl q)) :: st) σ r σ2 := by
  obtain ⟨i, n, hd, hn, hc⟩ := ab_chk_inv hc
  rw [hn] at k
  intro p e R s m args below meth c cells slots H locs ls C hL oL oS hP hS
  have go := fun (H : Heap) (locs : List Loc) (ls : Array Slot) => k p e R s m args below meth c cells slots H locs ls C
  obtain ⟨hx, hb, hml, hown, hts, hr, hlk, hf, hlo, hKK, hcs⟩ := C
  change ab_cp i n 16 = true at hc
  unfold ab_cp at hc
  rw [Bool.and_eq_true] at hc
  obtain ⟨hn1, hc⟩ := hc
  have hn1 : n = 1 := by simpa using hn1
  subst hn1
  split at hc <;> first | (exact absurd hc (by decide)) | skip
  exact lv_dup hx hb hd rfl (go H locs ls hL oL (okc (oS _ List.mem_cons_self) oS) hP hS)
theorem r_17 {l : Launch} {G : ab_Gt} {id d pc a b : Nat} {v : AV} {ts : List (Int × Nat)} {L st : List AV} {σ σ2 : Sg} {r : AV} {x : Int32} (hc : ab_chk (ab_mo id) (ab_mb id) (ab_ml id) pc (17, a, b, v, ts) = true) (k : ab_Ret l G id d (pc + ab_ln (ab_mb id) pc) L st σ r σ2) : ab_Ret l G id d pc L (vI x :: st) σ r σ2 := by
  obtain ⟨i, n, hd, hn, hc⟩ := ab_chk_inv hc
  rw [hn] at k
  intro p e R s m args below meth c cells slots H locs ls C hL oL oS hP hS
  have go := fun (H : Heap) (locs : List Loc) (ls : Array Slot) => k p e R s m args below meth c cells slots H locs ls C
  obtain ⟨hx, hb, hml, hown, hts, hr, hlk, hf, hlo, hKK, hcs⟩ := C
  change ab_cp i n 17 = true at hc
  unfold ab_cp at hc
  rw [Bool.and_eq_true] at hc
  obtain ⟨hn1, hc⟩ := hc
  have hn1 : n = 1 := by simpa using hn1
  subst hn1
  split at hc <;> first | (exact absurd hc (by decide)) | skip
  exact lv_pop hx hb hd rfl (go H locs ls hL oL (okt oS) hP hS)
