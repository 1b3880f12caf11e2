/-! calls; and a whole text of steps: what the abstract machine answers, the machine answers -/
theorem ab_goes {p : Program} {l : Launch} {e : Env} {R : Room} {s : State} {m : MethodId} {args : Array Value} {below : List Frame} {meth : Method} {c : Code} {H : Heap} {locs : List Loc} {Q : State → Prop} {G : ab_Gt} {pc cells slots : Nat} {ls : Array Slot} {st0 rest : List Value} {r0 : AV} {σ1 : Sg} {a0 : Array Value}
    (hr : va_Run p l e R s m args below meth c H locs cells slots 0 0 (F0 m pc ls st0) rest (ab_Qc G r0 σ1 a0) (gA G)) (hS : va_S (gA G) s.heap H locs)
    (kk : ∀ (H1 : Heap) (locs1 : List Loc), va_P (gD G) ab_cl (ab_ws G σ1) H1 → va_S (gA G) s.heap H1 locs1 → W p l e R s m args below meth c H1 locs1 cells slots Q (F0 m (pc + 3) ls ((ab_rv G r0).toList ++ rest))) : W p l e R s m args below meth c H locs cells slots Q (F0 m pc ls st0) := by
  intro T hT X
  obtain ⟨v, st₀, t, T', L, h0, X', hL, e1, e2, ⟨hv, hPw, hz, hk⟩, st⟩ := hr T hT X
  have hv := Outcome.returned.inj hv
  subst hv
  rw [h0] at hz hk
  obtain ⟨t2, a1, b1⟩ := kk T'.heap (locs ++ L) (by rw [e1]; exact hPw)
    ⟨Nat.le_trans hS.1 (by rw [e1]; exact hz), fun q h1 h2 => by rw [e1, hk q (Nat.lt_of_lt_of_le h1 hS.1) h2]; exact hS.2.1 q h1 h2, fun q hq => by
      rcases List.mem_append.mp hq with h | h
      · exact hS.2.2 q h
      · exact hL q h⟩ T' rfl X'
  exact ⟨t2, st t2 a1, b1⟩
/-- the receiver is of the method's class -/
def ab_rc2 (id : Nat) (as : List AV) : Prop := match as with
  | .inr (.inr (.inl q)) :: _ => (ab_kd q.1 = 0 ∧ (ab_cl[ab_ci q.1]?).map (fun x => x.1) = some (ab_my id).cls) ∨ (q.1 = 60 ∧ (ab_my id).cls = "java/lang/String")
  | _ => False
def ab_push (r : AV) (st : List AV) : List AV := match r with
  | .inr (.inr (.inr _)) => st
  | r => r :: st
theorem ab_push_val (G : ab_Gt) (r : AV) (st : List AV) : (ab_push r st).map (ab_val G) = (ab_rv G r).toList ++ st.map (ab_val G) := by
  match r with
  | .inl x => rfl
  | .inr (.inl x) => rfl
  | .inr (.inr (.inl q)) => rfl
  | .inr (.inr (.inr u)) => rfl
theorem ab_push_ok {G : ab_Gt} {r : AV} {st : List AV} (hr : ab_isR r = false) (h : ∀ v ∈ st, ab_ok G v) : ∀ v ∈ ab_push r st, ab_ok G v := by
  match r with
  | .inl x => exact okc trivial h
  | .inr (.inl x) => exact okc trivial h
  | .inr (.inr (.inl q)) => cases hr
  | .inr (.inr (.inr u)) => exact h
theorem ab_W_good (id a : Nat) (h : a < 230) : GoodIn (ab_W id) (ab_W a) := by
  intro w hw
  rcases List.mem_cons.mp hw with e | hw
  · rw [e]
    exact ⟨List.mem_cons_of_mem _ (ab_code_in h), good_of_word rfl⟩
  · exact ⟨List.mem_cons_of_mem _ hw, good_of_word (List.mem_filter.mp hw).2⟩
theorem ab_mk_facts {a : Nat} (h : a < 230) : ab_ml a ≤ 40 ∧ Cond.initialized (ab_my a).cls ∈ lw_good ∧ ((ab_my a).cls ≠ "java/lang/invoke/MethodHandle" ∧ (ab_my a).cls ≠ "java/lang/invoke/VarHandle") ∧ plainName (ab_my a).cls = true ∧ (ab_mt a = 0 → Cond.instanceMethod (ab_my a) ∈ lw_good ∧ Cond.selects (ab_my a).cls (ab_my a) (ab_my a) ∈ lw_good) ∧ (ab_mt a ≠ 0 → Cond.static (ab_my a) ∈ lw_good) := by
  have h1 := List.all_eq_true.mp ab_mk_ok a (List.mem_range.mpr h)
  unfold ab_mkb at h1
  rw [Bool.and_eq_true, Bool.and_eq_true, Bool.and_eq_true, Bool.and_eq_true, Bool.and_eq_true, Bool.and_eq_true] at h1
  obtain ⟨⟨⟨⟨⟨⟨-, h2⟩, h3⟩, h4⟩, h5⟩, h6⟩, h7⟩ := h1
  refine ⟨of_decide_eq_true h2, ab_at_in h3, ⟨by simpa using h4, by simpa using h5⟩, h6, fun e => ?_, fun e => ?_⟩
  · rw [e] at h7
    have h7 : (ab_at (ab_mk a).2.1 (.instanceMethod (ab_my a)) && ab_at (ab_mk a).2.2.1 (.selects (ab_my a).cls (ab_my a) (ab_my a))) = true := h7
    rw [Bool.and_eq_true] at h7
    exact ⟨ab_at_in h7.1, ab_at_in h7.2⟩
  · split at h7
    · exact absurd ‹_› e
    · exact ab_at_in h7
def ab_c44v (o : Nat) (n id b ix : Nat) : Bool := n == 3 && (ab_cs o).any (fun q => q.1 == ix && q.2.1 == id && q.2.2.1 + 1 == b && q.2.2.2.1 == 0)
def ab_c44s (o : Nat) (n id b ix : Nat) : Bool := n == 3 && (ab_cs o).any (fun q => q.1 == ix && q.2.1 == id && q.2.2.1 == b && !(q.2.2.2.1 == 0))
def ab_c44 (o : Nat) (i : Instr) (n id b : Nat) : Bool := match i with
  | .invokevirtual ix => ab_c44v o n id b ix
  | .invokestatic ix => ab_c44s o n id b ix
  | _ => false
theorem ab_recv {G : ab_Gt} {σ : Sg} {s : State} {H : Heap} {locs : List Loc} {a : Nat} {q : Nat × Nat} {as : List AV} (hG9 : ∀ q ∈ gP G, ab_kd q.1 ≠ 9) (hP : va_P (gD G) ab_cl (ab_ws G σ) H) (hS : va_S (gA G) s.heap H locs) (hKK : ab_KK G s) (hq : ab_okr G q) (hr : ab_rc2 a (.inr (.inr (.inl q)) :: as)) : ∃ cellB : Cell, H[gad G q.1 q.2]? = some cellB ∧ cellB.vm.isStatics = false ∧ s.vm.findClass (ab_my a).cls = some cellB.cls := by
  obtain ⟨g, i⟩ := q
  rcases hr with ⟨hk, hn⟩ | ⟨hk, hn⟩
  · have hin : (g, i) ∈ gP G := ab_in hq (by rw [show ab_kd g = 0 from hk]; decide)
    obtain ⟨q0, hq0, he⟩ := ab_ws_at σ hin
    rw [ab_ent_0 hk] at he
    obtain ⟨r, h1, cell, h2, h3, h4, h5⟩ := hP q0 _ he
    have h1 : ab_cl[ab_ci g]? = some r := h1
    obtain ⟨-, hfc, -⟩ := hKK.1.1 (ab_ci g) r h1
    refine ⟨cell, h2, by rw [h4]; rfl, ?_⟩
    have hn : (ab_cl[ab_ci g]?).map (fun x => x.1) = some (ab_my a).cls := hn
    rw [h1] at hn
    rw [← Option.some.inj hn, h3]
    exact hfc
  · have hk : g = 60 := hk
    subst hk
    rcases hq with h | ⟨-, h⟩ | h
    · exact absurd rfl (hG9 _ h)
    · obtain ⟨cell, h1, h2, h3⟩ := vk_recv (hKK.2.2.2.2.1) h hS
      exact ⟨cell, h1, h2, by rw [hn]; exact h3⟩
    · cases h
theorem ab_cs_any {o : Nat} {f : Nat × Nat × Nat × Nat × Nat → Bool} (h : (ab_cs o).any f = true) : ∃ q, ab_csb o q = true ∧ f q = true := by
  obtain ⟨q, hq, he⟩ := List.any_eq_true.mp h
  exact ⟨q, List.all_eq_true.mp (ab_cs_ok o (ab_olt (k := 0) hq ab_cs_11)) _ hq, he⟩
theorem ab_rest_ok {G : ab_Gt} {as st : List AV} (h : ∀ v ∈ as.reverse ++ st, ab_ok G v) : (∀ v ∈ as, ab_ok G v) ∧ ∀ v ∈ st, ab_ok G v := ⟨fun v hv => h v (List.mem_append_left _ (List.mem_reverse.mpr hv)), fun v hv => h v (List.mem_append_right _ hv)⟩
theorem ab_Pc_of {G : ab_Gt} {s : State} {H : Heap} {locs : List Loc} {as : List AV} {σ : Sg} (hP : va_P (gD G) ab_cl (ab_ws G σ) H) (hS : va_S (gA G) s.heap H locs) (hKK : ab_KK G s) : ∀ U : State, U.heap = H → s.WarmedH U.vm → ab_Pc G as σ (as.map (ab_val G)).toArray U := fun U hU hW =>
  ⟨rfl, by rw [hU]; exact hP, hKK.moved hW (fun q h1 h2 => by rw [hU]; exact hS.2.1 q h1 h2)⟩
theorem r_44 {l : Launch} {G : ab_Gt} {id d pc a b : Nat} {v : AV} {ts : List (Int × Nat)} {L as st : List AV} {σ σ1 σ2 : Sg} {r r0 : AV} {d' : Nat} (hG : ab_GG G) (hd' : d' + 1 ≤ d) (hlen : as.length = b) (hct : ab_cats st ≤ 8) (hCO : ab_CO l G a d' as σ r0 σ1) (hrc : ab_mt a = 0 → ab_rc2 a as) (hr0 : ab_isR r0 = false)
    (hc : ab_chk (ab_mo id) (ab_mb id) (ab_ml id) pc (44, a, b, v, ts) = true) (k : ab_Ret l G id d (pc + ab_ln (ab_mb id) pc) L (ab_push r0 st) σ1 r σ2) : ab_Ret l G id d pc L (as.reverse ++ st) σ r σ2 := by
  obtain ⟨i, n, hd, hn, hc⟩ := ab_chk_inv hc
  rw [hn] at k
  change ab_c44 (ab_mo id) i n a b = true at hc
  intro p e R s m args below meth c cells slots H locs ls C hL oL oS hP hS
  have go := fun (H : Heap) (locs : List Loc) (ls : Array Slot) => k p e R s m args below meth c cells slots H locs ls C
  obtain ⟨oA, oT⟩ := ab_rest_ok oS
  obtain ⟨hx, hb, hml, hown, hts, hr, hlk, hf, hlo, hKK, hcs⟩ := C
  have hM : ab_Met l G a d' as σ r0 σ1 := hCO oA
  have hsz : ls.size = ab_ml id := hL.1
  have hst : (as.reverse ++ st).map (ab_val G) = (as.map (ab_val G)).reverse ++ st.map (ab_val G) := by rw [List.map_append, List.map_reverse]
  rw [hst]
  have hwd : 2 * 0 + ((st.map (ab_val G)).map fun v => v.category).sum ≤ 8 := by rw [ab_cats_eq]; omega
  unfold ab_c44 at hc
  split at hc
  · rename_i ix
    unfold ab_c44v at hc
    rw [Bool.and_eq_true] at hc
    obtain ⟨h3, hc⟩ := hc
    have h3 : n = 3 := by simpa using h3
    subst h3
    obtain ⟨q, hq, he⟩ := ab_cs_any hc
    obtain ⟨x, y, z, kd, kl⟩ := q
    simp only [Bool.and_eq_true, beq_iff_eq] at he
    obtain ⟨⟨⟨rfl, rfl⟩, hz⟩, rfl⟩ := he
    have hq : (decide (y < 230) && decide ((parseMethodDescriptor (ab_my y).desc).map (fun d => d.parameters.length) = some z) && (ab_at kl (.methodLink (ab_on (ab_mo id)) x (ab_my y)) && ab_mt y == 0)) = true := hq
    simp only [Bool.and_eq_true, beq_iff_eq, decide_eq_true_eq] at hq
    obtain ⟨⟨hy, hpar⟩, hlink, hmt⟩ := hq
    obtain ⟨m1, m2, m3, m4, m5, m6⟩ := ab_mk_facts hy
    obtain ⟨m7, m8⟩ := m5 hmt
    have hrc := hrc hmt
    match as, hrc, hlen, oA, hM with
    | .inr (.inr (.inl q)) :: as, hrc, hlen, oA, hM =>
      have hal : (as.map (ab_val G)).length = z := by
        rw [List.length_map]
        simp only [List.length_cons] at hlen
        omega
      have hcb : CallB R s args (ab_on (ab_mo id)) x (ab_my y) (ab_mb y) (ab_ml y) (ab_mr y) (ab_W y) (ab_R d') 0 0 z := callB_of z hts (ab_W_good id y hy) rfl rfl rfl (ab_gw hts m2) (ab_gw hts (ab_at_in hlink)) ⟨m3.1, m3.2, hpar⟩ ⟨by show d' + 1 ≤ R.frames; omega, by show 8 + (ab_ml y + 11) + 64 * d' ≤ R.locals; omega⟩
      refine ab_goes (r0 := r0) (σ1 := σ1) (a0 := (Value.ref (gad G q.1 q.2) :: as.map (ab_val G)).toArray) (rest := st.map (ab_val G)) (va_runV (As := as.map (ab_val G)) (C := (ab_my y).cls) (b := gad G q.1 q.2) ⟨hx, hb, hml, hown, hts⟩ hM ⟨hcb, ab_gw hts m7, ab_gw hts m8⟩ ⟨ab_Pc.blind G _ σ, ab_recv hG.2.2.2.2 hP hS hKK (oA _ List.mem_cons_self) hrc, ab_Pc_of hP hS hKK⟩ rfl hal hsz ?_ hwd hd hcs) hS (fun H1 locs1 hP1 hS1 => ?_)
      · simp [ab_val]
      · rw [← ab_push_val]
        exact go H1 locs1 ls hL oL (ab_push_ok hr0 oT) hP1 hS1
  · rename_i ix
    unfold ab_c44s at hc
    rw [Bool.and_eq_true] at hc
    obtain ⟨h3, hc⟩ := hc
    have h3 : n = 3 := by simpa using h3
    subst h3
    obtain ⟨q, hq, he⟩ := ab_cs_any hc
    obtain ⟨x, y, z, kd, kl⟩ := q
    simp only [Bool.and_eq_true, beq_iff_eq, Bool.not_eq_true', beq_eq_false_iff_ne] at he
    obtain ⟨⟨⟨rfl, rfl⟩, hz⟩, hkd⟩ := he
    have hal : (as.map (ab_val G)).length = z := by rw [List.length_map]; omega
    match kd, hkd, hq with
    | 1, _, hq =>
      have hq : (decide (y < 230) && decide ((parseMethodDescriptor (ab_my y).desc).map (fun d => d.parameters.length) = some z) && (ab_at kl (.methodLink (ab_on (ab_mo id)) x (ab_my y)) && ab_mt y == 1)) = true := hq
      simp only [Bool.and_eq_true, beq_iff_eq, decide_eq_true_eq] at hq
      obtain ⟨⟨hy, hpar⟩, hlink, hmt⟩ := hq
      obtain ⟨m1, m2, m3, m4, m5, m6⟩ := ab_mk_facts hy
      have m7 := m6 (by rw [hmt]; decide)
      have hcb : CallB R s args (ab_on (ab_mo id)) x (ab_my y) (ab_mb y) (ab_ml y) (ab_mr y) (ab_W y) (ab_R d') 0 0 z := callB_of z hts (ab_W_good id y hy) rfl rfl rfl (ab_gw hts m2) (ab_gw hts (ab_at_in hlink)) ⟨m3.1, m3.2, hpar⟩ ⟨by show d' + 1 ≤ R.frames; omega, by show 8 + (ab_ml y + 11) + 64 * d' ≤ R.locals; omega⟩
      refine ab_goes (r0 := r0) (σ1 := σ1) (a0 := (as.map (ab_val G)).toArray) (rest := st.map (ab_val G)) (va_runS (As := as.map (ab_val G)) ⟨hx, hb, hml, hown, hts⟩ hM ⟨hcb, ab_gw hts m7⟩ ⟨ab_Pc.blind G _ σ, ab_Pc_of hP hS hKK⟩ rfl hal hsz rfl hwd hd hcs) hS (fun H1 locs1 hP1 hS1 => ?_)
      rw [← ab_push_val]
      exact go H1 locs1 ls hL oL (ab_push_ok hr0 oT) hP1 hS1
    | kd + 2, _, hq =>
      have hq : (decide (y < 230) && decide ((parseMethodDescriptor (ab_my y).desc).map (fun d => d.parameters.length) = some z) && (ab_nest (ab_mo id) x (ab_my y) && ab_mt y == 1)) = true := hq
      simp only [Bool.and_eq_true, beq_iff_eq, decide_eq_true_eq] at hq
      obtain ⟨⟨hy, hpar⟩, hlink, hmt⟩ := hq
      obtain ⟨m1, m2, m3, m4, m5, m6⟩ := ab_mk_facts hy
      have m7 := m6 (by rw [hmt]; decide)
      have hnest : va_Nw (.methodLinkNest (ab_on (ab_mo id)) x (ab_my y) "CoatsFitTheMood") s := by
        unfold ab_nest at hlink
        simp only [Bool.or_eq_true, Bool.and_eq_true, beq_iff_eq, decide_eq_true_eq] at hlink
        rcases hlink with (⟨⟨e1, e2⟩, e3⟩ | ⟨⟨e1, e2⟩, e3⟩) | ⟨⟨e1, e2⟩, e3⟩
        · rw [e1, e2, e3]; exact hKK.2.1.1
        · rw [e1, e2, e3]; exact hKK.2.1.2.1
        · rw [e1, e2, e3]; exact hKK.2.1.2.2.1
      have hcn : va_CN R s args (ab_on (ab_mo id)) x (ab_my y) "CoatsFitTheMood" (ab_mb y) (ab_ml y) (ab_mr y) (ab_W y) (ab_R d') 0 0 z := va_cnB z hts (ab_W_good id y hy) rfl rfl rfl hnest (ab_gw hts m2) ⟨m3.1, m3.2, hpar⟩ ⟨by show d' + 1 ≤ R.frames; omega, by show 8 + (ab_ml y + 11) + 64 * d' ≤ R.locals; omega⟩
      refine ab_goes (r0 := r0) (σ1 := σ1) (a0 := (as.map (ab_val G)).toArray) (rest := st.map (ab_val G)) (va_runSN (As := as.map (ab_val G)) ⟨hx, hb, hml, hown, hts⟩ hM ⟨hcn, ab_gw hts m7, trivial⟩ ⟨ab_Pc.blind G _ σ, ab_Pc_of hP hS hKK⟩ rfl hal hsz rfl hwd hd hcs) hS (fun H1 locs1 hP1 hS1 => ?_)
      rw [← ab_push_val]
      exact go H1 locs1 ls hL oL (ab_push_ok hr0 oT) hP1 hS1
  · cases hc
