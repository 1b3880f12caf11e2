/-! the law: a call on one side while the other side stands -/
section
variable {p : Program} {l : Launch} {e : Env} {s : State} {m : MethodId} {args : Array Value} {below : List Frame} {meth : Method} {c : Code} {H : Heap} {locs : List Loc} {cells slots : Nat} {Q : State → Prop} {pc ix : Nat} {ls : Array Slot} {rest : List Value}
theorem ab_after {R : Room} {G : ab_Gt} {A : Nat → Prop} {st0 : List Value} {r0 : AV} {σ1 : Sg} {a0 : Array Value} (hr : va_Run p l e R s m args below meth c H locs cells slots 0 0 (F0 m pc ls st0) rest (ab_Qc G r0 σ1 a0) (gA G)) (hS : va_S A s.heap H locs) (hsub : ∀ q, gA G q → A q)
    (kk : ∀ (H1 : Heap) (locs1 : List Loc), va_P (gD G) ab_cl (ab_ws G σ1) H1 → va_S A s.heap H1 locs1 → (∀ q : Nat, q < H.size → ¬ gA G q → H1[q]? = H[q]?) → W p l e R s m args below meth c H1 locs1 cells slots Q (F0 m (pc + 3) ls ((ab_rv G r0).toList ++ rest))) : W p l e R s m args below meth c H locs cells slots Q (F0 m pc ls st0) := by
  intro T hT X
  obtain ⟨v, st₀, t, T', L, h0, X', hL, e1, e2, ⟨hv, hPw, hz, hk⟩, st⟩ := hr T hT X
  have hv := Outcome.returned.inj hv
  subst hv
  rw [h0] at hz hk
  obtain ⟨t2, a1, b1⟩ := kk T'.heap (locs ++ L) (by rw [e1]; exact hPw)
    ⟨Nat.le_trans hS.1 (by rw [e1]; exact hz), fun q h1 h2 => by rw [e1, hk q (Nat.lt_of_lt_of_le h1 hS.1) (fun z => h2 (hsub q z))]; exact hS.2.1 q h1 h2, fun q hq => by
      rcases List.mem_append.mp hq with h | h
      · exact hS.2.2 q h
      · exact hsub _ (hL q h)⟩ (fun q h1 h2 => by rw [e1]; exact hk q h1 h2) T' rfl X'
  exact ⟨t2, st t2 a1, b1⟩
theorem law_run {G G2 : ab_Gt} {σ σ1 τ : Sg} {r0 : AV} {id d g0 : Nat} {as : List AV} (hx : p.tables.exec = Jvm.exec) (hb : c.code = code) (hml : c.maxLocals = 4) (hown : s.vm.findClass R_law = some m.cls) (hts : ∀ w ∈ lw_tbl, w.before args s = true)
    (hG : ab_GG G) (hG2 : ab_GG G2) (hKK : ab_KK G s) (hsub : ∀ q, gA G q → s.heap.size ≤ q) (hdis : ∀ q, gA G2 q → ¬ gA G q) (hid : id < 230) (hmt : ab_mt id = 0) (hCO : ab_CO l G id d (vR g0 0 :: as) σ r0 σ1) (hmem : (g0, 0) ∈ gP G) (has : ∀ v ∈ as, ab_ok G v) (hrc : ab_kd g0 = 0 ∧ (ab_cl[ab_ci g0]?).map (fun x => x.1) = some (ab_my id).cls)
    (hlink : Cond.methodLink R_law ix (ab_my id) ∈ lw_tbl) (hpar : (parseMethodDescriptor (ab_my id).desc).map (fun d => d.parameters.length) = some as.length) (hd : d ≤ 140) (hP : va_P (gD G) ab_cl (ab_ws G σ) H) (hP2 : va_P (gD G2) ab_cl (ab_ws G2 τ) H) (hS : va_S (fun q => s.heap.size ≤ q) s.heap H locs) (hsz : ls.size = 4) (hwd : (rest.map fun v => v.category).sum ≤ 8) (hcs : cells ≤ 600000 ∧ slots ≤ 7302250) (hdg : decode code pc = .ok (.invokevirtual ix, 3))
    (kk : ∀ (H1 : Heap) (locs1 : List Loc), va_P (gD G) ab_cl (ab_ws G σ1) H1 → va_P (gD G2) ab_cl (ab_ws G2 τ) H1 → va_S (fun q => s.heap.size ≤ q) s.heap H1 locs1 → W p l e room_1 s m args below meth c H1 locs1 cells slots Q (F0 m (pc + 3) ls ((ab_rv G r0).toList ++ rest))) : W p l e room_1 s m args below meth c H locs cells slots Q (F0 m pc ls ((as.map (ab_val G)).reverse ++ .ref (gad G g0 0) :: rest)) := by
  obtain ⟨m1, m2, m3, m4, m5, m6⟩ := ab_mk_facts hid
  obtain ⟨m7, m8⟩ := m5 hmt
  have hg : ∀ w ∈ lw_good, w.before args s = true := fun w hw => hts w (List.mem_filter.mp hw).1
  have hM : ab_Met l G id d (vR g0 0 :: as) σ r0 σ1 := hCO (okc (Or.inl hmem) has)
  have hcb : CallB room_1 s args R_law ix (ab_my id) (ab_mb id) (ab_ml id) (ab_mr id) (ab_W id) (ab_R d) 0 0 as.length := callB_of as.length hts (ct_goodA (fun w hw => (List.mem_filter.mp hw).1) (ab_code_in hid)) rfl rfl rfl (hg _ m2) (hts _ hlink) ⟨m3.1, m3.2, hpar⟩ ⟨by show d + 1 ≤ 2048; omega, by show 8 + (ab_ml id + 11) + 64 * d ≤ 84000; omega⟩
  have recv : ∃ cellB : Cell, H[gad G g0 0]? = some cellB ∧ cellB.vm.isStatics = false ∧ s.vm.findClass (ab_my id).cls = some cellB.cls := by
    obtain ⟨q0, hq0, he⟩ := ab_ws_at σ hmem
    rw [ab_ent_0 hrc.1] at he
    cases hc : ab_cl[ab_ci g0]? with
    | none => rw [hc] at hrc; cases hrc.2
    | some q =>
      have h2 := hrc.2
      rw [hc] at h2
      have h3 : q.1 = (ab_my id).cls := Option.some.inj h2
      rw [← h3]
      exact va_recv hKK.1 hP hc he
  refine ab_after (r0 := r0) (σ1 := σ1) (a0 := (Value.ref (gad G g0 0) :: as.map (ab_val G)).toArray) (rest := rest) (va_runV (As := as.map (ab_val G)) (C := (ab_my id).cls) (b := gad G g0 0) (rest := rest) ⟨hx, hb, hml, hown, hts⟩ hM ⟨hcb, hg _ m7, hg _ m8⟩ ⟨ab_Pc.blind G _ σ, recv, fun U hU hW => ⟨rfl, by rw [hU]; exact hP, hKK.moved hW (fun q h1 h2 => by rw [hU]; exact hS.2.1 q h1 (Nat.not_le.mpr h1))⟩⟩ rfl (by rw [List.length_map]) hsz rfl (lv_room hwd) hdg ⟨hcs.1, hcs.2⟩) hS hsub (fun H1 locs1 h1 h2 h3 => ?_)
  refine kk H1 locs1 h1 (hP2.kept fun k q hk => ?_) h2
  exact h3 q.1 (hP2 k q hk).lt (hdis q.1 ((hG2.1 τ).2 k q hk))
/-- a number of the script is laid -/
theorem law_arg {R : Room} {b L i k : Nat} {xs : Nat → Int32} (hx : p.tables.exec = Jvm.exec) (hb : c.code = code) (hX : va_X b L xs s s.heap) (hbl : b < s.heap.size) (hS : va_S (fun q => s.heap.size ≤ q) s.heap H locs) (hL : L ≤ 3072) (hi : i + 6 ≤ L) (hk : k < 6) (h0 : ls[0]? = some (.val (.ref b))) (h3 : ls[3]? = some (.val (.int (nI i)))) (d0 : decode code pc = .ok (.aload_n 0, 1)) (d1 : decode code (pc + 1) = .ok (.iload_n 3, 1)) {kv : Int} (hkv : Int32.ofInt kv = nI k) (d2 : decode code (pc + 2) = .ok (.iconst kv, 1)) (d3 : decode code (pc + 3) = .ok (.iadd, 1)) (d4 : decode code (pc + 4) = .ok (.iaload, 1))
    (kk : W p l e R s m args below meth c H locs cells slots Q (F0 m (pc + 5) ls (.int (xs (i + k)) :: rest))) : W p l e R s m args below meth c H locs cells slots Q (F0 m pc ls rest) := by
  refine lv_aload_n hx hb d0 rfl h0 ?_
  refine lv_iload_n hx hb d1 rfl h3 ?_
  refine lv_iconst (v := nI k) hx hb d2 hkv ?_
  refine lv_iadd hx hb d3 ?_
  rw [na_add]
  refine va_sld hx hb hX hbl (Nat.not_le.mpr hbl) hS (vp_in_nI (show i + k < L by omega) (by omega)) d4 ?_
  rw [na_cl (by omega)]
  exact kk
end
/-- what holds all through the law: its frame, both sides' cells, apart -/
def LawC (p : Program) (s : State) (m : MethodId) (meth : Method) (c : Code) (b L : Nat) (xs : Nat → Int32) (GX GM : ab_Gt) : Prop :=
  lw_At p s m meth c b L xs ∧ L ≤ 3072 ∧ (ab_GG GX ∧ ab_GG GM) ∧ (ab_KK GX s ∧ ab_KK GM s) ∧ ((∀ q, gA GX q → s.heap.size ≤ q) ∧ (∀ q, gA GM q → s.heap.size ≤ q)) ∧ ((∀ q, gA GX q → ¬ gA GM q) ∧ ∀ q, gA GM q → ¬ gA GX q) ∧ ((0, 0) ∈ gP GX ∧ (30, 0) ∈ gP GM)
def LawW (s : State) (GX GM : ab_Gt) (σ τ : Sg) (H : Heap) (locs : List Loc) : Prop := va_P (gD GX) ab_cl (ab_ws GX σ) H ∧ va_P (gD GM) ab_cl (ab_ws GM τ) H ∧ va_S (fun q => s.heap.size ≤ q) s.heap H locs
theorem lg_self (x : Int64) : lg_cmp x x = 0 := by
  unfold lg_cmp
  rw [if_neg (by simp), if_pos rfl]
