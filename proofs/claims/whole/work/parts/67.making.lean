/-! making: rows for constructors, over a world that grows -/
def ct_dT (dA : Nat → ClassId) : List (ClassId × FieldType) := [(dA 0, .int), (dA 1, .boolean), (dA 2, .object "CoatsFitTheMood$Coat"), (dA 3, .object "CoatsFitTheMood$Text"), (dA 4, .object "CoatsFitTheMood$Sheet")]
def ct_K (D : va_G) (dA : Nat → ClassId) (U : State) : Prop := va_K D ab_cl (ct_dT dA) U ∧
  (va_Nw (.methodLinkNest "CoatsFitTheMood" 23 ⟨"CoatsFitTheMood$Coat", "<init>", "()V"⟩ "CoatsFitTheMood") U ∧ va_Nw (.methodLinkNest "CoatsFitTheMood$Image" 28 ⟨"CoatsFitTheMood$Coat", "<init>", "()V"⟩ "CoatsFitTheMood") U ∧ va_Nw (.methodLinkNest "CoatsFitTheMood" 42 ⟨"CoatsFitTheMood$Tape", "<init>", "()V"⟩ "CoatsFitTheMood") U ∧ va_Nw (.methodLinkNest "CoatsFitTheMood" 64 ⟨"CoatsFitTheMood$Day", "<init>", "()V"⟩ "CoatsFitTheMood") U ∧ va_Nw (.methodLinkNest "CoatsFitTheMood" 79 ⟨"CoatsFitTheMood$Text", "<init>", "()V"⟩ "CoatsFitTheMood") U ∧ va_Nw (.methodLinkNest "CoatsFitTheMood" 80 ⟨"CoatsFitTheMood$Sheet", "<init>", "()V"⟩ "CoatsFitTheMood") U) ∧
  (va_AO "CoatsFitTheMood$Coat" U ∧ va_AO "CoatsFitTheMood$Text" U ∧ va_AO "CoatsFitTheMood$Sheet" U)
theorem ct_K.moved {D : va_G} {dA : Nat → ClassId} {s U : State} (hW : s.WarmedH U.vm) (h : ct_K D dA s) : ct_K D dA U := by
  obtain ⟨h1, ⟨n1, n2, n3, n4, n5, n6⟩, a1, a2, a3⟩ := h
  exact ⟨h1.moved hW.alike, ⟨va_Nw.warmM hW n1, va_Nw.warmM hW n2, va_Nw.warmM hW n3, va_Nw.warmM hW n4, va_Nw.warmM hW n5, va_Nw.warmM hW n6⟩, a1.moved hW.alike, a2.moved hW.alike, a3.moved hW.alike⟩
theorem ct_K.calling {D : va_G} {dA : Nat → ClassId} {U : State} (h : ct_K D dA U) (g : JFrame) (mk : MethodId) (a : Array Value) : ct_K D dA (U.calling g mk a) := h.moved (U := U.calling g mk a) (State.WarmedH.refl U)
def ct_At (p : Program) (s : State) (m : MethodId) (args : Array Value) (c : Code) (own : String) (b : ByteArray) (nL : Nat) (D : va_G) (dA : Nat → ClassId) : Prop := p.tables.exec = Jvm.exec ∧ c.code = b ∧ c.maxLocals = nL ∧ s.vm.findClass own = some m.cls ∧ (∀ w ∈ lw_good, w.before args s = true) ∧ ct_K D dA s
def ct_W (D : va_G) (A : Nat → Prop) (s : State) (ws : va_W) (H : Heap) (locs : List Loc) : Prop := va_P D ab_cl ws H ∧ va_D A ws ∧ va_S A s.heap H locs
def ct_Met (l : Launch) (D : va_G) (dA : Nat → ClassId) (y : MethodName) (b : ByteArray) (n fr lo mc ms : Nat) (av : List Value) (ws : va_W) (E : State → Prop) (post : va_W → Prop) : Prop := ∀ sz : Nat, Met l y (jd_ws y b n none) { frames := fr, cells := mc, slots := ms, locals := lo } (va_Pc av (fun U => U.heap.size = sz ∧ va_P D ab_cl ws U.heap ∧ ct_K D dA U ∧ va_D (fun _ => True) ws ∧ E U)) (va_Qv post (fun w1 t => va_P D ab_cl w1 t.heap ∧ va_D (va_A ws sz) w1) (va_A ws sz)) mc ms (va_A ws sz)
theorem ct_goodA {Ts : List Cond} (hT : ∀ w, w ∈ lw_good → w ∈ Ts) {y : MethodName} {b : ByteArray} {n : Nat} {r : Option FieldType} (h : Cond.code y b n r ∈ lw_good) : GoodIn Ts (jd_ws y b n r) := by
  intro w hw
  rcases List.mem_cons.mp hw with e | hw
  · rw [e]
    exact ⟨hT _ h, good_of_word rfl⟩
  · exact ⟨hT _ hw, good_of_word (List.mem_filter.mp hw).2⟩
theorem ct_join {A0 : Nat → Prop} {D : va_G} {cl : List vw_C} {wr wc w1 : va_W} {H H1 : Heap} (hP : va_P D cl (wr ++ wc) H) (hD : va_D A0 (wr ++ wc))
    (hk : ∀ q : Nat, q < H.size → ¬ va_A wc H.size q → H1[q]? = H[q]?) (hF : ∀ q, va_A wc H.size q → A0 q) (hP1 : va_P D cl w1 H1) (hD1 : va_D (va_A wc H.size) w1) : va_P D cl (wr ++ w1) H1 ∧ va_D A0 (wr ++ w1) := by
  have left : ∀ (k : Nat) (q : Nat × va_E), wr[k]? = some q → k < wr.length ∧ (wr ++ wc)[k]? = some q := fun k q h => by
    have hl := (List.getElem?_eq_some_iff.mp h).1
    exact ⟨hl, by rw [List.getElem?_append_left hl]; exact h⟩
  have right : ∀ (k : Nat) (q : Nat × va_E), wc[k]? = some q → (wr ++ wc)[wr.length + k]? = some q := fun k q h => by
    rw [List.getElem?_append_right (Nat.le_add_right _ _), Nat.add_sub_cancel_left]; exact h
  have apart : ∀ (k : Nat) (q : Nat × va_E), wr[k]? = some q → q.1 < H.size ∧ ¬ va_A wc H.size q.1 := by
    intro k q hq
    obtain ⟨h1, h2⟩ := left k q hq
    have hl := (hP k q h2).lt
    refine ⟨hl, fun h => ?_⟩
    rcases h with ⟨k2, e, h⟩ | h
    · have hij := hD.1 k (wr.length + k2) q (q.1, e) h2 (right k2 _ h) rfl
      omega
    · omega
  have hDr : va_D A0 wr := ⟨fun i j p q hp hq e => hD.1 i j p q (left i p hp).2 (left j q hq).2 e, fun k q hq => hD.2 k q (left k q hq).2⟩
  refine ⟨va_P.app (fun k q hq => ?_) hP1, va_D.app hDr (hD1.weaken (fun k q _ h => hF q.1 h)) (fun i j x y hx hy hxy => ?_)⟩
  · obtain ⟨g1, g2⟩ := apart k q hq
    exact (hP k q (left k q hq).2).kept (hk q.1 g1 g2)
  · exact (apart i x hx).2 (by rw [hxy]; exact hD1.2 j y hy)
theorem ct_cut {D : va_G} {cl : List vw_C} {wr wc : va_W} {H : Heap} (hP : va_P D cl (wr ++ wc) H) : va_P D cl wc H := fun k q h => hP (wr.length + k) q (by rw [List.getElem?_append_right (Nat.le_add_right _ _), Nat.add_sub_cancel_left]; exact h)
theorem ct_cutD {A0 : Nat → Prop} {wr wc : va_W} (hD : va_D A0 (wr ++ wc)) : va_D A0 wc := by
  have right : ∀ (k : Nat) (q : Nat × va_E), wc[k]? = some q → (wr ++ wc)[wr.length + k]? = some q := fun k q h => by
    rw [List.getElem?_append_right (Nat.le_add_right _ _), Nat.add_sub_cancel_left]; exact h
  exact ⟨fun i j p q hp hq e => by have := hD.1 _ _ p q (right i p hp) (right j q hq) e; omega, fun k q h => hD.2 _ q (right k q h)⟩
theorem jm_arrI : Cond.arrayClass .int ∈ lw_good := ab_at_in (k := 167) (by decide +kernel)
theorem jm_arrZ : Cond.arrayClass .boolean ∈ lw_good := ab_at_in (k := 1023) (by decide +kernel)
section
variable {p : Program} {l : Launch} {e : Env} {R : Room} {s : State} {m : MethodId} {args : Array Value} {below : List Frame} {meth : Method} {c : Code} {H : Heap} {locs : List Loc} {cells slots : Nat} {Q : State → Prop} {pc ix : Nat} {ls : Array Slot} {rest : List Value} {own : String} {b : ByteArray} {nL : Nat} {D : va_G} {dA : Nat → ClassId} {A : Nat → Prop} {ws : va_W}
theorem ct_new (C0 : ct_At p s m args c own b nL D dA) (hA : ∀ q, s.heap.size ≤ q → A q) (hw : ct_W D A s ws H locs) {ci N : Nat} {Cn : String} {T : u_T} (hc : ab_cl[ci]? = some (Cn, T, N)) {fs : List Value} (hfs : ∀ j, j < N → defaultValue (ab_ty ci j) = vp_V fs j) (hcl : Cond.classLink own ix Cn ∈ lw_good) (hins : Cond.instantiable Cn N ∈ lw_good) (hini : Cond.initialized Cn ∈ lw_good) (hcells : cells + 1 ≤ R.cells) (hslots : slots + N ≤ R.slots) (hdg : decode b pc = .ok (.new ix, 3))
    (kk : ∀ (q : Nat) (H1 : Heap), ct_W D A s (ws ++ [(q, .inr (ci, fs))]) H1 locs → W p l e R s m args below meth c H1 locs (cells + 1) (slots + N) Q (F0 m (pc + 3) ls (.ref q :: rest))) : W p l e R s m args below meth c H locs cells slots Q (F0 m pc ls rest) := by
  obtain ⟨hx, hb, hml, hown, hg, hK⟩ := C0
  obtain ⟨hP, hD, hS⟩ := hw
  exact va_new (own := own) hx hb hg (ab_cl_in hc) (ab_ty ci) (ab_cl_tt hc) hown (hg _ hcl) (hg _ hins) (hg _ hini) hK.1 hP hD hS hA hc hfs hcells hslots hdg (fun q H1 h1 h2 h3 => kk q H1 ⟨h1, h2, h3⟩)
theorem ct_newI (C0 : ct_At p s m args c own b nL D dA) (hA : ∀ q, s.heap.size ≤ q → A q) (hw : ct_W D A s ws H locs) {n : Int32} {N : Nat} (hn : ¬ n < 0) (hN : n.toNatClampNeg = N) (hbytes : N * 4 ≤ 536870912) (hcells : cells + 1 ≤ R.cells) (hslots : slots + N ≤ R.slots) (hdg : decode b pc = .ok (.newarray .int, 2))
    (kk : ∀ (q : Nat) (H1 : Heap), ct_W D A s (ws ++ [(q, .inl (dA 0, N, .inl (fun _ => 0)))]) H1 locs → W p l e R s m args below meth c H1 locs (cells + 1) (slots + N) Q (F0 m (pc + 2) ls (.ref q :: rest))) : W p l e R s m args below meth c H locs cells slots Q (F0 m pc ls (.int n :: rest)) := by
  obtain ⟨hx, hb, hml, hown, hg, hK⟩ := C0
  obtain ⟨hP, hD, hS⟩ := hw
  refine va_newa (atype := .int) (ty := .int) (a0 := (N, .inl (fun _ => 0))) hx hb (hg _ jm_arrI) rfl hK.1 hP hD hS hA (fun cA => rfl) hn hN hbytes hcells hslots hdg (fun q cA H1 k1 k2 k3 k4 => ?_)
  have e1 : s.vm.findClass ("[" ++ (FieldType.int).toString) = some cA := (k1.2 5 (cA, .int) rfl).2
  have e2 : s.vm.findClass ("[" ++ (FieldType.int).toString) = some (dA 0) := (hK.1.2 0 (dA 0, .int) rfl).2
  have e3 : dA 0 = cA := Option.some.inj (e2.symm.trans e1)
  rw [← e3] at k2 k3
  exact kk q H1 ⟨k2, k3, k4⟩
theorem ct_newZ (C0 : ct_At p s m args c own b nL D dA) (hA : ∀ q, s.heap.size ≤ q → A q) (hw : ct_W D A s ws H locs) {n : Int32} {N : Nat} (hn : ¬ n < 0) (hN : n.toNatClampNeg = N) (hbytes : N * 1 ≤ 536870912) (hcells : cells + 1 ≤ R.cells) (hslots : slots + N ≤ R.slots) (hdg : decode b pc = .ok (.newarray .boolean, 2))
    (kk : ∀ (q : Nat) (H1 : Heap), ct_W D A s (ws ++ [(q, .inl (dA 1, N, .inl (fun _ => 0)))]) H1 locs → W p l e R s m args below meth c H1 locs (cells + 1) (slots + N) Q (F0 m (pc + 2) ls (.ref q :: rest))) : W p l e R s m args below meth c H locs cells slots Q (F0 m pc ls (.int n :: rest)) := by
  obtain ⟨hx, hb, hml, hown, hg, hK⟩ := C0
  obtain ⟨hP, hD, hS⟩ := hw
  refine va_newa (atype := .boolean) (ty := .boolean) (a0 := (N, .inl (fun _ => 0))) hx hb (hg _ jm_arrZ) rfl hK.1 hP hD hS hA (fun cA => rfl) hn hN hbytes hcells hslots hdg (fun q cA H1 k1 k2 k3 k4 => ?_)
  have e1 : s.vm.findClass ("[" ++ (FieldType.boolean).toString) = some cA := (k1.2 5 (cA, .boolean) rfl).2
  have e2 : s.vm.findClass ("[" ++ (FieldType.boolean).toString) = some (dA 1) := (hK.1.2 1 (dA 1, .boolean) rfl).2
  have e3 : dA 1 = cA := Option.some.inj (e2.symm.trans e1)
  rw [← e3] at k2 k3
  exact kk q H1 ⟨k2, k3, k4⟩
theorem ct_newQ (C0 : ct_At p s m args c own b nL D dA) (hA : ∀ q, s.heap.size ≤ q → A q) (hw : ct_W D A s ws H locs) (t : Nat) {Cn : String} (ht : (ct_dT dA)[t]? = some (dA t, .object Cn)) (hover : va_AO Cn s) (hcl : Cond.classLink own ix Cn ∈ lw_good) {n : Int32} {N : Nat} (hn : ¬ n < 0) (hN : n.toNatClampNeg = N) (hbytes : N * 4 ≤ 536870912) (hcells : cells + 1 ≤ R.cells) (hslots : slots + N ≤ R.slots) (hdg : decode b pc = .ok (.anewarray ix, 3))
    (kk : ∀ (q : Nat) (H1 : Heap), ct_W D A s (ws ++ [(q, .inl (dA t, N, .inr (.inr (.inr (.inr (fun _ => none))))))]) H1 locs → W p l e R s m args below meth c H1 locs (cells + 1) (slots + N) Q (F0 m (pc + 3) ls (.ref q :: rest))) : W p l e R s m args below meth c H locs cells slots Q (F0 m pc ls (.int n :: rest)) := by
  obtain ⟨hx, hb, hml, hown, hg, hK⟩ := C0
  obtain ⟨hP, hD, hS⟩ := hw
  refine va_newq (own := own) hx hb hown (hg _ hcl) hover hK.1 hP hD hS hA hn hN hbytes hcells hslots hdg (fun q cA H1 k1 k2 k3 k4 => ?_)
  obtain ⟨_, _, _, _, _, e1⟩ := (k1.2 5 (cA, .object Cn) rfl).2
  obtain ⟨_, _, _, _, _, e2⟩ := (hK.1.2 t (dA t, .object Cn) ht).2
  have e3 : dA t = cA := Option.some.inj (e2.symm.trans e1)
  rw [← e3] at k2 k3
  exact kk q H1 ⟨k2, k3, k4⟩
theorem ct_putF (C0 : ct_At p s m args c own b nL D dA) (hw : ct_W D A s ws H locs) (hin2 : meth.name = "<init>") (q0 : Nat) {a ci N : Nat} {fs : List Value} (he : ws[q0]? = some (a, .inr (ci, fs))) {Cn : String} {T : u_T} (hc : ab_cl[ci]? = some (Cn, T, N)) (k : Nat) (hk : k < N) (hlink : Cond.fieldLink own ix (T k).1 (T k).2.1 (T k).2.2.1 ∈ lw_good) (hfin : (T k).2.2.2 = true) (hdecl : (T k).1 = own) {ty : FieldType} {v : Value} (hd : parseFieldDescriptor (T k).2.2.1 = some ty) (hn : narrow ty v = v) (hfit : fits ty v = true) (hl : k < fs.length) (hdg : decode b pc = .ok (.putfield ix, 3))
    (kk : ∀ (H1 : Heap) (locs1 : List Loc), ct_W D A s (ws.set q0 (a, .inr (ci, fs.set k v))) H1 locs1 → W p l e R s m args below meth c H1 locs1 cells slots Q (F0 m (pc + 3) ls rest)) : W p l e R s m args below meth c H locs cells slots Q (F0 m pc ls (v :: .ref a :: rest)) := by
  obtain ⟨hx, hb, hml, hown, hg, hK⟩ := C0
  obtain ⟨hP, hD, hS⟩ := hw
  exact va_putF (own := own) hx hb hg (ab_cl_in hc) (ab_ty ci) (ab_cl_tt hc) (ab_cl_nn hc) hown hK.1 hP hD hS q0 he hc k hk (hg _ hlink) (fun _ h => h) hfin hin2 hdecl hd hn hfit hl hdg (fun H1 locs1 h1 h2 h3 => kk H1 locs1 ⟨h1, h2, h3⟩)
theorem ct_put (C0 : ct_At p s m args c own b nL D dA) (hw : ct_W D A s ws H locs) (q0 : Nat) {a ci N : Nat} {fs : List Value} (he : ws[q0]? = some (a, .inr (ci, fs))) {Cn : String} {T : u_T} (hc : ab_cl[ci]? = some (Cn, T, N)) (k : Nat) (hk : k < N) (hlink : Cond.fieldLink own ix (T k).1 (T k).2.1 (T k).2.2.1 ∈ lw_good) (hfin : (T k).2.2.2 = false) {ty : FieldType} {v : Value} (hd : parseFieldDescriptor (T k).2.2.1 = some ty) (hn : narrow ty v = v) (hfit : fits ty v = true) (hl : k < fs.length) (hdg : decode b pc = .ok (.putfield ix, 3))
    (kk : ∀ (H1 : Heap) (locs1 : List Loc), ct_W D A s (ws.set q0 (a, .inr (ci, fs.set k v))) H1 locs1 → W p l e R s m args below meth c H1 locs1 cells slots Q (F0 m (pc + 3) ls rest)) : W p l e R s m args below meth c H locs cells slots Q (F0 m pc ls (v :: .ref a :: rest)) := by
  obtain ⟨hx, hb, hml, hown, hg, hK⟩ := C0
  obtain ⟨hP, hD, hS⟩ := hw
  exact va_put (own := own) hx hb hg (ab_cl_in hc) (ab_ty ci) (ab_cl_tt hc) (ab_cl_nn hc) hown hK.1 hP hD hS q0 he hc k hk (hg _ hlink) (fun _ h => h) hfin hd hn hfit hl hdg (fun H1 locs1 h1 h2 h3 => kk H1 locs1 ⟨h1, h2, h3⟩)
theorem ct_get (C0 : ct_At p s m args c own b nL D dA) (hw : ct_W D A s ws H locs) (q0 : Nat) {a ci N : Nat} {fs : List Value} (he : ws[q0]? = some (a, .inr (ci, fs))) {Cn : String} {T : u_T} (hc : ab_cl[ci]? = some (Cn, T, N)) (k : Nat) (hk : k < N) (hlink : Cond.fieldLink own ix (T k).1 (T k).2.1 (T k).2.2.1 ∈ lw_good) {v : Value} (hv : fs[k]? = some v) (hdg : decode b pc = .ok (.getfield ix, 3))
    (kk : W p l e R s m args below meth c H locs cells slots Q (F0 m (pc + 3) ls (v :: rest))) : W p l e R s m args below meth c H locs cells slots Q (F0 m pc ls (.ref a :: rest)) := by
  obtain ⟨hx, hb, hml, hown, hg, hK⟩ := C0
  obtain ⟨hP, hD, hS⟩ := hw
  exact va_get (own := own) hx hb hg (ab_cl_in hc) hown hK.1 hP q0 he hc k hk (hg _ hlink) (fun _ h => h) hv hdg kk
theorem ct_iast (C0 : ct_At p s m args c own b nL D dA) (hw : ct_W D A s ws H locs) (q0 : Nat) {a n : Nat} {f : Nat → Int32} (ha : ws[q0]? = some (a, .inl (dA 0, n, .inl f))) {i x : Int32} (hin : vp_in i n) (hdg : decode b pc = .ok (.iastore, 1))
    (kk : ∀ (H1 : Heap) (locs1 : List Loc), ct_W D A s (ws.set q0 (a, .inl (dA 0, n, .inl (upd f i.toNatClampNeg x)))) H1 locs1 → W p l e R s m args below meth c H1 locs1 cells slots Q (F0 m (pc + 1) ls rest)) : W p l e R s m args below meth c H locs cells slots Q (F0 m pc ls (.int x :: .int i :: .ref a :: rest)) := by
  obtain ⟨hx, hb, hml, hown, hg, hK⟩ := C0
  obtain ⟨hP, hD, hS⟩ := hw
  exact va_iast hx hb hK.1 hP hD hS q0 0 ha rfl hin hdg (fun H1 locs1 h1 h2 h3 => kk H1 locs1 ⟨h1, h2, h3⟩)
theorem ct_aast (C0 : ct_At p s m args c own b nL D dA) (hw : ct_W D A s ws H locs) (q0 t qk : Nat) {a n v ci N : Nat} {f : Nat → Option Nat} {vs : List Value} (ha : ws[q0]? = some (a, .inl (dA t, n, .inr (.inr (.inr (.inr f)))))) {Cn : String} {T : u_T} (ht : (ct_dT dA)[t]? = some (dA t, .object Cn)) (hv : ws[qk]? = some (v, .inr (ci, vs))) (hc : ab_cl[ci]? = some (Cn, T, N)) {i : Int32} (hin : vp_in i n) (hdg : decode b pc = .ok (.aastore, 1))
    (kk : ∀ (H1 : Heap) (locs1 : List Loc), ct_W D A s (ws.set q0 (a, .inl (dA t, n, .inr (.inr (.inr (.inr (va_up f i.toNatClampNeg (some v)))))))) H1 locs1 → W p l e R s m args below meth c H1 locs1 cells slots Q (F0 m (pc + 1) ls rest)) : W p l e R s m args below meth c H locs cells slots Q (F0 m pc ls (.ref v :: .int i :: .ref a :: rest)) := by
  obtain ⟨hx, hb, hml, hown, hg, hK⟩ := C0
  obtain ⟨hP, hD, hS⟩ := hw
  exact va_astq hx hb hK.1 hP hD hS q0 t qk ci ha ht hv hc hin hdg (fun H1 locs1 h1 h2 h3 => kk H1 locs1 ⟨h1, h2, h3⟩)
theorem ct_alen (C0 : ct_At p s m args c own b nL D dA) (hw : ct_W D A s ws H locs) (q0 : Nat) {a n : Nat} {f : Nat → Int32} (ha : ws[q0]? = some (a, .inl (dA 0, n, .inl f))) (hdg : decode b pc = .ok (.arraylength, 1))
    (kk : W p l e R s m args below meth c H locs cells slots Q (F0 m (pc + 1) ls (.int (Int32.ofNat n) :: rest))) : W p l e R s m args below meth c H locs cells slots Q (F0 m pc ls (.ref a :: rest)) := by
  obtain ⟨hx, hb, hml, hown, hg, hK⟩ := C0
  obtain ⟨hP, hD, hS⟩ := hw
  exact va_alen hx hb hK.1 hP q0 0 ha rfl rfl hdg kk
theorem ct_obj (C0 : ct_At p s m args c own b nL D dA) (hlink : Cond.methodLink own ix objectInit ∈ lw_good) {a : Nat} (hsz : ls.size = nL) (hfr : 1 ≤ R.frames) (hlo : 12 ≤ R.locals) (hdg : decode b pc = .ok (.invokespecial ix, 3))
    (kk : W p l e R s m args below meth c H locs cells slots Q (F0 m (pc + 3) ls [])) : W p l e R s m args below meth c H locs cells slots Q (F0 m pc ls [.ref a]) := by
  obtain ⟨hx, hb, hml, hown, hg, hK⟩ := C0
  exact W.objInit (g := F0 m pc ls [.ref a]) hx hb hown (hg _ hlink) (hg _ (ab_at_in (k := 139) (by decide +kernel))) (hg _ (ab_at_in (k := 140) (by decide +kernel))) rfl (by rw [hml]; exact hsz) rfl hdg hfr (by show 2 * 0 + 0 + 12 ≤ R.locals; omega) kk
theorem ct_after {wr wc : va_W} (hw : ct_W D A s (wr ++ wc) H locs) {mc ms : Nat} {post : va_W → Prop} {st0 : List Value} {a0 : Array Value} (hF : ∀ q, va_A wc H.size q → A q)
    (hr : va_Run p l e R s m args below meth c H locs cells slots mc ms (F0 m pc ls st0) rest (va_Qv post (fun w1 t => va_P D ab_cl w1 t.heap ∧ va_D (va_A wc H.size) w1) (va_A wc H.size) a0) (va_A wc H.size))
    (kk : ∀ (w1 : va_W) (H1 : Heap) (locs1 : List Loc), post w1 → ct_W D A s (wr ++ w1) H1 locs1 → W p l e R s m args below meth c H1 locs1 (cells + mc) (slots + ms) Q (F0 m (pc + 3) ls rest)) : W p l e R s m args below meth c H locs cells slots Q (F0 m pc ls st0) := by
  obtain ⟨hP, hD, hS⟩ := hw
  refine va_callv hr hS (fun q _ h => hF q h) hF (fun u t H1 locs1 ht hvm hp hB hz hk hS1 => ?_)
  obtain ⟨hP1, hD1⟩ := hB
  rw [ht] at hP1
  obtain ⟨h1, h2⟩ := ct_join hP hD hk hF hP1 hD1
  exact kk u H1 locs1 hp ⟨h1, h2, hS1⟩
theorem ct_F {wr wc : va_W} (hA : ∀ q, s.heap.size ≤ q → A q) (hw : ct_W D A s (wr ++ wc) H locs) : ∀ q, va_A wc H.size q → A q := by
  obtain ⟨hP, hD, hS⟩ := hw
  intro q h
  rcases h with ⟨k, e, h⟩ | h
  · exact (ct_cutD hD).2 k (q, e) h
  · exact hA q (Nat.le_trans hS.1 h)
theorem ct_pre {wr wc : va_W} (hK : ct_K D dA s) (hw : ct_W D A s (wr ++ wc) H locs) {av : List Value} {E : State → Prop} (hE : ∀ U : State, U.heap = H → s.WarmedH U.vm → E U) (hEb : ∀ (U : State) (g : JFrame) (mk : MethodId) (a : Array Value), E U → E (U.calling g mk a)) : PreS s H (va_Pc av (fun U => U.heap.size = H.size ∧ va_P D ab_cl wc U.heap ∧ ct_K D dA U ∧ va_D (fun _ => True) wc ∧ E U)) av := by
  obtain ⟨hP, hD, hS⟩ := hw
  refine ⟨fun a U g mk h => ?_, fun U hU hW => ⟨rfl, by rw [hU], by rw [hU]; exact ct_cut hP, hK.moved hW, (ct_cutD hD).weaken (fun _ _ _ _ => trivial), hE U hU hW⟩⟩
  obtain ⟨h0, h1, h2, h3, h4, h5⟩ := h
  exact ⟨h0, h1, h2, h3.calling g mk a, h4, hEb U g mk a h5⟩
/-- a constructor is called -/
theorem ct_callI (C0 : ct_At p s m args c own b nL D dA) (hA : ∀ q, s.heap.size ≤ q → A q) {wr wc : va_W} (hw : ct_W D A s (wr ++ wc) H locs) {y : MethodName} {bb : ByteArray} {n fr lo mc ms b0 : Nat} {av : List Value} {post : va_W → Prop} {E : State → Prop} (hM : ct_Met l D dA y bb n fr lo mc ms (.ref b0 :: av) wc E post) (hy : y.name = "<init>") (h1 : Cond.code y bb n none ∈ lw_good) (h2 : Cond.initialized y.cls ∈ lw_good) (h3 : Cond.methodLink own ix y ∈ lw_good) (h4 : Cond.instanceMethod y ∈ lw_good) (h5 : y.cls ≠ "java/lang/invoke/MethodHandle" ∧ y.cls ≠ "java/lang/invoke/VarHandle" ∧ (parseMethodDescriptor y.desc).map (fun d => d.parameters.length) = some av.length)
    (hR : fr + 1 ≤ R.frames ∧ 8 + (n + 11) + lo ≤ R.locals) (hE : ∀ U : State, U.heap = H → s.WarmedH U.vm → E U) (hEb : ∀ (U : State) (g : JFrame) (mk : MethodId) (a : Array Value), E U → E (U.calling g mk a)) (hsz : ls.size = nL) (hwd : (rest.map fun v => v.category).sum ≤ 8) (hcs : cells + mc ≤ R.cells ∧ slots + ms ≤ R.slots) (hdg : decode b pc = .ok (.invokespecial ix, 3))
    (kk : ∀ (w1 : va_W) (H1 : Heap) (locs1 : List Loc), post w1 → ct_W D A s (wr ++ w1) H1 locs1 → W p l e R s m args below meth c H1 locs1 (cells + mc) (slots + ms) Q (F0 m (pc + 3) ls rest)) : W p l e R s m args below meth c H locs cells slots Q (F0 m pc ls (av.reverse ++ .ref b0 :: rest)) := by
  obtain ⟨hx, hb, hml, hown, hg, hK⟩ := C0
  exact ct_after hw (ct_F hA hw) (va_runI (As := av) (rest := rest) ⟨hx, hb, hml, hown, hg⟩ (hM H.size) ⟨callB_of av.length hg (ct_goodA (fun _ h => h) h1) rfl rfl rfl (hg _ h2) (hg _ h3) h5 hR, hy, hg _ h4⟩ (ct_pre hK hw hE hEb) rfl rfl (by exact hsz) rfl (lv_room hwd) hdg hcs) kk
theorem ct_callIN (C0 : ct_At p s m args c own b nL D dA) (hA : ∀ q, s.heap.size ≤ q → A q) {wr wc : va_W} (hw : ct_W D A s (wr ++ wc) H locs) {y : MethodName} {bb : ByteArray} {n fr lo mc ms b0 : Nat} {av : List Value} {post : va_W → Prop} {E : State → Prop} (hM : ct_Met l D dA y bb n fr lo mc ms (.ref b0 :: av) wc E post) (hy : y.name = "<init>") (h1 : Cond.code y bb n none ∈ lw_good) (h2 : Cond.initialized y.cls ∈ lw_good) {host : String} (h3 : va_Nw (.methodLinkNest own ix y host) s) (h4 : Cond.instanceMethod y ∈ lw_good) (h5 : y.cls ≠ "java/lang/invoke/MethodHandle" ∧ y.cls ≠ "java/lang/invoke/VarHandle" ∧ (parseMethodDescriptor y.desc).map (fun d => d.parameters.length) = some av.length)
    (hR : fr + 1 ≤ R.frames ∧ 8 + (n + 11) + lo ≤ R.locals) (hE : ∀ U : State, U.heap = H → s.WarmedH U.vm → E U) (hEb : ∀ (U : State) (g : JFrame) (mk : MethodId) (a : Array Value), E U → E (U.calling g mk a)) (hsz : ls.size = nL) (hwd : (rest.map fun v => v.category).sum ≤ 8) (hcs : cells + mc ≤ R.cells ∧ slots + ms ≤ R.slots) (hdg : decode b pc = .ok (.invokespecial ix, 3))
    (kk : ∀ (w1 : va_W) (H1 : Heap) (locs1 : List Loc), post w1 → ct_W D A s (wr ++ w1) H1 locs1 → W p l e R s m args below meth c H1 locs1 (cells + mc) (slots + ms) Q (F0 m (pc + 3) ls rest)) : W p l e R s m args below meth c H locs cells slots Q (F0 m pc ls (av.reverse ++ .ref b0 :: rest)) := by
  obtain ⟨hx, hb, hml, hown, hg, hK⟩ := C0
  exact ct_after hw (ct_F hA hw) (va_runIN (As := av) (rest := rest) ⟨hx, hb, hml, hown, hg⟩ (hM H.size) ⟨va_cnB av.length hg (ct_goodA (fun _ h => h) h1) rfl rfl rfl h3 (hg _ h2) h5 hR, hy, hg _ h4⟩ (ct_pre hK hw hE hEb) rfl rfl (by exact hsz) rfl (lv_room hwd) hdg hcs) kk
end
section
variable {p : Program} {l : Launch} {e : Env} {R : Room} {s : State} {m : MethodId} {args : Array Value} {below : List Frame} {meth : Method} {c : Code} {H : Heap} {locs : List Loc} {cells slots : Nat} {Q : State → Prop} {pc ix : Nat} {ls : Array Slot} {rest : List Value} {own : String} {b : ByteArray} {nL : Nat} {D : va_G} {dA : Nat → ClassId} {A : Nat → Prop}
theorem ct_callV (C0 : ct_At p s m args c own b nL D dA) (hA : ∀ q, s.heap.size ≤ q → A q) {wr wc : va_W} (hw : ct_W D A s (wr ++ wc) H locs) {y : MethodName} {bb : ByteArray} {n fr lo mc ms b0 ci N : Nat} {T : u_T} {fs av : List Value} {post : va_W → Prop} {E : State → Prop} (hM : ct_Met l D dA y bb n fr lo mc ms (.ref b0 :: av) wc E post) (h1 : Cond.code y bb n none ∈ lw_good) (h2 : Cond.initialized y.cls ∈ lw_good) (h3 : Cond.methodLink own ix y ∈ lw_good) (h4 : Cond.instanceMethod y ∈ lw_good) (h6 : Cond.selects y.cls y y ∈ lw_good) (h5 : y.cls ≠ "java/lang/invoke/MethodHandle" ∧ y.cls ≠ "java/lang/invoke/VarHandle" ∧ (parseMethodDescriptor y.desc).map (fun d => d.parameters.length) = some av.length) (hrc : wc[0]? = some (b0, .inr (ci, fs))) (hcc : ab_cl[ci]? = some (y.cls, T, N))
    (hR : fr + 1 ≤ R.frames ∧ 8 + (n + 11) + lo ≤ R.locals) (hE : ∀ U : State, U.heap = H → s.WarmedH U.vm → E U) (hEb : ∀ (U : State) (g : JFrame) (mk : MethodId) (a : Array Value), E U → E (U.calling g mk a)) (hsz : ls.size = nL) (hwd : (rest.map fun v => v.category).sum ≤ 8) (hcs : cells + mc ≤ R.cells ∧ slots + ms ≤ R.slots) (hdg : decode b pc = .ok (.invokevirtual ix, 3))
    (kk : ∀ (w1 : va_W) (H1 : Heap) (locs1 : List Loc), post w1 → ct_W D A s (wr ++ w1) H1 locs1 → W p l e R s m args below meth c H1 locs1 (cells + mc) (slots + ms) Q (F0 m (pc + 3) ls rest)) : W p l e R s m args below meth c H locs cells slots Q (F0 m pc ls (av.reverse ++ .ref b0 :: rest)) := by
  obtain ⟨hx, hb, hml, hown, hg, hK⟩ := C0
  have hp := ct_pre (av := .ref b0 :: av) hK hw hE hEb
  exact ct_after hw (ct_F hA hw) (va_runV (As := av) (rest := rest) (C := y.cls) (b := b0) ⟨hx, hb, hml, hown, hg⟩ (hM H.size) ⟨callB_of av.length hg (ct_goodA (fun _ h => h) h1) rfl rfl rfl (hg _ h2) (hg _ h3) h5 hR, hg _ h4, hg _ h6⟩ ⟨hp.1, va_recv hK.1 (ct_cut hw.1) hcc hrc, hp.2⟩ rfl rfl (by exact hsz) rfl (lv_room hwd) hdg hcs) kk
end
