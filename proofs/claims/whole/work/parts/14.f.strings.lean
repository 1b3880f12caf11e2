/-! the JDK's own members by which the class's words are read: String.length, String.charAt -/
def jd_ws (y : MethodName) (b : ByteArray) (n : Nat) (r : Option FieldType) : List Cond := .code y b n r :: lw_good
def jd_Pc (G : ab_Gt) (av : List Value) (σ : Sg) : Array Value → State → Prop := fun a U => a = av.toArray ∧ va_P (gD G) ab_cl (ab_ws G σ) U.heap ∧ ab_KK G U
theorem jd_Pc.blind (G : ab_Gt) (av : List Value) (σ : Sg) : FrameBlind (jd_Pc G av σ) := fun a U g mk h => ⟨h.1, h.2.1, h.2.2.calling g mk a⟩
def jd_Qc (G : ab_Gt) (v : Option Value) (σ : Sg) : Array Value → State → Outcome → State → Prop := fun _ st o t => o = .returned v ∧ va_P (gD G) ab_cl (ab_ws G σ) t.heap ∧ va_F (gA G) st t
def jd_Met (l : Launch) (G : ab_Gt) (y : MethodName) (b : ByteArray) (n : Nat) (r : Option FieldType) (d : Nat) (av : List Value) (v : Option Value) (σ : Sg) : Prop := Met l y (jd_ws y b n r) (ab_R d) (jd_Pc G av σ) (jd_Qc G v σ) 0 0 (gA G)
section
variable {p : Program} {l : Launch} {e : Env} {R : Room} {s : State} {m : MethodId} {args : Array Value} {below : List Frame} {meth : Method} {c : Code} {H : Heap} {locs : List Loc} {Q : State → Prop} {G : ab_Gt} {pc cells slots : Nat} {ls : Array Slot} {rest : List Value} {σ : Sg} {v : Option Value}
theorem jd_goes {st0 : List Value} {a0 : Array Value}
    (hr : va_Run p l e R s m args below meth c H locs cells slots 0 0 (F0 m pc ls st0) rest (jd_Qc G v σ a0) (gA G)) (hS : va_S (gA G) s.heap H locs)
    (kk : ∀ (H1 : Heap) (locs1 : List Loc), va_P (gD G) ab_cl (ab_ws G σ) H1 → va_S (gA G) s.heap H1 locs1 → W p l e R s m args below meth c H1 locs1 cells slots Q (F0 m (pc + 3) ls (v.toList ++ rest))) : W p l e R s m args below meth c H locs cells slots Q (F0 m pc ls st0) := by
  intro T hT X
  obtain ⟨v', st₀, t, T', L, h0, X', hL, e1, e2, ⟨hv, hPw, hz, hk⟩, st⟩ := hr T hT X
  have hv := Outcome.returned.inj hv
  subst hv
  rw [h0] at hz hk
  obtain ⟨t2, a1, b1⟩ := kk T'.heap (locs ++ L) (by rw [e1]; exact hPw)
    ⟨Nat.le_trans hS.1 (by rw [e1]; exact hz), fun q h1 h2 => by rw [e1, hk q (Nat.lt_of_lt_of_le h1 hS.1) h2]; exact hS.2.1 q h1 h2, fun q hq => by
      rcases List.mem_append.mp hq with h | h
      · exact hS.2.2 q h
      · exact hL q h⟩ T' rfl X'
  exact ⟨t2, st t2 a1, b1⟩
theorem jd_good {y y0 : MethodName} {b b0 : ByteArray} {n n0 : Nat} {r r0 : Option FieldType} (h : Cond.code y b n r ∈ lw_good) : GoodIn (jd_ws y0 b0 n0 r0) (jd_ws y b n r) := by
  intro w hw
  rcases List.mem_cons.mp hw with e | hw
  · rw [e]
    exact ⟨List.mem_cons_of_mem _ h, good_of_word rfl⟩
  · exact ⟨List.mem_cons_of_mem _ hw, good_of_word (List.mem_filter.mp hw).2⟩
theorem jd_of {av : List Value} (hP : va_P (gD G) ab_cl (ab_ws G σ) H) (hS : va_S (gA G) s.heap H locs) (hKK : ab_KK G s) : ∀ U : State, U.heap = H → s.WarmedH U.vm → jd_Pc G av σ av.toArray U := fun U hU hW =>
  ⟨rfl, by rw [hU]; exact hP, hKK.moved hW (fun q h1 h2 => by rw [hU]; exact hS.2.1 q h1 h2)⟩
theorem jd_callS {y0 y : MethodName} {b0 b : ByteArray} {n0 n nL d ix : Nat} {r0 r : Option FieldType} {av : List Value} {cc : ByteArray} {own : String} (hx : p.tables.exec = Jvm.exec) (hb : c.code = cc) (hml : c.maxLocals = nL) (hown : s.vm.findClass own = some m.cls) (hts : ∀ w ∈ jd_ws y0 b0 n0 r0, w.before args s = true)
    (hM : jd_Met l G y b n r d av v σ) (h1 : Cond.code y b n r ∈ lw_good) (h2 : Cond.initialized y.cls ∈ lw_good) (h3 : Cond.methodLink own ix y ∈ lw_good) (h4 : Cond.static y ∈ lw_good) (h5 : y.cls ≠ "java/lang/invoke/MethodHandle" ∧ y.cls ≠ "java/lang/invoke/VarHandle" ∧ (parseMethodDescriptor y.desc).map (fun d => d.parameters.length) = some av.length)
    (hR : d + 1 ≤ R.frames ∧ 8 + (n + 11) + 64 * d ≤ R.locals) (hKK : ab_KK G s) (hP : va_P (gD G) ab_cl (ab_ws G σ) H) (hS : va_S (gA G) s.heap H locs) (hsz : ls.size = nL) (hwd : (rest.map fun v => v.category).sum ≤ 8) (hd : decode cc pc = .ok (.invokestatic ix, 3)) (hcs : cells + 0 ≤ R.cells ∧ slots + 0 ≤ R.slots)
    (kk : ∀ (H1 : Heap) (locs1 : List Loc), va_P (gD G) ab_cl (ab_ws G σ) H1 → va_S (gA G) s.heap H1 locs1 → W p l e R s m args below meth c H1 locs1 cells slots Q (F0 m (pc + 3) ls (v.toList ++ rest))) : W p l e R s m args below meth c H locs cells slots Q (F0 m pc ls (av.reverse ++ rest)) := by
  have g : ∀ w, w ∈ lw_good → w.before args s = true := fun w hw => hts w (List.mem_cons_of_mem _ hw)
  have hcb : CallB R s args own ix y b n r (jd_ws y b n r) (ab_R d) 0 0 av.length := callB_of av.length hts (jd_good h1) rfl rfl rfl (g _ h2) (g _ h3) h5 hR
  exact jd_goes (a0 := av.toArray) (rest := rest) (va_runS (As := av) ⟨hx, hb, hml, hown, hts⟩ hM ⟨hcb, g _ h4⟩ ⟨jd_Pc.blind G _ σ, jd_of hP hS hKK⟩ rfl rfl hsz rfl (lv_room hwd) hd hcs) hS kk
theorem jd_callV {y0 y : MethodName} {b0 b : ByteArray} {n0 n nL d ix w : Nat} {r0 r : Option FieldType} {av : List Value} {cc : ByteArray} {own : String} (hx : p.tables.exec = Jvm.exec) (hb : c.code = cc) (hml : c.maxLocals = nL) (hown : s.vm.findClass own = some m.cls) (hts : ∀ w ∈ jd_ws y0 b0 n0 r0, w.before args s = true)
    (hw : w < 12) (hM : jd_Met l G y b n r d (.ref (gad G 60 w) :: av) v σ) (h1 : Cond.code y b n r ∈ lw_good) (h2 : Cond.initialized y.cls ∈ lw_good) (h3 : Cond.methodLink own ix y ∈ lw_good) (h4 : Cond.instanceMethod y ∈ lw_good) (h6 : Cond.selects "java/lang/String" y y ∈ lw_good) (h5 : y.cls ≠ "java/lang/invoke/MethodHandle" ∧ y.cls ≠ "java/lang/invoke/VarHandle" ∧ (parseMethodDescriptor y.desc).map (fun d => d.parameters.length) = some av.length)
    (hR : d + 1 ≤ R.frames ∧ 8 + (n + 11) + 64 * d ≤ R.locals) (hKK : ab_KK G s) (hP : va_P (gD G) ab_cl (ab_ws G σ) H) (hS : va_S (gA G) s.heap H locs) (hsz : ls.size = nL) (hwd : (rest.map fun v => v.category).sum ≤ 8) (hd : decode cc pc = .ok (.invokevirtual ix, 3)) (hcs : cells + 0 ≤ R.cells ∧ slots + 0 ≤ R.slots)
    (kk : ∀ (H1 : Heap) (locs1 : List Loc), va_P (gD G) ab_cl (ab_ws G σ) H1 → va_S (gA G) s.heap H1 locs1 → W p l e R s m args below meth c H1 locs1 cells slots Q (F0 m (pc + 3) ls (v.toList ++ rest))) : W p l e R s m args below meth c H locs cells slots Q (F0 m pc ls (av.reverse ++ .ref (gad G 60 w) :: rest)) := by
  have g : ∀ w, w ∈ lw_good → w.before args s = true := fun w hw => hts w (List.mem_cons_of_mem _ hw)
  have hcb : CallB R s args own ix y b n r (jd_ws y b n r) (ab_R d) 0 0 av.length := callB_of av.length hts (jd_good h1) rfl rfl rfl (g _ h2) (g _ h3) h5 hR
  exact jd_goes (a0 := (.ref (gad G 60 w) :: av).toArray) (rest := rest) (va_runV (As := av) (C := "java/lang/String") (b := gad G 60 w) ⟨hx, hb, hml, hown, hts⟩ hM ⟨hcb, g _ h4, g _ h6⟩ ⟨jd_Pc.blind G _ σ, vk_recv (hKK.2.2.2.2.1) hw hS, jd_of hP hS hKK⟩ rfl rfl hsz rfl (lv_room hwd) hd hcs) hS kk
end
-- names, words, steps
abbrev yj_coder : MethodName := ⟨"java/lang/String", "coder", "()B"⟩
abbrev yj_length : MethodName := ⟨"java/lang/String", "length", "()I"⟩
abbrev yj_latin : MethodName := ⟨"java/lang/String", "isLatin1", "()Z"⟩
abbrev yj_charAt : MethodName := ⟨"java/lang/String", "charAt", "(I)C"⟩
abbrev yj_ckS : MethodName := ⟨"java/lang/String", "checkIndex", "(II)V"⟩
abbrev yj_ckP : MethodName := ⟨"jdk/internal/util/Preconditions", "checkIndex", "(IILjava/util/function/BiFunction;)I"⟩
abbrev yj_chL : MethodName := ⟨"java/lang/StringLatin1", "charAt", "([BI)C"⟩
theorem jm_iS : Cond.initialized "java/lang/String" ∈ lw_good := ab_at_in (k := 127) (by decide +kernel)
theorem jm_iL : Cond.initialized "java/lang/StringLatin1" ∈ lw_good := ab_at_in (k := 128) (by decide +kernel)
theorem jm_iP : Cond.initialized "jdk/internal/util/Preconditions" ∈ lw_good := ab_at_in (k := 129) (by decide +kernel)
theorem jm_l335 : Cond.methodLink "java/lang/String" 335 yj_coder ∈ lw_good := ab_at_in (k := 534) (by decide +kernel)
theorem jm_n335 : Cond.instanceMethod yj_coder ∈ lw_good := ab_at_in (k := 535) (by decide +kernel)
theorem jm_s335 : Cond.selects "java/lang/String" yj_coder yj_coder ∈ lw_good := ab_at_in (k := 536) (by decide +kernel)
set_option maxRecDepth 100000 in
theorem jm_c335 : Cond.code yj_coder prog_13_method_152_code 1 (some .byte) ∈ lw_good := List.mem_filter.mpr ⟨List.mem_of_getElem? (i := 537) (by rfl), rfl⟩
theorem jm_f38 : Cond.fieldLink "java/lang/String" 38 "java/lang/String" "COMPACT_STRINGS" "Z" ∈ lw_good := ab_at_in (k := 538) (by decide +kernel)
theorem jm_l492 : Cond.methodLink "java/lang/String" 492 yj_latin ∈ lw_good := ab_at_in (k := 544) (by decide +kernel)
theorem jm_n492 : Cond.instanceMethod yj_latin ∈ lw_good := ab_at_in (k := 545) (by decide +kernel)
theorem jm_s492 : Cond.selects "java/lang/String" yj_latin yj_latin ∈ lw_good := ab_at_in (k := 546) (by decide +kernel)
set_option maxRecDepth 100000 in
theorem jm_c492 : Cond.code yj_latin prog_13_method_154_code 1 (some .boolean) ∈ lw_good := List.mem_filter.mpr ⟨List.mem_of_getElem? (i := 547) (by rfl), rfl⟩
theorem jm_l495 : Cond.methodLink "java/lang/String" 495 yj_chL ∈ lw_good := ab_at_in (k := 548) (by decide +kernel)
theorem jm_n495 : Cond.static yj_chL ∈ lw_good := ab_at_in (k := 549) (by decide +kernel)
set_option maxRecDepth 100000 in
theorem jm_c495 : Cond.code yj_chL prog_14_method_2_code 2 (some .char) ∈ lw_good := List.mem_filter.mpr ⟨List.mem_of_getElem? (i := 550) (by rfl), rfl⟩
theorem jm_l9 : Cond.methodLink "java/lang/StringLatin1" 9 yj_ckS ∈ lw_good := ab_at_in (k := 551) (by decide +kernel)
theorem jm_n9 : Cond.static yj_ckS ∈ lw_good := ab_at_in (k := 552) (by decide +kernel)
set_option maxRecDepth 100000 in
theorem jm_c9 : Cond.code yj_ckS prog_13_method_155_code 2 none ∈ lw_good := List.mem_filter.mpr ⟨List.mem_of_getElem? (i := 553) (by rfl), rfl⟩
theorem jm_f1053 : Cond.fieldLink "java/lang/String" 1053 "jdk/internal/util/Preconditions" "SIOOBE_FORMATTER" "Ljava/util/function/BiFunction;" ∈ lw_good := ab_at_in (k := 554) (by decide +kernel)
theorem jm_l1059 : Cond.methodLink "java/lang/String" 1059 yj_ckP ∈ lw_good := ab_at_in (k := 556) (by decide +kernel)
theorem jm_n1059 : Cond.static yj_ckP ∈ lw_good := ab_at_in (k := 557) (by decide +kernel)
set_option maxRecDepth 100000 in
theorem jm_c1059 : Cond.code yj_ckP prog_17_method_11_code 3 (some .int) ∈ lw_good := List.mem_filter.mpr ⟨List.mem_of_getElem? (i := 558) (by rfl), rfl⟩
theorem jm_f9 : Cond.fieldLink "java/lang/String" 9 "java/lang/String" "value" "[B" ∈ lw_good := ab_at_in (k := 1493) (by decide +kernel)
theorem jm_f15 : Cond.fieldLink "java/lang/String" 15 "java/lang/String" "coder" "B" ∈ lw_good := ab_at_in (k := 1494) (by decide +kernel)
theorem jw_tab : ((List.range 12).all fun w => decide ((Int32.ofNat (ab_wlen.getD w 0)) >>> ((0 : Int32) &&& 31) = Int32.ofNat (ab_word w).length) && decide (ab_wlen.getD w 0 = (ab_word w).length) && (List.range (ab_word w).length).all fun j => decide (((((ab_wbyt.getD w []).getD j 0) &&& 255).toUInt32 % 65536).toInt32 = Int32.ofNat (ab_nth 0 (ab_word w) j)) && decide (narrow .char (.int (Int32.ofNat (ab_nth 0 (ab_word w) j))) = .int (Int32.ofNat (ab_nth 0 (ab_word w) j)))) = true := by decide +kernel
theorem jw_len {w : Nat} (hw : w < 12) : (Int32.ofNat (ab_wlen.getD w 0)) >>> ((0 : Int32) &&& 31) = Int32.ofNat (ab_word w).length ∧ ab_wlen.getD w 0 = (ab_word w).length := by
  have h := List.all_eq_true.mp jw_tab w (List.mem_range.mpr hw)
  rw [Bool.and_eq_true, Bool.and_eq_true] at h
  exact ⟨of_decide_eq_true h.1.1, of_decide_eq_true h.1.2⟩
theorem jw_ch {w j : Nat} (hw : w < 12) (hj : j < (ab_word w).length) : ((((ab_wbyt.getD w []).getD j 0) &&& 255).toUInt32 % 65536).toInt32 = Int32.ofNat (ab_nth 0 (ab_word w) j) ∧ narrow .char (.int (Int32.ofNat (ab_nth 0 (ab_word w) j))) = .int (Int32.ofNat (ab_nth 0 (ab_word w) j)) := by
  have h := List.all_eq_true.mp jw_tab w (List.mem_range.mpr hw)
  rw [Bool.and_eq_true] at h
  have h2 := List.all_eq_true.mp h.2 j (List.mem_range.mpr hj)
  rw [Bool.and_eq_true] at h2
  exact ⟨of_decide_eq_true h2.1, of_decide_eq_true h2.2⟩
theorem jw_12 {w : Nat} (hw : w < 12) : (ab_word w).length < 10 := by
  have h : ((List.range 12).all fun w => decide ((ab_word w).length < 10)) = true := by decide +kernel
  exact of_decide_eq_true (List.all_eq_true.mp h w (List.mem_range.mpr hw))
section
variable {l : Launch} {G : ab_Gt} {w : Nat}
theorem jd_coder (hw : w < 12) (σ : Sg) : jd_Met l G yj_coder prog_13_method_152_code 1 (some .byte) 0 [.ref (gad G 60 w)] (some (.int 0)) σ := by
  refine Met.ofW (cc := prog_13_method_152_code) (maxL := 1) (ret := some .byte) (by decide) rfl ?_
  intro p e s m args below meth c s₁ B hml hv
  obtain ⟨rfl, hP, hKK⟩ := hv
  have hx := B.exec
  have hb := B.bytes
  have hr := B.returns
  have hts := atoms_spec (ws := jd_ws yj_coder prog_13_method_152_code 1 (some .byte)) B.pre
  have g : ∀ w, w ∈ lw_good → w.before _ s = true := fun w hw => hts w (List.mem_cons_of_mem _ hw)
  have hown : s.vm.findClass "java/lang/String" = some m.cls := findClass_of_methodNamed B.named
  have hlocks := B.notSynchronized
  have hS : va_S (gA G) s.heap s.heap [] := va_S.rf
  obtain ⟨-, hSS, hCS, hSF⟩ := hKK.2.2.2
  have hl := lv_entry ([.ref (gad G 60 w)]) (n := 1) (Nat.le_of_ble_eq_true rfl)
  rw [lg_entry_eq]
  generalize (lg_sl ([.ref (gad G 60 w)]) ++ List.replicate (1 - (lg_sl ([.ref (gad G 60 w)])).length) Slot.unset).toArray = ls at hl ⊢
  have hl : lv_has ls 1 [(0, .ref (gad G 60 w))] := hl
  refine va_gets (v := .int 1) hx hb hCS hS hown (g _ jm_f38) (fun _ h9 => h9) (show decode prog_13_method_152_code 0 = .ok (.getstatic 38, 3) by decide +kernel) ?_
  refine lv_if_eq (tgt := 13) hx hb (show decode prog_13_method_152_code 3 = .ok (.ifCond .eq 10, 3) by decide +kernel) (by decide) (fun q => absurd q (by decide)) (fun _ => ?_)
  refine lv_aload_n hx hb (show decode prog_13_method_152_code 6 = .ok (.aload_n 0, 1) by decide +kernel) rfl (lv_at hl 0 rfl) ?_
  refine vk_getf (o := "java/lang/String") (n := "coder") (d := "B") (v := .int 0) hx hb (hSS.1 w hw).2.1 hS hown (g _ jm_f15) (fun _ h9 => h9) (show decode prog_13_method_152_code 7 = .ok (.getfield 15, 3) by decide +kernel) ?_
  refine lv_goto (tgt := 14) hx hb (show decode prog_13_method_152_code 10 = .ok (.goto 4, 3) by decide +kernel) (by decide) ?_
  exact W.zret (v := 0) (ty := .byte) hx hb hr rfl (fun t ht hW => ⟨rfl, by rw [ht]; exact hP, hS.F ht⟩) hS.2.2 (show decode prog_13_method_152_code 14 = .ok (.ireturn, 1) by decide +kernel)
theorem jd_latin (hw : w < 12) (σ : Sg) : jd_Met l G yj_latin prog_13_method_154_code 1 (some .boolean) 0 [.ref (gad G 60 w)] (some (.int 1)) σ := by
  refine Met.ofW (cc := prog_13_method_154_code) (maxL := 1) (ret := some .boolean) (by decide) rfl ?_
  intro p e s m args below meth c s₁ B hml hv
  obtain ⟨rfl, hP, hKK⟩ := hv
  have hx := B.exec
  have hb := B.bytes
  have hr := B.returns
  have hts := atoms_spec (ws := jd_ws yj_latin prog_13_method_154_code 1 (some .boolean)) B.pre
  have g : ∀ w, w ∈ lw_good → w.before _ s = true := fun w hw => hts w (List.mem_cons_of_mem _ hw)
  have hown : s.vm.findClass "java/lang/String" = some m.cls := findClass_of_methodNamed B.named
  have hlocks := B.notSynchronized
  have hS : va_S (gA G) s.heap s.heap [] := va_S.rf
  obtain ⟨-, hSS, hCS, hSF⟩ := hKK.2.2.2
  have hl := lv_entry ([.ref (gad G 60 w)]) (n := 1) (Nat.le_of_ble_eq_true rfl)
  rw [lg_entry_eq]
  generalize (lg_sl ([.ref (gad G 60 w)]) ++ List.replicate (1 - (lg_sl ([.ref (gad G 60 w)])).length) Slot.unset).toArray = ls at hl ⊢
  have hl : lv_has ls 1 [(0, .ref (gad G 60 w))] := hl
  refine va_gets (v := .int 1) hx hb hCS hS hown (g _ jm_f38) (fun _ h9 => h9) (show decode prog_13_method_154_code 0 = .ok (.getstatic 38, 3) by decide +kernel) ?_
  refine lv_if_eq (tgt := 17) hx hb (show decode prog_13_method_154_code 3 = .ok (.ifCond .eq 14, 3) by decide +kernel) (by decide) (fun q => absurd q (by decide)) (fun _ => ?_)
  refine lv_aload_n hx hb (show decode prog_13_method_154_code 6 = .ok (.aload_n 0, 1) by decide +kernel) rfl (lv_at hl 0 rfl) ?_
  refine vk_getf (o := "java/lang/String") (n := "coder") (d := "B") (v := .int 0) hx hb (hSS.1 w hw).2.1 hS hown (g _ jm_f15) (fun _ h9 => h9) (show decode prog_13_method_154_code 7 = .ok (.getfield 15, 3) by decide +kernel) ?_
  refine lv_if_ne (tgt := 17) hx hb (show decode prog_13_method_154_code 10 = .ok (.ifCond .ne 7, 3) by decide +kernel) (by decide) (fun q => absurd rfl q) (fun _ => ?_)
  refine lv_iconst (v := 1) hx hb (show decode prog_13_method_154_code 13 = .ok (.iconst 1, 1) by decide +kernel) (by decide) ?_
  refine lv_goto (tgt := 18) hx hb (show decode prog_13_method_154_code 14 = .ok (.goto 4, 3) by decide +kernel) (by decide) ?_
  exact W.zret (v := 1) (ty := .boolean) hx hb hr rfl (fun t ht hW => ⟨rfl, by rw [ht]; exact hP, hS.F ht⟩) hS.2.2 (show decode prog_13_method_154_code 18 = .ok (.ireturn, 1) by decide +kernel)
theorem jd_length (hw : w < 12) (σ : Sg) : jd_Met l G yj_length prog_13_method_54_code 1 (some .int) 5 [.ref (gad G 60 w)] (some (.int (Int32.ofNat (ab_word w).length))) σ := by
  refine Met.ofW (cc := prog_13_method_54_code) (maxL := 1) (ret := some .int) (by decide) rfl ?_
  intro p e s m args below meth c s₁ B hml hv
  obtain ⟨rfl, hP, hKK⟩ := hv
  have hx := B.exec
  have hb := B.bytes
  have hr := B.returns
  have hts := atoms_spec (ws := jd_ws yj_length prog_13_method_54_code 1 (some .int)) B.pre
  have g : ∀ w, w ∈ lw_good → w.before _ s = true := fun w hw => hts w (List.mem_cons_of_mem _ hw)
  have hown : s.vm.findClass "java/lang/String" = some m.cls := findClass_of_methodNamed B.named
  have hlocks := B.notSynchronized
  have hS : va_S (gA G) s.heap s.heap [] := va_S.rf
  obtain ⟨-, hSS, hCS, hSF⟩ := hKK.2.2.2
  have hl := lv_entry ([.ref (gad G 60 w)]) (n := 1) (Nat.le_of_ble_eq_true rfl)
  rw [lg_entry_eq]
  generalize (lg_sl ([.ref (gad G 60 w)]) ++ List.replicate (1 - (lg_sl ([.ref (gad G 60 w)])).length) Slot.unset).toArray = ls at hl ⊢
  have hl : lv_has ls 1 [(0, .ref (gad G 60 w))] := hl
  refine lv_aload_n hx hb (show decode prog_13_method_54_code 0 = .ok (.aload_n 0, 1) by decide +kernel) rfl (lv_at hl 0 rfl) ?_
  refine vk_getf (o := "java/lang/String") (n := "value") (d := "[B") (v := .ref (gV G w)) hx hb (hSS.1 w hw).2.2.1 hS hown (g _ jm_f9) (fun _ h9 => h9) (show decode prog_13_method_54_code 1 = .ok (.getfield 9, 3) by decide +kernel) ?_
  refine va_tlen (v := Int32.ofNat (ab_wlen.getD w 0)) hx hb (hSS.1 w hw).2.2.2 hS rfl (show decode prog_13_method_54_code 4 = .ok (.arraylength, 1) by decide +kernel) ?_
  refine lv_aload_n hx hb (show decode prog_13_method_54_code 5 = .ok (.aload_n 0, 1) by decide +kernel) rfl (lv_at hl 0 rfl) ?_
  refine jd_callV (av := []) (rest := [.int (Int32.ofNat (ab_wlen.getD w 0))]) hx hb hml hown hts hw (jd_coder hw σ) jm_c335 jm_iS jm_l335 jm_n335 jm_s335 ⟨by decide, by decide, by decide +kernel⟩ ⟨by decide, by decide⟩ hKK hP hS hl.1 (by show 1 + 0 ≤ 8; omega) (show decode prog_13_method_54_code 6 = .ok (.invokevirtual 335, 3) by decide +kernel) ⟨by decide, by decide⟩ (fun H1 locs1 hP1 hS1 => ?_)
  refine lv_ishr hx hb (show decode prog_13_method_54_code 9 = .ok (.ishr, 1) by decide +kernel) ?_
  refine W.iret (v := Int32.ofNat (ab_wlen.getD w 0) >>> ((0 : Int32) &&& 31)) hx hb hr (fun t ht hW => ⟨?_, by rw [ht]; exact hP1, hS1.F ht⟩) hS1.2.2 (show decode prog_13_method_54_code 10 = .ok (.ireturn, 1) by decide +kernel)
  rw [(jw_len hw).1]
theorem jd_ckP {i n : Int32} {f : Value} (hf : f = .null ∨ ∃ t, f = .ref t) (h0 : ¬ i < 0) (h1 : i < n) (σ : Sg) : jd_Met l G yj_ckP prog_17_method_11_code 3 (some .int) 0 [.int i, .int n, f] (some (.int i)) σ := by
  refine Met.ofW (cc := prog_17_method_11_code) (maxL := 3) (ret := some .int) (by decide) rfl ?_
  intro p e s m args below meth c s₁ B hml hv
  obtain ⟨rfl, hP, hKK⟩ := hv
  have hx := B.exec
  have hb := B.bytes
  have hr := B.returns
  have hlocks := B.notSynchronized
  have hS : va_S (gA G) s.heap s.heap [] := va_S.rf
  have hl : ∃ ls, (entryFrame m ([.int i, .int n, f] : List Value).toArray 3 = F0 m 0 ls []) ∧ lv_has ls 3 [(0, .int i), (1, .int n)] := by
    rcases hf with rfl | ⟨t, rfl⟩
    · have hl := lv_entry ([.int i, .int n, .null]) (n := 3) (Nat.le_of_ble_eq_true rfl)
      exact ⟨_, lg_entry_eq _ _ _, lv_sub hl [0, 1] rfl⟩
    · have hl := lv_entry ([.int i, .int n, .ref t]) (n := 3) (Nat.le_of_ble_eq_true rfl)
      exact ⟨_, lg_entry_eq _ _ _, lv_sub hl [0, 1] rfl⟩
  obtain ⟨ls, he, hl⟩ := hl
  rw [he]
  refine lv_iload_n hx hb (show decode prog_17_method_11_code 0 = .ok (.iload_n 0, 1) by decide +kernel) rfl (lv_at hl 0 rfl) ?_
  refine lv_if_lt (tgt := 9) hx hb (show decode prog_17_method_11_code 1 = .ok (.ifCond .lt 8, 3) by decide +kernel) (by decide) (fun q => absurd q h0) (fun _ => ?_)
  refine lv_iload_n hx hb (show decode prog_17_method_11_code 4 = .ok (.iload_n 0, 1) by decide +kernel) rfl (lv_at hl 0 rfl) ?_
  refine lv_iload_n hx hb (show decode prog_17_method_11_code 5 = .ok (.iload_n 1, 1) by decide +kernel) rfl (lv_at hl 1 rfl) ?_
  refine lv_icmp_lt (tgt := 16) hx hb (show decode prog_17_method_11_code 6 = .ok (.if_icmp .lt 10, 3) by decide +kernel) (by decide) (fun _ => ?_) (fun q => absurd h1 q)
  refine lv_iload_n hx hb (show decode prog_17_method_11_code 16 = .ok (.iload_n 0, 1) by decide +kernel) rfl (lv_at hl 0 rfl) ?_
  exact W.iret (v := i) hx hb hr (fun t ht hW => ⟨rfl, by rw [ht]; exact hP, hS.F ht⟩) hS.2.2 (show decode prog_17_method_11_code 17 = .ok (.ireturn, 1) by decide +kernel)
theorem jd_ckS {i n : Int32} (h0 : ¬ i < 0) (h1 : i < n) (σ : Sg) : jd_Met l G yj_ckS prog_13_method_155_code 2 none 1 [.int i, .int n] none σ := by
  refine Met.ofW (cc := prog_13_method_155_code) (maxL := 2) (ret := none) (by decide) rfl ?_
  intro p e s m args below meth c s₁ B hml hv
  obtain ⟨rfl, hP, hKK⟩ := hv
  have hx := B.exec
  have hb := B.bytes
  have hr := B.returns
  have hts := atoms_spec (ws := jd_ws yj_ckS prog_13_method_155_code 2 none) B.pre
  have g : ∀ w, w ∈ lw_good → w.before _ s = true := fun w hw => hts w (List.mem_cons_of_mem _ hw)
  have hown : s.vm.findClass "java/lang/String" = some m.cls := findClass_of_methodNamed B.named
  have hlocks := B.notSynchronized
  have hS : va_S (gA G) s.heap s.heap [] := va_S.rf
  obtain ⟨-, hSS, hCS, hSF⟩ := hKK.2.2.2
  have hl := lv_entry ([.int i, .int n]) (n := 2) (Nat.le_of_ble_eq_true rfl)
  rw [lg_entry_eq]
  generalize (lg_sl ([.int i, .int n]) ++ List.replicate (2 - (lg_sl ([.int i, .int n])).length) Slot.unset).toArray = ls at hl ⊢
  have hl : lv_has ls 2 [(0, .int i), (1, .int n)] := hl
  have hZ : ∃ f : Value, (f = .null ∨ ∃ t, f = .ref t) ∧ va_Z "jdk/internal/util/Preconditions" "SIOOBE_FORMATTER" "Ljava/util/function/BiFunction;" f (gA G) s s.heap := by
    rcases hSF with h | ⟨t, h⟩
    · exact ⟨_, Or.inl rfl, h⟩
    · exact ⟨_, Or.inr ⟨t, rfl⟩, h⟩
  obtain ⟨f, hf, hZ⟩ := hZ
  refine lv_iload_n hx hb (show decode prog_13_method_155_code 0 = .ok (.iload_n 0, 1) by decide +kernel) rfl (lv_at hl 0 rfl) ?_
  refine lv_iload_n hx hb (show decode prog_13_method_155_code 1 = .ok (.iload_n 1, 1) by decide +kernel) rfl (lv_at hl 1 rfl) ?_
  refine va_gets (v := f) hx hb hZ hS hown (g _ jm_f1053) (fun _ h9 => h9) (show decode prog_13_method_155_code 2 = .ok (.getstatic 1053, 3) by decide +kernel) ?_
  refine jd_callS (av := [.int i, .int n, f]) (rest := []) hx hb hml hown hts (jd_ckP hf h0 h1 σ) jm_c1059 jm_iP jm_l1059 jm_n1059 ⟨by decide, by decide, show _ = some 3 by decide +kernel⟩ ⟨by decide, by decide⟩ hKK hP hS hl.1 (by show 0 ≤ 8; omega) (show decode prog_13_method_155_code 5 = .ok (.invokestatic 1059, 3) by decide +kernel) ⟨by decide, by decide⟩ (fun H1 locs1 hP1 hS1 => ?_)
  refine lv_pop (va := .int i) hx hb (show decode prog_13_method_155_code 8 = .ok (.pop, 1) by decide +kernel) rfl ?_
  exact W.vret hx hb hr (fun t ht hW => ⟨rfl, by rw [ht]; exact hP1, hS1.F ht⟩) hS1.2.2 (show decode prog_13_method_155_code 9 = .ok (.return_, 1) by decide +kernel)
theorem jd_chL (hw : w < 12) {j : Nat} (hj : j < (ab_word w).length) (σ : Sg) : jd_Met l G yj_chL prog_14_method_2_code 2 (some .char) 2 [.ref (gV G w), .int (nI j)] (some (.int (Int32.ofNat (ab_nth 0 (ab_word w) j)))) σ := by
  have hlen := (jw_len hw).2
  have h10 := jw_12 hw
  refine Met.ofW (cc := prog_14_method_2_code) (maxL := 2) (ret := some .char) (by decide) rfl ?_
  intro p e s m args below meth c s₁ B hml hv
  obtain ⟨rfl, hP, hKK⟩ := hv
  have hx := B.exec
  have hb := B.bytes
  have hr := B.returns
  have hts := atoms_spec (ws := jd_ws yj_chL prog_14_method_2_code 2 (some .char)) B.pre
  have g : ∀ w, w ∈ lw_good → w.before _ s = true := fun w hw => hts w (List.mem_cons_of_mem _ hw)
  have hown : s.vm.findClass "java/lang/StringLatin1" = some m.cls := findClass_of_methodNamed B.named
  have hlocks := B.notSynchronized
  have hS : va_S (gA G) s.heap s.heap [] := va_S.rf
  obtain ⟨-, hSS, hCS, hSF⟩ := hKK.2.2.2
  have hl := lv_entry ([.ref (gV G w), .int (nI j)]) (n := 2) (Nat.le_of_ble_eq_true rfl)
  rw [lg_entry_eq]
  generalize (lg_sl ([.ref (gV G w), .int (nI j)]) ++ List.replicate (2 - (lg_sl ([.ref (gV G w), .int (nI j)])).length) Slot.unset).toArray = ls at hl ⊢
  have hl : lv_has ls 2 [(0, .ref (gV G w)), (1, .int (nI j))] := hl
  refine lv_iload_n hx hb (show decode prog_14_method_2_code 0 = .ok (.iload_n 1, 1) by decide +kernel) rfl (lv_at hl 1 rfl) ?_
  refine lv_aload_n hx hb (show decode prog_14_method_2_code 1 = .ok (.aload_n 0, 1) by decide +kernel) rfl (lv_at hl 0 rfl) ?_
  refine va_tlen (v := Int32.ofNat (ab_wlen.getD w 0)) hx hb (hSS.1 w hw).2.2.2 hS rfl (show decode prog_14_method_2_code 2 = .ok (.arraylength, 1) by decide +kernel) ?_
  refine jd_callS (av := [.int (nI j), .int (Int32.ofNat (ab_wlen.getD w 0))]) (rest := []) hx hb hml hown hts (jd_ckS (nI_pos (by omega)) (nI_lt (by omega) (by omega)) σ) jm_c9 jm_iS jm_l9 jm_n9 ⟨by decide, by decide, show _ = some 2 by decide +kernel⟩ ⟨by decide, by decide⟩ hKK hP hS hl.1 (by show 0 ≤ 8; omega) (show decode prog_14_method_2_code 3 = .ok (.invokestatic 9, 3) by decide +kernel) ⟨by decide, by decide⟩ (fun H1 locs1 hP1 hS1 => ?_)
  refine lv_aload_n hx hb (show decode prog_14_method_2_code 6 = .ok (.aload_n 0, 1) by decide +kernel) rfl (lv_at hl 0 rfl) ?_
  refine lv_iload_n hx hb (show decode prog_14_method_2_code 7 = .ok (.iload_n 1, 1) by decide +kernel) rfl (lv_at hl 1 rfl) ?_
  refine va_tb (v := .int ((ab_wbyt.getD w []).getD j 0)) hx hb (hSS.1 w hw).2.2.2 hS1 (vp_in_nI (by omega) (by omega)) (by rw [nI_clamp (by omega)]) (show decode prog_14_method_2_code 8 = .ok (.baload, 1) by decide +kernel) ?_
  refine lv_sipush (v := 255) hx hb (show decode prog_14_method_2_code 9 = .ok (.sipush 255, 3) by decide +kernel) (by decide) ?_
  refine lv_iand hx hb (show decode prog_14_method_2_code 12 = .ok (.iand, 1) by decide +kernel) ?_
  refine lv_i2c (v := Int32.ofNat (ab_nth 0 (ab_word w) j)) hx hb (show decode prog_14_method_2_code 13 = .ok (.i2c, 1) by decide +kernel) (jw_ch hw hj).1 ?_
  exact W.zret (v := Int32.ofNat (ab_nth 0 (ab_word w) j)) (ty := .char) hx hb hr (jw_ch hw hj).2 (fun t ht hW => ⟨rfl, by rw [ht]; exact hP1, hS1.F ht⟩) hS1.2.2 (show decode prog_14_method_2_code 14 = .ok (.ireturn, 1) by decide +kernel)
theorem jd_charAt (hw : w < 12) {j : Nat} (hj : j < (ab_word w).length) (σ : Sg) : jd_Met l G yj_charAt prog_13_method_56_code 2 (some .char) 5 [.ref (gad G 60 w), .int (nI j)] (some (.int (Int32.ofNat (ab_nth 0 (ab_word w) j)))) σ := by
  refine Met.ofW (cc := prog_13_method_56_code) (maxL := 2) (ret := some .char) (by decide) rfl ?_
  intro p e s m args below meth c s₁ B hml hv
  obtain ⟨rfl, hP, hKK⟩ := hv
  have hx := B.exec
  have hb := B.bytes
  have hr := B.returns
  have hts := atoms_spec (ws := jd_ws yj_charAt prog_13_method_56_code 2 (some .char)) B.pre
  have g : ∀ w, w ∈ lw_good → w.before _ s = true := fun w hw => hts w (List.mem_cons_of_mem _ hw)
  have hown : s.vm.findClass "java/lang/String" = some m.cls := findClass_of_methodNamed B.named
  have hlocks := B.notSynchronized
  have hS : va_S (gA G) s.heap s.heap [] := va_S.rf
  obtain ⟨-, hSS, hCS, hSF⟩ := hKK.2.2.2
  have hl := lv_entry ([.ref (gad G 60 w), .int (nI j)]) (n := 2) (Nat.le_of_ble_eq_true rfl)
  rw [lg_entry_eq]
  generalize (lg_sl ([.ref (gad G 60 w), .int (nI j)]) ++ List.replicate (2 - (lg_sl ([.ref (gad G 60 w), .int (nI j)])).length) Slot.unset).toArray = ls at hl ⊢
  have hl : lv_has ls 2 [(0, .ref (gad G 60 w)), (1, .int (nI j))] := hl
  refine lv_aload_n hx hb (show decode prog_13_method_56_code 0 = .ok (.aload_n 0, 1) by decide +kernel) rfl (lv_at hl 0 rfl) ?_
  refine jd_callV (av := []) (rest := []) hx hb hml hown hts hw (jd_latin hw σ) jm_c492 jm_iS jm_l492 jm_n492 jm_s492 ⟨by decide, by decide, by decide +kernel⟩ ⟨by decide, by decide⟩ hKK hP hS hl.1 (by show 0 ≤ 8; omega) (show decode prog_13_method_56_code 1 = .ok (.invokevirtual 492, 3) by decide +kernel) ⟨by decide, by decide⟩ (fun H1 locs1 hP1 hS1 => ?_)
  refine lv_if_eq (x := 1) (rest := []) (tgt := 16) hx hb (show decode prog_13_method_56_code 4 = .ok (.ifCond .eq 12, 3) by decide +kernel) (by decide) (fun q => absurd q (by decide)) (fun _ => ?_)
  refine lv_aload_n hx hb (show decode prog_13_method_56_code 7 = .ok (.aload_n 0, 1) by decide +kernel) rfl (lv_at hl 0 rfl) ?_
  refine vk_getf (o := "java/lang/String") (n := "value") (d := "[B") (v := .ref (gV G w)) hx hb (hSS.1 w hw).2.2.1 hS1 hown (g _ jm_f9) (fun _ h9 => h9) (show decode prog_13_method_56_code 8 = .ok (.getfield 9, 3) by decide +kernel) ?_
  refine lv_iload_n hx hb (show decode prog_13_method_56_code 11 = .ok (.iload_n 1, 1) by decide +kernel) rfl (lv_at hl 1 rfl) ?_
  refine jd_callS (av := [.ref (gV G w), .int (nI j)]) (rest := []) hx hb hml hown hts (jd_chL hw hj σ) jm_c495 jm_iL jm_l495 jm_n495 ⟨by decide, by decide, show _ = some 2 by decide +kernel⟩ ⟨by decide, by decide⟩ hKK hP1 hS1 hl.1 (by show 0 ≤ 8; omega) (show decode prog_13_method_56_code 12 = .ok (.invokestatic 495, 3) by decide +kernel) ⟨by decide, by decide⟩ (fun H2 locs2 hP2 hS2 => ?_)
  exact W.zret (v := Int32.ofNat (ab_nth 0 (ab_word w) j)) (ty := .char) hx hb hr (jw_ch hw hj).2 (fun t ht hW => ⟨rfl, by rw [ht]; exact hP2, hS2.F ht⟩) hS2.2.2 (show decode prog_13_method_56_code 15 = .ok (.ireturn, 1) by decide +kernel)
theorem jd_w12 {G : ab_Gt} (hG : ab_GG G) {w : Nat} (h : ab_okr G (60, w)) : w < 12 := by
  rcases h with h | h | h
  · exact absurd rfl (hG.2.2.2.2 _ h)
  · exact h.2
  · cases h
theorem js_length {G : ab_Gt} (hG : ab_GG G) {R : Type} : ab_CS (R := R) l G 228 5 cp_Str_length := by
  intro as σ k res h
  match as, h with
  | [.inr (.inr (.inl (g1, w)))], h =>
    have h : (match Nat.beq g1 60 with
      | true => k (vI (Int32.ofNat (ab_word w).length)) σ
      | false => none) = some res := h
    cases hg : Nat.beq g1 60 with
    | false => rw [hg] at h; cases h
    | true =>
      rw [hg] at h
      have e := Nat.eq_of_beq_eq_true hg
      subst e
      exact ⟨vI (Int32.ofNat (ab_word w).length), σ, fun ok => jd_length (jd_w12 hG (ok _ List.mem_cons_self)) σ, rfl, fun _ => Or.inr ⟨rfl, rfl⟩, h⟩
theorem js_charAt {G : ab_Gt} (hG : ab_GG G) {R : Type} : ab_CS (R := R) l G 229 5 cp_Str_charAt := by
  intro as σ k res h
  match as, h with
  | [.inr (.inr (.inl (g1, w))), .inl j], h =>
    have h : (match Nat.beq g1 60 with
      | true => if j < 0 then none else if (ab_word w).length ≤ j.toNatClampNeg then none else k (vI (Int32.ofNat (ab_nth 0 (ab_word w) j.toNatClampNeg))) σ
      | false => none) = some res := h
    cases hg : Nat.beq g1 60 with
    | false => rw [hg] at h; cases h
    | true =>
      rw [hg] at h
      have e := Nat.eq_of_beq_eq_true hg
      subst e
      have h : (if j < 0 then none else if (ab_word w).length ≤ j.toNatClampNeg then none else k (vI (Int32.ofNat (ab_nth 0 (ab_word w) j.toNatClampNeg))) σ) = some res := h
      by_cases c1 : j < 0
      · rw [if_pos c1] at h; cases h
      · rw [if_neg c1] at h
        by_cases c2 : (ab_word w).length ≤ j.toNatClampNeg
        · rw [if_pos c2] at h; cases h
        · rw [if_neg c2] at h
          obtain ⟨n, hn, rfl⟩ := nI_of c1
          rw [nI_clamp hn] at h c2
          exact ⟨vI (Int32.ofNat (ab_nth 0 (ab_word w) n)), σ, fun ok => jd_charAt (jd_w12 hG (ok _ List.mem_cons_self)) (by omega) σ, rfl, fun _ => Or.inr ⟨rfl, rfl⟩, h⟩
end
