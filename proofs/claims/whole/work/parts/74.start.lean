/-! the law's loop, and its start -/
def permX : List Nat := [0, 1, 2, 3, 4, 5, 6, 7, 8, 9, 10, 11, 12, 13, 14, 15, 16, 17, 18, 19, 20, 21, 22, 23, 24, 25, 26, 27, 28, 29, 30, 31, 32, 33, 34, 35, 36, 41, 42, 43, 44, 45, 46, 47, 48, 49, 50, 51, 52, 53, 54, 55, 56, 57, 58, 59, 60, 61, 62, 63, 64, 65, 66, 67, 68, 37, 38, 39, 40]
def permM : List Nat := [2, 3, 4, 5, 6, 7, 8, 9, 10, 11, 12, 13, 14, 15, 16, 17, 18, 19, 20, 0, 1]
section
variable {D : va_G} {dA : Nat → ClassId} {adK adV : Nat → Nat} {a61 : Nat} {q : Nat → Nat} {A : Nat → Prop} {H : Heap}
set_option maxRecDepth 100000 in
theorem wX_fst : (wdX dA q).map Prod.fst = permX.map q := rfl
set_option maxRecDepth 100000 in
theorem wM_fst : (wdM dA q).map Prod.fst = permM.map q := rfl
theorem permX_1 : (permX.all fun k => decide (k < 69)) = true := by decide +kernel
theorem permX_2 : ((List.range 69).all fun k => decide (k ∈ permX)) = true := by decide +kernel
theorem permM_1 : (permM.all fun k => decide (k < 21)) = true := by decide +kernel
theorem permM_2 : ((List.range 21).all fun k => decide (k ∈ permM)) = true := by decide +kernel
theorem addr_of {w : va_W} {perm : List Nat} (h : w.map Prod.fst = perm.map q) {k : Nat} {x : Nat × va_E} (hk : w[k]? = some x) : ∃ j ∈ perm, x.1 = q j := by
  have h1 : (w.map Prod.fst)[k]? = some x.1 := by rw [List.getElem?_map, hk]; rfl
  rw [h, List.getElem?_map] at h1
  cases hp : perm[k]? with
  | none => rw [hp] at h1; cases h1
  | some j => rw [hp] at h1; exact ⟨j, List.mem_of_getElem? hp, (Option.some.inj h1).symm⟩
theorem addr_in {w : va_W} {perm : List Nat} (h : w.map Prod.fst = perm.map q) {j : Nat} (hj : j ∈ perm) : ∃ (k : Nat) (x : Nat × va_E), w[k]? = some x ∧ x.1 = q j := by
  obtain ⟨k, hk⟩ := List.getElem?_of_mem hj
  have h1 : (perm.map q)[k]? = some (q j) := by rw [List.getElem?_map, hk]; rfl
  rw [← h, List.getElem?_map] at h1
  cases hw : w[k]? with
  | none => rw [hw] at h1; cases h1
  | some x => rw [hw] at h1; exact ⟨k, x, hw, Option.some.inj h1⟩
theorem gX_in {a : Nat} (h : gAsX q a) : ∃ (k : Nat) (x : Nat × va_E), (wdX dA q)[k]? = some x ∧ x.1 = a := by
  obtain ⟨k, hk, rfl⟩ := h
  exact addr_in wX_fst (of_decide_eq_true (List.all_eq_true.mp permX_2 k (List.mem_range.mpr hk)))
theorem gM_in {a : Nat} (h : gAsM q a) : ∃ (k : Nat) (x : Nat × va_E), (wdM dA q)[k]? = some x ∧ x.1 = a := by
  obtain ⟨k, hk, rfl⟩ := h
  exact addr_in wM_fst (of_decide_eq_true (List.all_eq_true.mp permM_2 k (List.mem_range.mpr hk)))
theorem gX_D (h : va_D A (wdX dA q)) : va_D (gAsX q) (wdX dA q) := ⟨h.1, fun k x hx => by
  obtain ⟨j, hj, e⟩ := addr_of wX_fst hx
  exact ⟨j, of_decide_eq_true (List.all_eq_true.mp permX_1 j hj), e.symm⟩⟩
theorem gM_D (h : va_D A (wdM dA q)) : va_D (gAsM q) (wdM dA q) := ⟨h.1, fun k x hx => by
  obtain ⟨j, hj, e⟩ := addr_of wM_fst hx
  exact ⟨j, of_decide_eq_true (List.all_eq_true.mp permM_1 j hj), e.symm⟩⟩
theorem gX_GG (h : va_D A (wdX dA q)) : ab_GG (gWX D dA adK adV a61 q) := GG_of (σ0 := sgX) (D_of_map (gX_D h) wX_map) (by decide +kernel) (by decide +kernel) (by decide +kernel) (by decide +kernel)
theorem gM_GG (h : va_D A (wdM dA q)) : ab_GG (gWM D dA adK adV a61 q) := GG_of (σ0 := sgM) (by
  have := gM_D h
  rw [wM_eq (D := D) (adK := adK) (adV := adV) (a61 := a61)] at this
  exact this) (by decide +kernel) (by decide +kernel) (by decide +kernel) (by decide +kernel)
theorem ct_left {cl : List vw_C} {wr wc : va_W} (hP : va_P D cl (wr ++ wc) H) : va_P D cl wr H := fun k x h => hP k x (by rw [List.getElem?_append_left (List.getElem?_eq_some_iff.mp h).1]; exact h)
theorem ct_leftD {wr wc : va_W} (hD : va_D A (wr ++ wc)) : va_D A wr := by
  have left : ∀ (k : Nat) (x : Nat × va_E), wr[k]? = some x → (wr ++ wc)[k]? = some x := fun k x h => by rw [List.getElem?_append_left (List.getElem?_eq_some_iff.mp h).1]; exact h
  exact ⟨fun i j x y hx hy e => hD.1 i j x y (left i x hx) (left j y hy) e, fun k x h => hD.2 k x (left k x h)⟩
theorem ct_apart {wr wc : va_W} (hD : va_D A (wr ++ wc)) {i j : Nat} {x y : Nat × va_E} (hx : wr[i]? = some x) (hy : wc[j]? = some y) : x.1 ≠ y.1 := by
  have hl := (List.getElem?_eq_some_iff.mp hx).1
  intro e
  have := hD.1 i (wr.length + j) x y (by rw [List.getElem?_append_left hl]; exact hx) (by rw [List.getElem?_append_right (Nat.le_add_right _ _), Nat.add_sub_cancel_left]; exact hy) e
  omega
end
theorem na_subL {a c : Nat} (ha : a < 2 ^ 30) (hc : c < 2 ^ 30) : (nI a - nI c).toInt = (a : Int) - c := pk_sub_toInt ha hc
set_option maxHeartbeats 4000000 in
set_option maxRecDepth 100000 in
theorem law_loop {p : Program} {l : Launch} {e : Env} {s : State} {m : MethodId} {below : List Frame} {meth : Method} {c : Code} {cells slots b L : Nat} {xs : Nat → Int32} {GX GM : ab_Gt} (hcs : cells ≤ 600000 ∧ slots ≤ 7302250) (C : LawC p s m meth c b L xs GX GM) :
    ∀ (n i : Nat) (σ τ : Sg) (H : Heap) (locs : List Loc) (ls : Array Slot), i ≤ L → L < i + 6 * n → Rel σ τ → LawW s GX GM σ τ H locs → lv_has ls 4 [(3, .int (nI i)), (2, .ref (gad GM 30 0)), (1, .ref (gad GX 0 0)), (0, .ref b)] → W p l e room_1 s m #[Value.ref b] below meth c H locs cells slots (lw_Z below #[Value.ref b] s) (F0 m 18 ls []) := by
  obtain ⟨⟨hx, hb, hr, hml, hown, hts, hX, hbl, hlocks, hgv⟩, hL, -⟩ := id C
  have hbA : ¬ (fun q : Nat => s.heap.size ≤ q) b := Nat.not_le.mpr hbl
  intro n
  induction n with
  | zero => intro i σ τ H locs ls h1 h2; omega
  | succ n ih =>
    intro i σ τ H locs ls hiL hn hR hw hl
    have hS := hw.2.2
    refine lv_iload_n hx hb dl_18 rfl (lv_at hl 0 rfl) ?_
    refine lv_aload_n hx hb dl_19 rfl (lv_at hl 3 rfl) ?_
    refine va_slen hx hb hX hbl hbA hS dl_20 ?_
    refine lv_bipush (v := nI 6) hx hb dl_21 (by decide) ?_
    refine lv_isub hx hb dl_23 ?_
    refine lv_icmp_gt (tgt := 1202) hx hb dl_24 (by decide) (fun q => ?_) (fun q => ?_)
    · refine lv_iconst (v := 1) hx hb dl_1202 (by decide) ?_
      refine va_forget (fun q hq => hS.2.2 q hq) ?_
      refine W.widen (k := 600000) (n := 7302250) hcs.1 hcs.2 ?_
      exact lw_ret hx hb hr hlocks dl_1203
    · have hi : i + 6 ≤ L := by
        have q : ¬ (nI L - nI 6) < nI i := q
        rw [Int32.lt_iff_toInt_lt, na_subL (by omega) (by omega), nI_toInt (by omega)] at q
        omega
      have next : ∀ (σ' τ' : Sg) (H : Heap) (locs : List Loc), Rel σ' τ' → LawW s GX GM σ' τ' H locs → W p l e room_1 s m #[Value.ref b] below meth c H locs cells slots (lw_Z below #[Value.ref b] s) (F0 m 1196 ls []) := by
        intro σ' τ' H locs hR' hw'
        refine lv_iinc (v := nI (i + 6)) (lv' := [(3, .int (nI (i + 6))), (2, .ref (gad GM 30 0)), (1, .ref (gad GX 0 0)), (0, .ref b)]) hx hb dl_1196 hl (k := 0) rfl (na_add i 6) (by decide) rfl (fun ls hl => ?_)
        refine lv_goto (tgt := 18) hx hb dl_1199 (by decide) ?_
        exact ih (i + 6) σ' τ' H locs ls hi (by omega) hR' hw' hl
      refine lv_aload_n hx hb dl_27 rfl (lv_at hl 3 rfl) ?_
      refine lv_iload_n hx hb dl_28 rfl (lv_at hl 0 rfl) ?_
      refine va_sld hx hb hX hbl hbA hS (vp_in_nI (show i < L by omega) (by omega)) dl_29 ?_
      refine lv_bipush (v := 31) hx hb dl_30 (by decide) ?_
      refine lv_iand hx hb dl_32 ?_
      obtain ⟨k, hk, ek⟩ := pk_andE (xs (nI i).toNatClampNeg) (m := 31) 5 (by decide)
      rw [show xs (nI i).toNatClampNeg &&& 31 = nI k from ek]
      by_cases h28 : k < 28
      · match k, h28 with
        | 0, _ => exact lv_tableIn (off := 127) (tgt := 160) hx hb dl_33 (by decide) (by decide) rfl (by decide) (lcase_0 hcs C hi hR hw hl next)
        | 1, _ => exact lv_tableIn (off := 170) (tgt := 203) hx hb dl_33 (by decide) (by decide) rfl (by decide) (lcase_1 hcs C hi hR hw hl next)
        | 2, _ => exact lv_tableIn (off := 213) (tgt := 246) hx hb dl_33 (by decide) (by decide) rfl (by decide) (lcase_2 hcs C hi hR hw hl next)
        | 3, _ => exact lv_tableIn (off := 246) (tgt := 279) hx hb dl_33 (by decide) (by decide) rfl (by decide) (lcase_3 hcs C hi hR hw hl next)
        | 4, _ => exact lv_tableIn (off := 289) (tgt := 322) hx hb dl_33 (by decide) (by decide) rfl (by decide) (lcase_4 hcs C hi hR hw hl next)
        | 5, _ => exact lv_tableIn (off := 312) (tgt := 345) hx hb dl_33 (by decide) (by decide) rfl (by decide) (lcase_5 hcs C hi hR hw hl next)
        | 6, _ => exact lv_tableIn (off := 325) (tgt := 358) hx hb dl_33 (by decide) (by decide) rfl (by decide) (lcase_6 hcs C hi hR hw hl next)
        | 7, _ => exact lv_tableIn (off := 348) (tgt := 381) hx hb dl_33 (by decide) (by decide) rfl (by decide) (lcase_7 hcs C hi hR hw hl next)
        | 8, _ => exact lv_tableIn (off := 391) (tgt := 424) hx hb dl_33 (by decide) (by decide) rfl (by decide) (lcase_8 hcs C hi hR hw hl next)
        | 9, _ => exact lv_tableIn (off := 434) (tgt := 467) hx hb dl_33 (by decide) (by decide) rfl (by decide) (lcase_9 hcs C hi hR hw hl next)
        | 10, _ => exact lv_tableIn (off := 467) (tgt := 500) hx hb dl_33 (by decide) (by decide) rfl (by decide) (lcase_10 hcs C hi hR hw hl next)
        | 11, _ => exact lv_tableIn (off := 500) (tgt := 533) hx hb dl_33 (by decide) (by decide) rfl (by decide) (lcase_11 hcs C hi hR hw hl next)
        | 12, _ => exact lv_tableIn (off := 533) (tgt := 566) hx hb dl_33 (by decide) (by decide) rfl (by decide) (lcase_12 hcs C hi hR hw hl next)
        | 13, _ => exact lv_tableIn (off := 576) (tgt := 609) hx hb dl_33 (by decide) (by decide) rfl (by decide) (lcase_13 hcs C hi hR hw hl next)
        | 14, _ => exact lv_tableIn (off := 619) (tgt := 652) hx hb dl_33 (by decide) (by decide) rfl (by decide) (lcase_14 hcs C hi hR hw hl next)
        | 15, _ => exact lv_tableIn (off := 642) (tgt := 675) hx hb dl_33 (by decide) (by decide) rfl (by decide) (lcase_15 hcs C hi hR hw hl next)
        | 16, _ => exact lv_tableIn (off := 676) (tgt := 709) hx hb dl_33 (by decide) (by decide) rfl (by decide) (lcase_16 hcs C hi hR hw hl next)
        | 17, _ => exact lv_tableIn (off := 729) (tgt := 762) hx hb dl_33 (by decide) (by decide) rfl (by decide) (lcase_17 hcs C hi hR hw hl next)
        | 18, _ => exact lv_tableIn (off := 782) (tgt := 815) hx hb dl_33 (by decide) (by decide) rfl (by decide) (lcase_18 hcs C hi hR hw hl next)
        | 19, _ => exact lv_tableIn (off := 815) (tgt := 848) hx hb dl_33 (by decide) (by decide) rfl (by decide) (lcase_19 hcs C hi hR hw hl next)
        | 20, _ => exact lv_tableIn (off := 879) (tgt := 912) hx hb dl_33 (by decide) (by decide) rfl (by decide) (lcase_20 hcs C hi hR hw hl next)
        | 21, _ => exact lv_tableIn (off := 892) (tgt := 925) hx hb dl_33 (by decide) (by decide) rfl (by decide) (lcase_21 hcs C hi hR hw hl next)
        | 22, _ => exact lv_tableIn (off := 905) (tgt := 938) hx hb dl_33 (by decide) (by decide) rfl (by decide) (lcase_22 hcs C hi hR hw hl next)
        | 23, _ => exact lv_tableIn (off := 928) (tgt := 961) hx hb dl_33 (by decide) (by decide) rfl (by decide) (lcase_23 hcs C hi hR hw hl next)
        | 24, _ => exact lv_tableIn (off := 971) (tgt := 1004) hx hb dl_33 (by decide) (by decide) rfl (by decide) (lcase_24 hcs C hi hR hw hl next)
        | 25, _ => exact lv_tableIn (off := 1014) (tgt := 1047) hx hb dl_33 (by decide) (by decide) rfl (by decide) (lcase_25 hcs C hi hR hw hl next)
        | 26, _ => exact lv_tableIn (off := 1077) (tgt := 1110) hx hb dl_33 (by decide) (by decide) rfl (by decide) (lcase_26 hcs C hi hR hw hl next)
        | 27, _ => exact lv_tableIn (off := 1130) (tgt := 1163) hx hb dl_33 (by decide) (by decide) rfl (by decide) (lcase_27 hcs C hi hR hw hl next)
        | k + 28, h => exact absurd h (by omega)
      · refine lv_tableOut (tgt := 1196) hx hb dl_33 (Or.inr ?_) (by decide) (next σ τ H locs hR hw)
        rw [nI_toInt (by omega)]
        omega
theorem jc_L_7 : Cond.classLink "CoatsFitTheMoodLaw" 7 "CoatsFitTheMood" ∈ lw_good := ab_at_in (k := 133) (by decide +kernel)
theorem jt_X : Cond.instantiable "CoatsFitTheMood" 13 ∈ lw_good := ab_at_in (k := 134) (by decide +kernel)
theorem jz_X : Cond.initialized "CoatsFitTheMood" ∈ lw_good := ab_at_in (k := 117) (by decide +kernel)
set_option maxRecDepth 100000 in
theorem jk_X_init : Cond.code ⟨"CoatsFitTheMood", "<init>", "()V"⟩ prog_1_method_1_code 2 none ∈ lw_good := List.mem_filter.mpr ⟨List.mem_of_getElem? (i := 137) (by rfl), rfl⟩
theorem jl_L_9 : Cond.methodLink "CoatsFitTheMoodLaw" 9 ⟨"CoatsFitTheMood", "<init>", "()V"⟩ ∈ lw_good := ab_at_in (k := 135) (by decide +kernel)
theorem ji_X_init : Cond.instanceMethod ⟨"CoatsFitTheMood", "<init>", "()V"⟩ ∈ lw_good := ab_at_in (k := 136) (by decide +kernel)
theorem jc_L_10 : Cond.classLink "CoatsFitTheMoodLaw" 10 "CoatsFitTheMoodModel" ∈ lw_good := ab_at_in (k := 887) (by decide +kernel)
theorem jt_M : Cond.instantiable "CoatsFitTheMoodModel" 42 ∈ lw_good := ab_at_in (k := 888) (by decide +kernel)
set_option maxRecDepth 100000 in
theorem jk_M_init : Cond.code ⟨"CoatsFitTheMoodModel", "<init>", "()V"⟩ prog_10_method_4_code 2 none ∈ lw_good := List.mem_filter.mpr ⟨List.mem_of_getElem? (i := 891) (by rfl), rfl⟩
theorem jl_L_12 : Cond.methodLink "CoatsFitTheMoodLaw" 12 ⟨"CoatsFitTheMoodModel", "<init>", "()V"⟩ ∈ lw_good := ab_at_in (k := 889) (by decide +kernel)
theorem ji_M_init : Cond.instanceMethod ⟨"CoatsFitTheMoodModel", "<init>", "()V"⟩ ∈ lw_good := ab_at_in (k := 890) (by decide +kernel)
set_option maxHeartbeats 8000000 in
set_option maxRecDepth 100000 in
theorem whole_start {p : Program} {e : Env} {s : State} {m : MethodId} {below : List Frame} {meth : Method} {c : Code} (l : Launch) (hflags : l.flags = flags0) {b L : Nat} {xs : Nat → Int32} (hL : L ≤ 3072) (C0 : lw_At p s m meth c b L xs) : W p l e room_1 s m #[Value.ref b] below meth c s.heap [] 0 0 (lw_Z below #[Value.ref b] s) (entryFrame m ([Value.ref b] : List Value).toArray 4) := by
  obtain ⟨hx, hb, hr, hml, hown, hts, hX, hbl, hlocks, hgv⟩ := id C0
  have hg : ∀ w ∈ lw_good, w.before #[Value.ref b] s = true := fun w hw => hts w (List.mem_filter.mp hw).1
  obtain ⟨D, dA, hK⟩ := start_K hts
  obtain ⟨adK, adV, a61, hB⟩ := start_B hts hgv
  have hA : ∀ q, s.heap.size ≤ q → (fun q : Nat => s.heap.size ≤ q) q := fun _ h => h
  have C1 : ct_At p s m #[Value.ref b] c "CoatsFitTheMoodLaw" code 4 D dA := ⟨hx, hb, hml, hown, hg, hK⟩
  have hw : ct_W D (fun q : Nat => s.heap.size ≤ q) s [] s.heap [] := ⟨fun k q h => by simp at h, ⟨fun i j p q h => by simp at h, fun k q h => by simp at h⟩, va_S.rf⟩
  have hl := lv_entry ([.ref b]) (n := 4) (Nat.le_of_ble_eq_true rfl)
  rw [lg_entry_eq]
  generalize (lg_sl ([.ref b]) ++ List.replicate (4 - (lg_sl ([.ref b])).length) Slot.unset).toArray = ls at hl ⊢
  have hl : lv_has ls 4 [(0, .ref b)] := hl
  refine ct_new (ci := 7) (fs := [.null, .null, .int 0, .null, .null, .int 0, .int 0, .null, .null, .null, .null, .null, .null]) C1 hA hw rfl df_7 jc_L_7 jt_X jz_X (Nat.le_of_ble_eq_true rfl) (Nat.le_of_ble_eq_true rfl) dl_0 (fun h0 H hw => ?_)
  refine lv_dup hx hb dl_3 rfl ?_
  refine ct_callI (wr := []) (wc := [(h0, .inr (7, [.null, .null, .int 0, .null, .null, .int 0, .int 0, .null, .null, .null, .null, .null, .null]))]) (av := []) (rest := [.ref h0]) C1 hA hw (cc_X l D dA h0) rfl jk_X_init jz_X jl_L_9 ji_X_init ⟨by decide, by decide, show _ = some 0 by decide +kernel⟩ ⟨(Nat.le_of_ble_eq_true rfl), (Nat.le_of_ble_eq_true rfl)⟩ (fun _ _ _ => trivial) (fun _ _ _ _ _ => trivial) hl.1 (Nat.le_of_ble_eq_true rfl) ⟨(Nat.le_of_ble_eq_true rfl), (Nat.le_of_ble_eq_true rfl)⟩ dl_4 (fun w1 H locs hp hw => ?_)
  obtain ⟨qX, hqX, rfl⟩ := hp
  have hw : ct_W D (fun q : Nat => s.heap.size ≤ q) s (wdX dA qX) H locs := hw
  refine lv_astore_n (lv' := [(1, .ref h0), (0, .ref b)]) hx hb dl_7 rfl hl (by decide) rfl (fun ls hl => ?_)
  refine ct_new (ci := 8) (fs := ((.int 0) :: (.null) :: (.null) :: (.int 0) :: (.int 0) :: (.null) :: (.int 0) :: (.null) :: (.null) :: (.null) :: (.int 0) :: (.int 0) :: (.int 0) :: (.int 0) :: (.int 0) :: (.int 0) :: (.int 0) :: (.int 0) :: (.int 0) :: (.int 0) :: (.int 0) :: (.int 0) :: (.long 0) :: (.int 0) :: (.int 0) :: (.int 0) :: (.null) :: (.null) :: (.null) :: (.null) :: (.null) :: (.null) :: (.null) :: (.null) :: (.null) :: (.null) :: (.int 0) :: (.int 0) :: (.null) :: (.null) :: (.null) :: (.null) :: [])) C1 hA hw rfl df_8 jc_L_10 jt_M jz_M (Nat.le_of_ble_eq_true rfl) (Nat.le_of_ble_eq_true rfl) dl_8 (fun h1 H hw => ?_)
  refine lv_dup hx hb dl_11 rfl ?_
  refine ct_callI (wr := wdX dA qX) (wc := [(h1, .inr (8, ((.int 0) :: (.null) :: (.null) :: (.int 0) :: (.int 0) :: (.null) :: (.int 0) :: (.null) :: (.null) :: (.null) :: (.int 0) :: (.int 0) :: (.int 0) :: (.int 0) :: (.int 0) :: (.int 0) :: (.int 0) :: (.int 0) :: (.int 0) :: (.int 0) :: (.int 0) :: (.int 0) :: (.long 0) :: (.int 0) :: (.int 0) :: (.int 0) :: (.null) :: (.null) :: (.null) :: (.null) :: (.null) :: (.null) :: (.null) :: (.null) :: (.null) :: (.null) :: (.int 0) :: (.int 0) :: (.null) :: (.null) :: (.null) :: (.null) :: [])))]) (av := []) (rest := [.ref h1]) C1 hA hw (cc_M l D dA h1) rfl jk_M_init jz_M jl_L_12 ji_M_init ⟨by decide, by decide, show _ = some 0 by decide +kernel⟩ ⟨(Nat.le_of_ble_eq_true rfl), (Nat.le_of_ble_eq_true rfl)⟩ (fun _ _ _ => trivial) (fun _ _ _ _ _ => trivial) hl.1 (Nat.le_of_ble_eq_true rfl) ⟨(Nat.le_of_ble_eq_true rfl), (Nat.le_of_ble_eq_true rfl)⟩ dl_12 (fun w1 H locs hp hw => ?_)
  obtain ⟨qM, hqM, rfl⟩ := hp
  refine lv_astore_n (lv' := [(2, .ref h1), (1, .ref h0), (0, .ref b)]) hx hb dl_15 rfl hl (by decide) rfl (fun ls hl => ?_)
  refine lv_iconst (v := nI 0) hx hb dl_16 (by decide) ?_
  refine lv_istore_n (lv' := [(3, .int (nI 0)), (2, .ref h1), (1, .ref h0), (0, .ref b)]) hx hb dl_17 rfl hl (by decide) rfl (fun ls hl => ?_)
  obtain ⟨hP, hD, hS⟩ := hw
  have hDX := ct_leftD hD
  have hDM := ct_cutD hD
  have sX : ∀ q, gAsX qX q → s.heap.size ≤ q := fun q h => by
    obtain ⟨k, x, h1, h2⟩ := gX_in (dA := dA) h
    rw [← h2]
    exact hDX.2 k x h1
  have sM : ∀ q, gAsM qM q → s.heap.size ≤ q := fun q h => by
    obtain ⟨k, x, h1, h2⟩ := gM_in (dA := dA) h
    rw [← h2]
    exact hDM.2 k x h1
  have dis : ∀ q, gAsX qX q → ¬ gAsM qM q := fun q h h' => by
    obtain ⟨k, x, h1, h2⟩ := gX_in (dA := dA) h
    obtain ⟨k', x', h3, h4⟩ := gM_in (dA := dA) h'
    exact ct_apart hD h1 h3 (by rw [h2, h4])
  subst hqX
  subst hqM
  have C : LawC p s m meth c b L xs (gWX D dA adK adV a61 qX) (gWM D dA adK adV a61 qM) := ⟨C0, hL, ⟨gX_GG hDX, gM_GG hDM⟩, ⟨kk_X hK (hB.narrow sX), kk_M hK (hB.narrow sM)⟩, ⟨sX, sM⟩, ⟨dis, fun q h h' => dis q h' h⟩, ⟨(by decide +kernel : (0, 0) ∈ gPX), (by decide +kernel : (30, 0) ∈ gPM)⟩⟩
  have hPM := ct_cut hP
  rw [wM_eq (D := D) (adK := adK) (adV := adV) (a61 := a61)] at hPM
  exact law_loop ⟨(Nat.le_of_ble_eq_true rfl), (Nat.le_of_ble_eq_true rfl)⟩ C (L + 1) 0 sgX sgM H locs ls (Nat.zero_le _) (by omega) first_R ⟨wX_P (ct_left hP), hPM, hS⟩ hl
