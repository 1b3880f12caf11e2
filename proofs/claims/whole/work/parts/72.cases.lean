/-! the law's cases (printed by wip/gen/law2.py) -/
theorem lj_13 : Cond.methodLink R_law 13 ⟨"CoatsFitTheMood", "set", "(III)I"⟩ ∈ lw_tbl := (List.mem_filter.mp (ab_at_in (k := 357) (by decide +kernel))).1
theorem lj_17 : Cond.methodLink R_law 17 ⟨"CoatsFitTheMoodModel", "set", "(III)I"⟩ ∈ lw_tbl := (List.mem_filter.mp (ab_at_in (k := 1024) (by decide +kernel))).1
theorem lj_18 : Cond.methodLink R_law 18 ⟨"CoatsFitTheMood", "coat", "(III)I"⟩ ∈ lw_tbl := (List.mem_filter.mp (ab_at_in (k := 397) (by decide +kernel))).1
theorem lj_21 : Cond.methodLink R_law 21 ⟨"CoatsFitTheMoodModel", "coat", "(III)I"⟩ ∈ lw_tbl := (List.mem_filter.mp (ab_at_in (k := 1278) (by decide +kernel))).1
theorem lj_22 : Cond.methodLink R_law 22 ⟨"CoatsFitTheMood", "told", "(II)I"⟩ ∈ lw_tbl := (List.mem_filter.mp (ab_at_in (k := 405) (by decide +kernel))).1
theorem lj_26 : Cond.methodLink R_law 26 ⟨"CoatsFitTheMoodModel", "told", "(II)I"⟩ ∈ lw_tbl := (List.mem_filter.mp (ab_at_in (k := 1285) (by decide +kernel))).1
theorem lj_27 : Cond.methodLink R_law 27 ⟨"CoatsFitTheMood", "asks", "(III)I"⟩ ∈ lw_tbl := (List.mem_filter.mp (ab_at_in (k := 464) (by decide +kernel))).1
theorem lj_30 : Cond.methodLink R_law 30 ⟨"CoatsFitTheMoodModel", "asks", "(III)I"⟩ ∈ lw_tbl := (List.mem_filter.mp (ab_at_in (k := 1299) (by decide +kernel))).1
theorem lj_31 : Cond.methodLink R_law 31 ⟨"CoatsFitTheMood", "feed", "(I)I"⟩ ∈ lw_tbl := (List.mem_filter.mp (ab_at_in (k := 486) (by decide +kernel))).1
theorem lj_35 : Cond.methodLink R_law 35 ⟨"CoatsFitTheMoodModel", "feed", "(I)I"⟩ ∈ lw_tbl := (List.mem_filter.mp (ab_at_in (k := 1286) (by decide +kernel))).1
theorem lj_36 : Cond.methodLink R_law 36 ⟨"CoatsFitTheMood", "text", "()I"⟩ ∈ lw_tbl := (List.mem_filter.mp (ab_at_in (k := 494) (by decide +kernel))).1
theorem lj_40 : Cond.methodLink R_law 40 ⟨"CoatsFitTheMoodModel", "text", "()I"⟩ ∈ lw_tbl := (List.mem_filter.mp (ab_at_in (k := 1291) (by decide +kernel))).1
theorem lj_41 : Cond.methodLink R_law 41 ⟨"CoatsFitTheMood", "force", "(I)I"⟩ ∈ lw_tbl := (List.mem_filter.mp (ab_at_in (k := 645) (by decide +kernel))).1
theorem lj_44 : Cond.methodLink R_law 44 ⟨"CoatsFitTheMoodModel", "force", "(I)I"⟩ ∈ lw_tbl := (List.mem_filter.mp (ab_at_in (k := 1295) (by decide +kernel))).1
theorem lj_45 : Cond.methodLink R_law 45 ⟨"CoatsFitTheMood", "push", "(III)I"⟩ ∈ lw_tbl := (List.mem_filter.mp (ab_at_in (k := 649) (by decide +kernel))).1
theorem lj_48 : Cond.methodLink R_law 48 ⟨"CoatsFitTheMoodModel", "push", "(III)I"⟩ ∈ lw_tbl := (List.mem_filter.mp (ab_at_in (k := 1312) (by decide +kernel))).1
theorem lj_49 : Cond.methodLink R_law 49 ⟨"CoatsFitTheMood", "plan", "(III)I"⟩ ∈ lw_tbl := (List.mem_filter.mp (ab_at_in (k := 657) (by decide +kernel))).1
theorem lj_52 : Cond.methodLink R_law 52 ⟨"CoatsFitTheMoodModel", "plan", "(III)I"⟩ ∈ lw_tbl := (List.mem_filter.mp (ab_at_in (k := 1325) (by decide +kernel))).1
theorem lj_53 : Cond.methodLink R_law 53 ⟨"CoatsFitTheMood", "wear", "(II)I"⟩ ∈ lw_tbl := (List.mem_filter.mp (ab_at_in (k := 680) (by decide +kernel))).1
theorem lj_56 : Cond.methodLink R_law 56 ⟨"CoatsFitTheMoodModel", "wear", "(II)I"⟩ ∈ lw_tbl := (List.mem_filter.mp (ab_at_in (k := 1344) (by decide +kernel))).1
theorem lj_57 : Cond.methodLink R_law 57 ⟨"CoatsFitTheMood", "day", "(II)I"⟩ ∈ lw_tbl := (List.mem_filter.mp (ab_at_in (k := 689) (by decide +kernel))).1
theorem lj_60 : Cond.methodLink R_law 60 ⟨"CoatsFitTheMoodModel", "day", "(II)I"⟩ ∈ lw_tbl := (List.mem_filter.mp (ab_at_in (k := 1348) (by decide +kernel))).1
theorem lj_61 : Cond.methodLink R_law 61 ⟨"CoatsFitTheMood", "dress", "(II)I"⟩ ∈ lw_tbl := (List.mem_filter.mp (ab_at_in (k := 746) (by decide +kernel))).1
theorem lj_64 : Cond.methodLink R_law 64 ⟨"CoatsFitTheMoodModel", "dress", "(II)I"⟩ ∈ lw_tbl := (List.mem_filter.mp (ab_at_in (k := 1386) (by decide +kernel))).1
theorem lj_65 : Cond.methodLink R_law 65 ⟨"CoatsFitTheMood", "anew", "(III)I"⟩ ∈ lw_tbl := (List.mem_filter.mp (ab_at_in (k := 760) (by decide +kernel))).1
theorem lj_68 : Cond.methodLink R_law 68 ⟨"CoatsFitTheMoodModel", "anew", "(III)I"⟩ ∈ lw_tbl := (List.mem_filter.mp (ab_at_in (k := 1395) (by decide +kernel))).1
theorem lj_69 : Cond.methodLink R_law 69 ⟨"CoatsFitTheMood", "pushes", "(III)I"⟩ ∈ lw_tbl := (List.mem_filter.mp (ab_at_in (k := 769) (by decide +kernel))).1
theorem lj_72 : Cond.methodLink R_law 72 ⟨"CoatsFitTheMoodModel", "pushes", "(III)I"⟩ ∈ lw_tbl := (List.mem_filter.mp (ab_at_in (k := 1399) (by decide +kernel))).1
theorem lj_73 : Cond.methodLink R_law 73 ⟨"CoatsFitTheMood", "all", "(I)I"⟩ ∈ lw_tbl := (List.mem_filter.mp (ab_at_in (k := 773) (by decide +kernel))).1
theorem lj_76 : Cond.methodLink R_law 76 ⟨"CoatsFitTheMoodModel", "all", "(I)I"⟩ ∈ lw_tbl := (List.mem_filter.mp (ab_at_in (k := 1411) (by decide +kernel))).1
theorem lj_77 : Cond.methodLink R_law 77 ⟨"CoatsFitTheMood", "mean", "(II)J"⟩ ∈ lw_tbl := (List.mem_filter.mp (ab_at_in (k := 792) (by decide +kernel))).1
theorem lj_81 : Cond.methodLink R_law 81 ⟨"CoatsFitTheMoodModel", "mean", "(II)J"⟩ ∈ lw_tbl := (List.mem_filter.mp (ab_at_in (k := 1419) (by decide +kernel))).1
theorem lj_82 : Cond.methodLink R_law 82 ⟨"CoatsFitTheMood", "tells", "(IIII)I"⟩ ∈ lw_tbl := (List.mem_filter.mp (ab_at_in (k := 800) (by decide +kernel))).1
theorem lj_86 : Cond.methodLink R_law 86 ⟨"CoatsFitTheMoodModel", "tells", "(IIII)I"⟩ ∈ lw_tbl := (List.mem_filter.mp (ab_at_in (k := 1428) (by decide +kernel))).1
theorem lj_87 : Cond.methodLink R_law 87 ⟨"CoatsFitTheMood", "film", "(IIII)I"⟩ ∈ lw_tbl := (List.mem_filter.mp (ab_at_in (k := 823) (by decide +kernel))).1
theorem lj_90 : Cond.methodLink R_law 90 ⟨"CoatsFitTheMoodModel", "film", "(IIII)I"⟩ ∈ lw_tbl := (List.mem_filter.mp (ab_at_in (k := 1441) (by decide +kernel))).1
theorem lj_91 : Cond.methodLink R_law 91 ⟨"CoatsFitTheMood", "drawn", "(II)I"⟩ ∈ lw_tbl := (List.mem_filter.mp (ab_at_in (k := 827) (by decide +kernel))).1
theorem lj_94 : Cond.methodLink R_law 94 ⟨"CoatsFitTheMoodModel", "drawn", "(II)I"⟩ ∈ lw_tbl := (List.mem_filter.mp (ab_at_in (k := 1446) (by decide +kernel))).1
theorem lj_95 : Cond.methodLink R_law 95 ⟨"CoatsFitTheMood", "chance", "(IIIII)J"⟩ ∈ lw_tbl := (List.mem_filter.mp (ab_at_in (k := 836) (by decide +kernel))).1
theorem lj_99 : Cond.methodLink R_law 99 ⟨"CoatsFitTheMoodModel", "chance", "(IIIII)J"⟩ ∈ lw_tbl := (List.mem_filter.mp (ab_at_in (k := 1455) (by decide +kernel))).1
theorem lj_100 : Cond.methodLink R_law 100 ⟨"CoatsFitTheMood", "image", "()I"⟩ ∈ lw_tbl := (List.mem_filter.mp (ab_at_in (k := 840) (by decide +kernel))).1
theorem lj_103 : Cond.methodLink R_law 103 ⟨"CoatsFitTheMoodModel", "image", "()I"⟩ ∈ lw_tbl := (List.mem_filter.mp (ab_at_in (k := 1460) (by decide +kernel))).1
theorem lj_104 : Cond.methodLink R_law 104 ⟨"CoatsFitTheMood", "back", "()I"⟩ ∈ lw_tbl := (List.mem_filter.mp (ab_at_in (k := 847) (by decide +kernel))).1
theorem lj_107 : Cond.methodLink R_law 107 ⟨"CoatsFitTheMoodModel", "back", "()I"⟩ ∈ lw_tbl := (List.mem_filter.mp (ab_at_in (k := 1464) (by decide +kernel))).1
theorem lj_108 : Cond.methodLink R_law 108 ⟨"CoatsFitTheMood", "count", "(I)I"⟩ ∈ lw_tbl := (List.mem_filter.mp (ab_at_in (k := 851) (by decide +kernel))).1
theorem lj_111 : Cond.methodLink R_law 111 ⟨"CoatsFitTheMoodModel", "count", "(I)I"⟩ ∈ lw_tbl := (List.mem_filter.mp (ab_at_in (k := 1468) (by decide +kernel))).1
theorem lj_112 : Cond.methodLink R_law 112 ⟨"CoatsFitTheMood", "sheet", "(III)I"⟩ ∈ lw_tbl := (List.mem_filter.mp (ab_at_in (k := 859) (by decide +kernel))).1
theorem lj_115 : Cond.methodLink R_law 115 ⟨"CoatsFitTheMoodModel", "sheet", "(III)I"⟩ ∈ lw_tbl := (List.mem_filter.mp (ab_at_in (k := 1472) (by decide +kernel))).1
theorem lj_116 : Cond.methodLink R_law 116 ⟨"CoatsFitTheMood", "cell", "(III)I"⟩ ∈ lw_tbl := (List.mem_filter.mp (ab_at_in (k := 863) (by decide +kernel))).1
theorem lj_119 : Cond.methodLink R_law 119 ⟨"CoatsFitTheMoodModel", "cell", "(III)I"⟩ ∈ lw_tbl := (List.mem_filter.mp (ab_at_in (k := 1473) (by decide +kernel))).1
theorem lj_120 : Cond.methodLink R_law 120 ⟨"CoatsFitTheMood", "copy", "(IIIII)I"⟩ ∈ lw_tbl := (List.mem_filter.mp (ab_at_in (k := 867) (by decide +kernel))).1
theorem lj_124 : Cond.methodLink R_law 124 ⟨"CoatsFitTheMoodModel", "copy", "(IIIII)I"⟩ ∈ lw_tbl := (List.mem_filter.mp (ab_at_in (k := 1477) (by decide +kernel))).1
theorem lj_125 : Cond.methodLink R_law 125 ⟨"CoatsFitTheMood", "coats", "(IIII)I"⟩ ∈ lw_tbl := (List.mem_filter.mp (ab_at_in (k := 872) (by decide +kernel))).1
theorem lj_128 : Cond.methodLink R_law 128 ⟨"CoatsFitTheMoodModel", "coats", "(IIII)I"⟩ ∈ lw_tbl := (List.mem_filter.mp (ab_at_in (k := 1481) (by decide +kernel))).1
theorem lj_129 : Cond.methodLink R_law 129 ⟨"CoatsFitTheMood", "taken", "(II)I"⟩ ∈ lw_tbl := (List.mem_filter.mp (ab_at_in (k := 877) (by decide +kernel))).1
theorem lj_132 : Cond.methodLink R_law 132 ⟨"CoatsFitTheMoodModel", "taken", "(II)I"⟩ ∈ lw_tbl := (List.mem_filter.mp (ab_at_in (k := 1486) (by decide +kernel))).1
theorem lcase_0 {p : Program} {l : Launch} {e : Env} {s : State} {m : MethodId} {below : List Frame} {meth : Method} {c : Code} {H : Heap} {locs : List Loc} {cells slots b L i : Nat} {Q : State → Prop} {ls : Array Slot} {xs : Nat → Int32} {GX GM : ab_Gt} {σ τ : Sg} (hcs : cells ≤ 600000 ∧ slots ≤ 7302250) (C : LawC p s m meth c b L xs GX GM) (hi : i + 6 ≤ L) (hR : Rel σ τ) (hw : LawW s GX GM σ τ H locs) (hl : lv_has ls 4 [(3, .int (nI i)), (2, .ref (gad GM 30 0)), (1, .ref (gad GX 0 0)), (0, .ref b)])
    (K : ∀ (σ' τ' : Sg) (H : Heap) (locs : List Loc), Rel σ' τ' → LawW s GX GM σ' τ' H locs → W p l e room_1 s m #[Value.ref b] below meth c H locs cells slots Q (F0 m 1196 ls [])) : W p l e room_1 s m #[Value.ref b] below meth c H locs cells slots Q (F0 m 160 ls []) := by
  obtain ⟨⟨hx, hb, hr, hml, hown, hts, hX, hbl, hlocks, hgv⟩, hL, ⟨hGX, hGM⟩, ⟨hKX, hKM⟩, ⟨sX, sM⟩, ⟨dXM, dMX⟩, ⟨mX, mM⟩⟩ := C
  obtain ⟨hP, hP2, hS⟩ := hw
  obtain ⟨r, σ', τ', eX, eM, hR'⟩ := q_set hR (xs (i + 1)) (xs (i + 2)) (xs (i + 3))
  refine lv_aload_n hx hb dl_160 rfl (lv_at hl 2 rfl) ?_
  refine law_arg (k := 1) hx hb hX hbl hS hL hi (by decide) (lv_at hl 3 rfl) (lv_at hl 0 rfl) dl_161 dl_162 (kv := 1) (by decide) dl_163 dl_164 dl_165 ?_
  refine law_arg (k := 2) hx hb hX hbl hS hL hi (by decide) (lv_at hl 3 rfl) (lv_at hl 0 rfl) dl_166 dl_167 (kv := 2) (by decide) dl_168 dl_169 dl_170 ?_
  refine law_arg (k := 3) hx hb hX hbl hS hL hi (by decide) (lv_at hl 3 rfl) (lv_at hl 0 rfl) dl_171 dl_172 (kv := 3) (by decide) dl_173 dl_174 dl_175 ?_
  refine law_run (G := GX) (G2 := GM) (σ := σ) (τ := τ) (σ1 := σ') (r0 := vI r) (id := 0) (d := 4) (g0 := 0) (as := [vI (xs (i + 1)), vI (xs (i + 2)), vI (xs (i + 3))]) (rest := []) hx hb hml hown hts hGX hGM hKX sX dMX (by decide) rfl (lk_X_set hGX eX) mX (okc trivial (okc trivial (okc trivial (fun _ h => absurd h List.not_mem_nil)))) ⟨rfl, rfl⟩ lj_13 (show _ = some 3 by decide +kernel) (by omega) hP hP2 hS hl.1 (Nat.le_of_ble_eq_true rfl) hcs dl_176 (fun H locs hP hP2 hS => ?_)
  refine W.eq (g2 := F0 m 179 ls [.int r]) rfl ?_
  refine lv_aload_n hx hb dl_179 rfl (lv_at hl 1 rfl) ?_
  refine law_arg (k := 1) hx hb hX hbl hS hL hi (by decide) (lv_at hl 3 rfl) (lv_at hl 0 rfl) dl_180 dl_181 (kv := 1) (by decide) dl_182 dl_183 dl_184 ?_
  refine law_arg (k := 2) hx hb hX hbl hS hL hi (by decide) (lv_at hl 3 rfl) (lv_at hl 0 rfl) dl_185 dl_186 (kv := 2) (by decide) dl_187 dl_188 dl_189 ?_
  refine law_arg (k := 3) hx hb hX hbl hS hL hi (by decide) (lv_at hl 3 rfl) (lv_at hl 0 rfl) dl_190 dl_191 (kv := 3) (by decide) dl_192 dl_193 dl_194 ?_
  refine law_run (G := GM) (G2 := GX) (σ := τ) (τ := σ') (σ1 := τ') (r0 := vI r) (id := 73) (d := 48) (g0 := 30) (as := [vI (xs (i + 1)), vI (xs (i + 2)), vI (xs (i + 3))]) (rest := [.int r]) hx hb hml hown hts hGM hGX hKM sM dXM (by decide) rfl (lk_M_set hGM eM) mM (okc trivial (okc trivial (okc trivial (fun _ h => absurd h List.not_mem_nil)))) ⟨rfl, rfl⟩ lj_17 (show _ = some 3 by decide +kernel) (by omega) hP2 hP hS hl.1 (Nat.le_of_ble_eq_true rfl) hcs dl_195 (fun H locs hP2 hP hS => ?_)
  refine W.eq (g2 := F0 m 198 ls [.int r, .int r]) rfl ?_
  exact lv_icmp_eq (tgt := 1196) hx hb dl_198 (by decide) (fun _ => K σ' τ' H locs hR' ⟨hP, hP2, hS⟩) (fun q => absurd rfl q)
theorem lcase_1 {p : Program} {l : Launch} {e : Env} {s : State} {m : MethodId} {below : List Frame} {meth : Method} {c : Code} {H : Heap} {locs : List Loc} {cells slots b L i : Nat} {Q : State → Prop} {ls : Array Slot} {xs : Nat → Int32} {GX GM : ab_Gt} {σ τ : Sg} (hcs : cells ≤ 600000 ∧ slots ≤ 7302250) (C : LawC p s m meth c b L xs GX GM) (hi : i + 6 ≤ L) (hR : Rel σ τ) (hw : LawW s GX GM σ τ H locs) (hl : lv_has ls 4 [(3, .int (nI i)), (2, .ref (gad GM 30 0)), (1, .ref (gad GX 0 0)), (0, .ref b)])
    (K : ∀ (σ' τ' : Sg) (H : Heap) (locs : List Loc), Rel σ' τ' → LawW s GX GM σ' τ' H locs → W p l e room_1 s m #[Value.ref b] below meth c H locs cells slots Q (F0 m 1196 ls [])) : W p l e room_1 s m #[Value.ref b] below meth c H locs cells slots Q (F0 m 203 ls []) := by
  obtain ⟨⟨hx, hb, hr, hml, hown, hts, hX, hbl, hlocks, hgv⟩, hL, ⟨hGX, hGM⟩, ⟨hKX, hKM⟩, ⟨sX, sM⟩, ⟨dXM, dMX⟩, ⟨mX, mM⟩⟩ := C
  obtain ⟨hP, hP2, hS⟩ := hw
  obtain ⟨r, σ', τ', eX, eM, hR'⟩ := q_coat hR (xs (i + 1)) (xs (i + 2)) (xs (i + 3))
  refine lv_aload_n hx hb dl_203 rfl (lv_at hl 2 rfl) ?_
  refine law_arg (k := 1) hx hb hX hbl hS hL hi (by decide) (lv_at hl 3 rfl) (lv_at hl 0 rfl) dl_204 dl_205 (kv := 1) (by decide) dl_206 dl_207 dl_208 ?_
  refine law_arg (k := 2) hx hb hX hbl hS hL hi (by decide) (lv_at hl 3 rfl) (lv_at hl 0 rfl) dl_209 dl_210 (kv := 2) (by decide) dl_211 dl_212 dl_213 ?_
  refine law_arg (k := 3) hx hb hX hbl hS hL hi (by decide) (lv_at hl 3 rfl) (lv_at hl 0 rfl) dl_214 dl_215 (kv := 3) (by decide) dl_216 dl_217 dl_218 ?_
  refine law_run (G := GX) (G2 := GM) (σ := σ) (τ := τ) (σ1 := σ') (r0 := vI r) (id := 2) (d := 2) (g0 := 0) (as := [vI (xs (i + 1)), vI (xs (i + 2)), vI (xs (i + 3))]) (rest := []) hx hb hml hown hts hGX hGM hKX sX dMX (by decide) rfl (lk_X_coat hGX eX) mX (okc trivial (okc trivial (okc trivial (fun _ h => absurd h List.not_mem_nil)))) ⟨rfl, rfl⟩ lj_18 (show _ = some 3 by decide +kernel) (by omega) hP hP2 hS hl.1 (Nat.le_of_ble_eq_true rfl) hcs dl_219 (fun H locs hP hP2 hS => ?_)
  refine W.eq (g2 := F0 m 222 ls [.int r]) rfl ?_
  refine lv_aload_n hx hb dl_222 rfl (lv_at hl 1 rfl) ?_
  refine law_arg (k := 1) hx hb hX hbl hS hL hi (by decide) (lv_at hl 3 rfl) (lv_at hl 0 rfl) dl_223 dl_224 (kv := 1) (by decide) dl_225 dl_226 dl_227 ?_
  refine law_arg (k := 2) hx hb hX hbl hS hL hi (by decide) (lv_at hl 3 rfl) (lv_at hl 0 rfl) dl_228 dl_229 (kv := 2) (by decide) dl_230 dl_231 dl_232 ?_
  refine law_arg (k := 3) hx hb hX hbl hS hL hi (by decide) (lv_at hl 3 rfl) (lv_at hl 0 rfl) dl_233 dl_234 (kv := 3) (by decide) dl_235 dl_236 dl_237 ?_
  refine law_run (G := GM) (G2 := GX) (σ := τ) (τ := σ') (σ1 := τ') (r0 := vI r) (id := 75) (d := 2) (g0 := 30) (as := [vI (xs (i + 1)), vI (xs (i + 2)), vI (xs (i + 3))]) (rest := [.int r]) hx hb hml hown hts hGM hGX hKM sM dXM (by decide) rfl (lk_M_coat hGM eM) mM (okc trivial (okc trivial (okc trivial (fun _ h => absurd h List.not_mem_nil)))) ⟨rfl, rfl⟩ lj_21 (show _ = some 3 by decide +kernel) (by omega) hP2 hP hS hl.1 (Nat.le_of_ble_eq_true rfl) hcs dl_238 (fun H locs hP2 hP hS => ?_)
  refine W.eq (g2 := F0 m 241 ls [.int r, .int r]) rfl ?_
  exact lv_icmp_eq (tgt := 1196) hx hb dl_241 (by decide) (fun _ => K σ' τ' H locs hR' ⟨hP, hP2, hS⟩) (fun q => absurd rfl q)
theorem lcase_2 {p : Program} {l : Launch} {e : Env} {s : State} {m : MethodId} {below : List Frame} {meth : Method} {c : Code} {H : Heap} {locs : List Loc} {cells slots b L i : Nat} {Q : State → Prop} {ls : Array Slot} {xs : Nat → Int32} {GX GM : ab_Gt} {σ τ : Sg} (hcs : cells ≤ 600000 ∧ slots ≤ 7302250) (C : LawC p s m meth c b L xs GX GM) (hi : i + 6 ≤ L) (hR : Rel σ τ) (hw : LawW s GX GM σ τ H locs) (hl : lv_has ls 4 [(3, .int (nI i)), (2, .ref (gad GM 30 0)), (1, .ref (gad GX 0 0)), (0, .ref b)])
    (K : ∀ (σ' τ' : Sg) (H : Heap) (locs : List Loc), Rel σ' τ' → LawW s GX GM σ' τ' H locs → W p l e room_1 s m #[Value.ref b] below meth c H locs cells slots Q (F0 m 1196 ls [])) : W p l e room_1 s m #[Value.ref b] below meth c H locs cells slots Q (F0 m 246 ls []) := by
  obtain ⟨⟨hx, hb, hr, hml, hown, hts, hX, hbl, hlocks, hgv⟩, hL, ⟨hGX, hGM⟩, ⟨hKX, hKM⟩, ⟨sX, sM⟩, ⟨dXM, dMX⟩, ⟨mX, mM⟩⟩ := C
  obtain ⟨hP, hP2, hS⟩ := hw
  obtain ⟨r, σ', τ', eX, eM, hR'⟩ := q_told hR (xs (i + 1)) (xs (i + 2))
  refine lv_aload_n hx hb dl_246 rfl (lv_at hl 2 rfl) ?_
  refine law_arg (k := 1) hx hb hX hbl hS hL hi (by decide) (lv_at hl 3 rfl) (lv_at hl 0 rfl) dl_247 dl_248 (kv := 1) (by decide) dl_249 dl_250 dl_251 ?_
  refine law_arg (k := 2) hx hb hX hbl hS hL hi (by decide) (lv_at hl 3 rfl) (lv_at hl 0 rfl) dl_252 dl_253 (kv := 2) (by decide) dl_254 dl_255 dl_256 ?_
  refine law_run (G := GX) (G2 := GM) (σ := σ) (τ := τ) (σ1 := σ') (r0 := vI r) (id := 3) (d := 7) (g0 := 0) (as := [vI (xs (i + 1)), vI (xs (i + 2))]) (rest := []) hx hb hml hown hts hGX hGM hKX sX dMX (by decide) rfl (lk_X_told hGX eX) mX (okc trivial (okc trivial (fun _ h => absurd h List.not_mem_nil))) ⟨rfl, rfl⟩ lj_22 (show _ = some 2 by decide +kernel) (by omega) hP hP2 hS hl.1 (Nat.le_of_ble_eq_true rfl) hcs dl_257 (fun H locs hP hP2 hS => ?_)
  refine W.eq (g2 := F0 m 260 ls [.int r]) rfl ?_
  refine lv_aload_n hx hb dl_260 rfl (lv_at hl 1 rfl) ?_
  refine law_arg (k := 1) hx hb hX hbl hS hL hi (by decide) (lv_at hl 3 rfl) (lv_at hl 0 rfl) dl_261 dl_262 (kv := 1) (by decide) dl_263 dl_264 dl_265 ?_
  refine law_arg (k := 2) hx hb hX hbl hS hL hi (by decide) (lv_at hl 3 rfl) (lv_at hl 0 rfl) dl_266 dl_267 (kv := 2) (by decide) dl_268 dl_269 dl_270 ?_
  refine law_run (G := GM) (G2 := GX) (σ := τ) (τ := σ') (σ1 := τ') (r0 := vI r) (id := 76) (d := 47) (g0 := 30) (as := [vI (xs (i + 1)), vI (xs (i + 2))]) (rest := [.int r]) hx hb hml hown hts hGM hGX hKM sM dXM (by decide) rfl (lk_M_told hGM eM) mM (okc trivial (okc trivial (fun _ h => absurd h List.not_mem_nil))) ⟨rfl, rfl⟩ lj_26 (show _ = some 2 by decide +kernel) (by omega) hP2 hP hS hl.1 (Nat.le_of_ble_eq_true rfl) hcs dl_271 (fun H locs hP2 hP hS => ?_)
  refine W.eq (g2 := F0 m 274 ls [.int r, .int r]) rfl ?_
  exact lv_icmp_eq (tgt := 1196) hx hb dl_274 (by decide) (fun _ => K σ' τ' H locs hR' ⟨hP, hP2, hS⟩) (fun q => absurd rfl q)
theorem lcase_3 {p : Program} {l : Launch} {e : Env} {s : State} {m : MethodId} {below : List Frame} {meth : Method} {c : Code} {H : Heap} {locs : List Loc} {cells slots b L i : Nat} {Q : State → Prop} {ls : Array Slot} {xs : Nat → Int32} {GX GM : ab_Gt} {σ τ : Sg} (hcs : cells ≤ 600000 ∧ slots ≤ 7302250) (C : LawC p s m meth c b L xs GX GM) (hi : i + 6 ≤ L) (hR : Rel σ τ) (hw : LawW s GX GM σ τ H locs) (hl : lv_has ls 4 [(3, .int (nI i)), (2, .ref (gad GM 30 0)), (1, .ref (gad GX 0 0)), (0, .ref b)])
    (K : ∀ (σ' τ' : Sg) (H : Heap) (locs : List Loc), Rel σ' τ' → LawW s GX GM σ' τ' H locs → W p l e room_1 s m #[Value.ref b] below meth c H locs cells slots Q (F0 m 1196 ls [])) : W p l e room_1 s m #[Value.ref b] below meth c H locs cells slots Q (F0 m 279 ls []) := by
  obtain ⟨⟨hx, hb, hr, hml, hown, hts, hX, hbl, hlocks, hgv⟩, hL, ⟨hGX, hGM⟩, ⟨hKX, hKM⟩, ⟨sX, sM⟩, ⟨dXM, dMX⟩, ⟨mX, mM⟩⟩ := C
  obtain ⟨hP, hP2, hS⟩ := hw
  obtain ⟨r, σ', τ', eX, eM, hR'⟩ := q_asks hR (xs (i + 1)) (xs (i + 2)) (xs (i + 3))
  refine lv_aload_n hx hb dl_279 rfl (lv_at hl 2 rfl) ?_
  refine law_arg (k := 1) hx hb hX hbl hS hL hi (by decide) (lv_at hl 3 rfl) (lv_at hl 0 rfl) dl_280 dl_281 (kv := 1) (by decide) dl_282 dl_283 dl_284 ?_
  refine law_arg (k := 2) hx hb hX hbl hS hL hi (by decide) (lv_at hl 3 rfl) (lv_at hl 0 rfl) dl_285 dl_286 (kv := 2) (by decide) dl_287 dl_288 dl_289 ?_
  refine law_arg (k := 3) hx hb hX hbl hS hL hi (by decide) (lv_at hl 3 rfl) (lv_at hl 0 rfl) dl_290 dl_291 (kv := 3) (by decide) dl_292 dl_293 dl_294 ?_
  refine law_run (G := GX) (G2 := GM) (σ := σ) (τ := τ) (σ1 := σ') (r0 := vI r) (id := 4) (d := 5) (g0 := 0) (as := [vI (xs (i + 1)), vI (xs (i + 2)), vI (xs (i + 3))]) (rest := []) hx hb hml hown hts hGX hGM hKX sX dMX (by decide) rfl (lk_X_asks hGX eX) mX (okc trivial (okc trivial (okc trivial (fun _ h => absurd h List.not_mem_nil)))) ⟨rfl, rfl⟩ lj_27 (show _ = some 3 by decide +kernel) (by omega) hP hP2 hS hl.1 (Nat.le_of_ble_eq_true rfl) hcs dl_295 (fun H locs hP hP2 hS => ?_)
  refine W.eq (g2 := F0 m 298 ls [.int r]) rfl ?_
  refine lv_aload_n hx hb dl_298 rfl (lv_at hl 1 rfl) ?_
  refine law_arg (k := 1) hx hb hX hbl hS hL hi (by decide) (lv_at hl 3 rfl) (lv_at hl 0 rfl) dl_299 dl_300 (kv := 1) (by decide) dl_301 dl_302 dl_303 ?_
  refine law_arg (k := 2) hx hb hX hbl hS hL hi (by decide) (lv_at hl 3 rfl) (lv_at hl 0 rfl) dl_304 dl_305 (kv := 2) (by decide) dl_306 dl_307 dl_308 ?_
  refine law_arg (k := 3) hx hb hX hbl hS hL hi (by decide) (lv_at hl 3 rfl) (lv_at hl 0 rfl) dl_309 dl_310 (kv := 3) (by decide) dl_311 dl_312 dl_313 ?_
  refine law_run (G := GM) (G2 := GX) (σ := τ) (τ := σ') (σ1 := τ') (r0 := vI r) (id := 131) (d := 45) (g0 := 30) (as := [vI (xs (i + 1)), vI (xs (i + 2)), vI (xs (i + 3))]) (rest := [.int r]) hx hb hml hown hts hGM hGX hKM sM dXM (by decide) rfl (lk_M_asks hGM eM) mM (okc trivial (okc trivial (okc trivial (fun _ h => absurd h List.not_mem_nil)))) ⟨rfl, rfl⟩ lj_30 (show _ = some 3 by decide +kernel) (by omega) hP2 hP hS hl.1 (Nat.le_of_ble_eq_true rfl) hcs dl_314 (fun H locs hP2 hP hS => ?_)
  refine W.eq (g2 := F0 m 317 ls [.int r, .int r]) rfl ?_
  exact lv_icmp_eq (tgt := 1196) hx hb dl_317 (by decide) (fun _ => K σ' τ' H locs hR' ⟨hP, hP2, hS⟩) (fun q => absurd rfl q)
theorem lcase_4 {p : Program} {l : Launch} {e : Env} {s : State} {m : MethodId} {below : List Frame} {meth : Method} {c : Code} {H : Heap} {locs : List Loc} {cells slots b L i : Nat} {Q : State → Prop} {ls : Array Slot} {xs : Nat → Int32} {GX GM : ab_Gt} {σ τ : Sg} (hcs : cells ≤ 600000 ∧ slots ≤ 7302250) (C : LawC p s m meth c b L xs GX GM) (hi : i + 6 ≤ L) (hR : Rel σ τ) (hw : LawW s GX GM σ τ H locs) (hl : lv_has ls 4 [(3, .int (nI i)), (2, .ref (gad GM 30 0)), (1, .ref (gad GX 0 0)), (0, .ref b)])
    (K : ∀ (σ' τ' : Sg) (H : Heap) (locs : List Loc), Rel σ' τ' → LawW s GX GM σ' τ' H locs → W p l e room_1 s m #[Value.ref b] below meth c H locs cells slots Q (F0 m 1196 ls [])) : W p l e room_1 s m #[Value.ref b] below meth c H locs cells slots Q (F0 m 322 ls []) := by
  obtain ⟨⟨hx, hb, hr, hml, hown, hts, hX, hbl, hlocks, hgv⟩, hL, ⟨hGX, hGM⟩, ⟨hKX, hKM⟩, ⟨sX, sM⟩, ⟨dXM, dMX⟩, ⟨mX, mM⟩⟩ := C
  obtain ⟨hP, hP2, hS⟩ := hw
  obtain ⟨r, σ', τ', eX, eM, hR'⟩ := q_feed hR (xs (i + 1))
  refine lv_aload_n hx hb dl_322 rfl (lv_at hl 2 rfl) ?_
  refine law_arg (k := 1) hx hb hX hbl hS hL hi (by decide) (lv_at hl 3 rfl) (lv_at hl 0 rfl) dl_323 dl_324 (kv := 1) (by decide) dl_325 dl_326 dl_327 ?_
  refine law_run (G := GX) (G2 := GM) (σ := σ) (τ := τ) (σ1 := σ') (r0 := vI r) (id := 5) (d := 2) (g0 := 0) (as := [vI (xs (i + 1))]) (rest := []) hx hb hml hown hts hGX hGM hKX sX dMX (by decide) rfl (lk_X_feed hGX eX) mX (okc trivial (fun _ h => absurd h List.not_mem_nil)) ⟨rfl, rfl⟩ lj_31 (show _ = some 1 by decide +kernel) (by omega) hP hP2 hS hl.1 (Nat.le_of_ble_eq_true rfl) hcs dl_328 (fun H locs hP hP2 hS => ?_)
  refine W.eq (g2 := F0 m 331 ls [.int r]) rfl ?_
  refine lv_aload_n hx hb dl_331 rfl (lv_at hl 1 rfl) ?_
  refine law_arg (k := 1) hx hb hX hbl hS hL hi (by decide) (lv_at hl 3 rfl) (lv_at hl 0 rfl) dl_332 dl_333 (kv := 1) (by decide) dl_334 dl_335 dl_336 ?_
  refine law_run (G := GM) (G2 := GX) (σ := τ) (τ := σ') (σ1 := τ') (r0 := vI r) (id := 77) (d := 2) (g0 := 30) (as := [vI (xs (i + 1))]) (rest := [.int r]) hx hb hml hown hts hGM hGX hKM sM dXM (by decide) rfl (lk_M_feed hGM eM) mM (okc trivial (fun _ h => absurd h List.not_mem_nil)) ⟨rfl, rfl⟩ lj_35 (show _ = some 1 by decide +kernel) (by omega) hP2 hP hS hl.1 (Nat.le_of_ble_eq_true rfl) hcs dl_337 (fun H locs hP2 hP hS => ?_)
  refine W.eq (g2 := F0 m 340 ls [.int r, .int r]) rfl ?_
  exact lv_icmp_eq (tgt := 1196) hx hb dl_340 (by decide) (fun _ => K σ' τ' H locs hR' ⟨hP, hP2, hS⟩) (fun q => absurd rfl q)
theorem lcase_5 {p : Program} {l : Launch} {e : Env} {s : State} {m : MethodId} {below : List Frame} {meth : Method} {c : Code} {H : Heap} {locs : List Loc} {cells slots b L i : Nat} {Q : State → Prop} {ls : Array Slot} {xs : Nat → Int32} {GX GM : ab_Gt} {σ τ : Sg} (hcs : cells ≤ 600000 ∧ slots ≤ 7302250) (C : LawC p s m meth c b L xs GX GM) (hi : i + 6 ≤ L) (hR : Rel σ τ) (hw : LawW s GX GM σ τ H locs) (hl : lv_has ls 4 [(3, .int (nI i)), (2, .ref (gad GM 30 0)), (1, .ref (gad GX 0 0)), (0, .ref b)])
    (K : ∀ (σ' τ' : Sg) (H : Heap) (locs : List Loc), Rel σ' τ' → LawW s GX GM σ' τ' H locs → W p l e room_1 s m #[Value.ref b] below meth c H locs cells slots Q (F0 m 1196 ls [])) : W p l e room_1 s m #[Value.ref b] below meth c H locs cells slots Q (F0 m 345 ls []) := by
  obtain ⟨⟨hx, hb, hr, hml, hown, hts, hX, hbl, hlocks, hgv⟩, hL, ⟨hGX, hGM⟩, ⟨hKX, hKM⟩, ⟨sX, sM⟩, ⟨dXM, dMX⟩, ⟨mX, mM⟩⟩ := C
  obtain ⟨hP, hP2, hS⟩ := hw
  obtain ⟨r, σ', τ', eX, eM, hR'⟩ := q_text hR
  refine lv_aload_n hx hb dl_345 rfl (lv_at hl 2 rfl) ?_
  refine law_run (G := GX) (G2 := GM) (σ := σ) (τ := τ) (σ1 := σ') (r0 := vI r) (id := 6) (d := 134) (g0 := 0) (as := []) (rest := []) hx hb hml hown hts hGX hGM hKX sX dMX (by decide) rfl (lk_X_text hGX eX) mX (fun _ h => absurd h List.not_mem_nil) ⟨rfl, rfl⟩ lj_36 (show _ = some 0 by decide +kernel) (by omega) hP hP2 hS hl.1 (Nat.le_of_ble_eq_true rfl) hcs dl_346 (fun H locs hP hP2 hS => ?_)
  refine W.eq (g2 := F0 m 349 ls [.int r]) rfl ?_
  refine lv_aload_n hx hb dl_349 rfl (lv_at hl 1 rfl) ?_
  refine law_run (G := GM) (G2 := GX) (σ := τ) (τ := σ') (σ1 := τ') (r0 := vI r) (id := 124) (d := 43) (g0 := 30) (as := []) (rest := [.int r]) hx hb hml hown hts hGM hGX hKM sM dXM (by decide) rfl (lk_M_text hGM eM) mM (fun _ h => absurd h List.not_mem_nil) ⟨rfl, rfl⟩ lj_40 (show _ = some 0 by decide +kernel) (by omega) hP2 hP hS hl.1 (Nat.le_of_ble_eq_true rfl) hcs dl_350 (fun H locs hP2 hP hS => ?_)
  refine W.eq (g2 := F0 m 353 ls [.int r, .int r]) rfl ?_
  exact lv_icmp_eq (tgt := 1196) hx hb dl_353 (by decide) (fun _ => K σ' τ' H locs hR' ⟨hP, hP2, hS⟩) (fun q => absurd rfl q)
theorem lcase_6 {p : Program} {l : Launch} {e : Env} {s : State} {m : MethodId} {below : List Frame} {meth : Method} {c : Code} {H : Heap} {locs : List Loc} {cells slots b L i : Nat} {Q : State → Prop} {ls : Array Slot} {xs : Nat → Int32} {GX GM : ab_Gt} {σ τ : Sg} (hcs : cells ≤ 600000 ∧ slots ≤ 7302250) (C : LawC p s m meth c b L xs GX GM) (hi : i + 6 ≤ L) (hR : Rel σ τ) (hw : LawW s GX GM σ τ H locs) (hl : lv_has ls 4 [(3, .int (nI i)), (2, .ref (gad GM 30 0)), (1, .ref (gad GX 0 0)), (0, .ref b)])
    (K : ∀ (σ' τ' : Sg) (H : Heap) (locs : List Loc), Rel σ' τ' → LawW s GX GM σ' τ' H locs → W p l e room_1 s m #[Value.ref b] below meth c H locs cells slots Q (F0 m 1196 ls [])) : W p l e room_1 s m #[Value.ref b] below meth c H locs cells slots Q (F0 m 358 ls []) := by
  obtain ⟨⟨hx, hb, hr, hml, hown, hts, hX, hbl, hlocks, hgv⟩, hL, ⟨hGX, hGM⟩, ⟨hKX, hKM⟩, ⟨sX, sM⟩, ⟨dXM, dMX⟩, ⟨mX, mM⟩⟩ := C
  obtain ⟨hP, hP2, hS⟩ := hw
  obtain ⟨r, σ', τ', eX, eM, hR'⟩ := q_force hR (xs (i + 1))
  refine lv_aload_n hx hb dl_358 rfl (lv_at hl 2 rfl) ?_
  refine law_arg (k := 1) hx hb hX hbl hS hL hi (by decide) (lv_at hl 3 rfl) (lv_at hl 0 rfl) dl_359 dl_360 (kv := 1) (by decide) dl_361 dl_362 dl_363 ?_
  refine law_run (G := GX) (G2 := GM) (σ := σ) (τ := τ) (σ1 := σ') (r0 := vI r) (id := 7) (d := 1) (g0 := 0) (as := [vI (xs (i + 1))]) (rest := []) hx hb hml hown hts hGX hGM hKX sX dMX (by decide) rfl (lk_X_force hGX eX) mX (okc trivial (fun _ h => absurd h List.not_mem_nil)) ⟨rfl, rfl⟩ lj_41 (show _ = some 1 by decide +kernel) (by omega) hP hP2 hS hl.1 (Nat.le_of_ble_eq_true rfl) hcs dl_364 (fun H locs hP hP2 hS => ?_)
  refine W.eq (g2 := F0 m 367 ls [.int r]) rfl ?_
  refine lv_aload_n hx hb dl_367 rfl (lv_at hl 1 rfl) ?_
  refine law_arg (k := 1) hx hb hX hbl hS hL hi (by decide) (lv_at hl 3 rfl) (lv_at hl 0 rfl) dl_368 dl_369 (kv := 1) (by decide) dl_370 dl_371 dl_372 ?_
  refine law_run (G := GM) (G2 := GX) (σ := τ) (τ := σ') (σ1 := τ') (r0 := vI r) (id := 125) (d := 2) (g0 := 30) (as := [vI (xs (i + 1))]) (rest := [.int r]) hx hb hml hown hts hGM hGX hKM sM dXM (by decide) rfl (lk_M_force hGM eM) mM (okc trivial (fun _ h => absurd h List.not_mem_nil)) ⟨rfl, rfl⟩ lj_44 (show _ = some 1 by decide +kernel) (by omega) hP2 hP hS hl.1 (Nat.le_of_ble_eq_true rfl) hcs dl_373 (fun H locs hP2 hP hS => ?_)
  refine W.eq (g2 := F0 m 376 ls [.int r, .int r]) rfl ?_
  exact lv_icmp_eq (tgt := 1196) hx hb dl_376 (by decide) (fun _ => K σ' τ' H locs hR' ⟨hP, hP2, hS⟩) (fun q => absurd rfl q)
theorem lcase_7 {p : Program} {l : Launch} {e : Env} {s : State} {m : MethodId} {below : List Frame} {meth : Method} {c : Code} {H : Heap} {locs : List Loc} {cells slots b L i : Nat} {Q : State → Prop} {ls : Array Slot} {xs : Nat → Int32} {GX GM : ab_Gt} {σ τ : Sg} (hcs : cells ≤ 600000 ∧ slots ≤ 7302250) (C : LawC p s m meth c b L xs GX GM) (hi : i + 6 ≤ L) (hR : Rel σ τ) (hw : LawW s GX GM σ τ H locs) (hl : lv_has ls 4 [(3, .int (nI i)), (2, .ref (gad GM 30 0)), (1, .ref (gad GX 0 0)), (0, .ref b)])
    (K : ∀ (σ' τ' : Sg) (H : Heap) (locs : List Loc), Rel σ' τ' → LawW s GX GM σ' τ' H locs → W p l e room_1 s m #[Value.ref b] below meth c H locs cells slots Q (F0 m 1196 ls [])) : W p l e room_1 s m #[Value.ref b] below meth c H locs cells slots Q (F0 m 381 ls []) := by
  obtain ⟨⟨hx, hb, hr, hml, hown, hts, hX, hbl, hlocks, hgv⟩, hL, ⟨hGX, hGM⟩, ⟨hKX, hKM⟩, ⟨sX, sM⟩, ⟨dXM, dMX⟩, ⟨mX, mM⟩⟩ := C
  obtain ⟨hP, hP2, hS⟩ := hw
  obtain ⟨r, σ', τ', eX, eM, hR'⟩ := q_push hR (xs (i + 1)) (xs (i + 2)) (xs (i + 3))
  refine lv_aload_n hx hb dl_381 rfl (lv_at hl 2 rfl) ?_
  refine law_arg (k := 1) hx hb hX hbl hS hL hi (by decide) (lv_at hl 3 rfl) (lv_at hl 0 rfl) dl_382 dl_383 (kv := 1) (by decide) dl_384 dl_385 dl_386 ?_
  refine law_arg (k := 2) hx hb hX hbl hS hL hi (by decide) (lv_at hl 3 rfl) (lv_at hl 0 rfl) dl_387 dl_388 (kv := 2) (by decide) dl_389 dl_390 dl_391 ?_
  refine law_arg (k := 3) hx hb hX hbl hS hL hi (by decide) (lv_at hl 3 rfl) (lv_at hl 0 rfl) dl_392 dl_393 (kv := 3) (by decide) dl_394 dl_395 dl_396 ?_
  refine law_run (G := GX) (G2 := GM) (σ := σ) (τ := τ) (σ1 := σ') (r0 := vI r) (id := 8) (d := 3) (g0 := 0) (as := [vI (xs (i + 1)), vI (xs (i + 2)), vI (xs (i + 3))]) (rest := []) hx hb hml hown hts hGX hGM hKX sX dMX (by decide) rfl (lk_X_push hGX eX) mX (okc trivial (okc trivial (okc trivial (fun _ h => absurd h List.not_mem_nil)))) ⟨rfl, rfl⟩ lj_45 (show _ = some 3 by decide +kernel) (by omega) hP hP2 hS hl.1 (Nat.le_of_ble_eq_true rfl) hcs dl_397 (fun H locs hP hP2 hS => ?_)
  refine W.eq (g2 := F0 m 400 ls [.int r]) rfl ?_
  refine lv_aload_n hx hb dl_400 rfl (lv_at hl 1 rfl) ?_
  refine law_arg (k := 1) hx hb hX hbl hS hL hi (by decide) (lv_at hl 3 rfl) (lv_at hl 0 rfl) dl_401 dl_402 (kv := 1) (by decide) dl_403 dl_404 dl_405 ?_
  refine law_arg (k := 2) hx hb hX hbl hS hL hi (by decide) (lv_at hl 3 rfl) (lv_at hl 0 rfl) dl_406 dl_407 (kv := 2) (by decide) dl_408 dl_409 dl_410 ?_
  refine law_arg (k := 3) hx hb hX hbl hS hL hi (by decide) (lv_at hl 3 rfl) (lv_at hl 0 rfl) dl_411 dl_412 (kv := 3) (by decide) dl_413 dl_414 dl_415 ?_
  refine law_run (G := GM) (G2 := GX) (σ := τ) (τ := σ') (σ1 := τ') (r0 := vI r) (id := 136) (d := 3) (g0 := 30) (as := [vI (xs (i + 1)), vI (xs (i + 2)), vI (xs (i + 3))]) (rest := [.int r]) hx hb hml hown hts hGM hGX hKM sM dXM (by decide) rfl (lk_M_push hGM eM) mM (okc trivial (okc trivial (okc trivial (fun _ h => absurd h List.not_mem_nil)))) ⟨rfl, rfl⟩ lj_48 (show _ = some 3 by decide +kernel) (by omega) hP2 hP hS hl.1 (Nat.le_of_ble_eq_true rfl) hcs dl_416 (fun H locs hP2 hP hS => ?_)
  refine W.eq (g2 := F0 m 419 ls [.int r, .int r]) rfl ?_
  exact lv_icmp_eq (tgt := 1196) hx hb dl_419 (by decide) (fun _ => K σ' τ' H locs hR' ⟨hP, hP2, hS⟩) (fun q => absurd rfl q)
theorem lcase_8 {p : Program} {l : Launch} {e : Env} {s : State} {m : MethodId} {below : List Frame} {meth : Method} {c : Code} {H : Heap} {locs : List Loc} {cells slots b L i : Nat} {Q : State → Prop} {ls : Array Slot} {xs : Nat → Int32} {GX GM : ab_Gt} {σ τ : Sg} (hcs : cells ≤ 600000 ∧ slots ≤ 7302250) (C : LawC p s m meth c b L xs GX GM) (hi : i + 6 ≤ L) (hR : Rel σ τ) (hw : LawW s GX GM σ τ H locs) (hl : lv_has ls 4 [(3, .int (nI i)), (2, .ref (gad GM 30 0)), (1, .ref (gad GX 0 0)), (0, .ref b)])
    (K : ∀ (σ' τ' : Sg) (H : Heap) (locs : List Loc), Rel σ' τ' → LawW s GX GM σ' τ' H locs → W p l e room_1 s m #[Value.ref b] below meth c H locs cells slots Q (F0 m 1196 ls [])) : W p l e room_1 s m #[Value.ref b] below meth c H locs cells slots Q (F0 m 424 ls []) := by
  obtain ⟨⟨hx, hb, hr, hml, hown, hts, hX, hbl, hlocks, hgv⟩, hL, ⟨hGX, hGM⟩, ⟨hKX, hKM⟩, ⟨sX, sM⟩, ⟨dXM, dMX⟩, ⟨mX, mM⟩⟩ := C
  obtain ⟨hP, hP2, hS⟩ := hw
  obtain ⟨r, σ', τ', eX, eM, hR'⟩ := q_plan hR (xs (i + 1)) (xs (i + 2)) (xs (i + 3))
  refine lv_aload_n hx hb dl_424 rfl (lv_at hl 2 rfl) ?_
  refine law_arg (k := 1) hx hb hX hbl hS hL hi (by decide) (lv_at hl 3 rfl) (lv_at hl 0 rfl) dl_425 dl_426 (kv := 1) (by decide) dl_427 dl_428 dl_429 ?_
  refine law_arg (k := 2) hx hb hX hbl hS hL hi (by decide) (lv_at hl 3 rfl) (lv_at hl 0 rfl) dl_430 dl_431 (kv := 2) (by decide) dl_432 dl_433 dl_434 ?_
  refine law_arg (k := 3) hx hb hX hbl hS hL hi (by decide) (lv_at hl 3 rfl) (lv_at hl 0 rfl) dl_435 dl_436 (kv := 3) (by decide) dl_437 dl_438 dl_439 ?_
  refine law_run (G := GX) (G2 := GM) (σ := σ) (τ := τ) (σ1 := σ') (r0 := vI r) (id := 9) (d := 6) (g0 := 0) (as := [vI (xs (i + 1)), vI (xs (i + 2)), vI (xs (i + 3))]) (rest := []) hx hb hml hown hts hGX hGM hKX sX dMX (by decide) rfl (lk_X_plan hGX eX) mX (okc trivial (okc trivial (okc trivial (fun _ h => absurd h List.not_mem_nil)))) ⟨rfl, rfl⟩ lj_49 (show _ = some 3 by decide +kernel) (by omega) hP hP2 hS hl.1 (Nat.le_of_ble_eq_true rfl) hcs dl_440 (fun H locs hP hP2 hS => ?_)
  refine W.eq (g2 := F0 m 443 ls [.int r]) rfl ?_
  refine lv_aload_n hx hb dl_443 rfl (lv_at hl 1 rfl) ?_
  refine law_arg (k := 1) hx hb hX hbl hS hL hi (by decide) (lv_at hl 3 rfl) (lv_at hl 0 rfl) dl_444 dl_445 (kv := 1) (by decide) dl_446 dl_447 dl_448 ?_
  refine law_arg (k := 2) hx hb hX hbl hS hL hi (by decide) (lv_at hl 3 rfl) (lv_at hl 0 rfl) dl_449 dl_450 (kv := 2) (by decide) dl_451 dl_452 dl_453 ?_
  refine law_arg (k := 3) hx hb hX hbl hS hL hi (by decide) (lv_at hl 3 rfl) (lv_at hl 0 rfl) dl_454 dl_455 (kv := 3) (by decide) dl_456 dl_457 dl_458 ?_
  refine law_run (G := GM) (G2 := GX) (σ := τ) (τ := σ') (σ1 := τ') (r0 := vI r) (id := 140) (d := 46) (g0 := 30) (as := [vI (xs (i + 1)), vI (xs (i + 2)), vI (xs (i + 3))]) (rest := [.int r]) hx hb hml hown hts hGM hGX hKM sM dXM (by decide) rfl (lk_M_plan hGM eM) mM (okc trivial (okc trivial (okc trivial (fun _ h => absurd h List.not_mem_nil)))) ⟨rfl, rfl⟩ lj_52 (show _ = some 3 by decide +kernel) (by omega) hP2 hP hS hl.1 (Nat.le_of_ble_eq_true rfl) hcs dl_459 (fun H locs hP2 hP hS => ?_)
  refine W.eq (g2 := F0 m 462 ls [.int r, .int r]) rfl ?_
  exact lv_icmp_eq (tgt := 1196) hx hb dl_462 (by decide) (fun _ => K σ' τ' H locs hR' ⟨hP, hP2, hS⟩) (fun q => absurd rfl q)
theorem lcase_9 {p : Program} {l : Launch} {e : Env} {s : State} {m : MethodId} {below : List Frame} {meth : Method} {c : Code} {H : Heap} {locs : List Loc} {cells slots b L i : Nat} {Q : State → Prop} {ls : Array Slot} {xs : Nat → Int32} {GX GM : ab_Gt} {σ τ : Sg} (hcs : cells ≤ 600000 ∧ slots ≤ 7302250) (C : LawC p s m meth c b L xs GX GM) (hi : i + 6 ≤ L) (hR : Rel σ τ) (hw : LawW s GX GM σ τ H locs) (hl : lv_has ls 4 [(3, .int (nI i)), (2, .ref (gad GM 30 0)), (1, .ref (gad GX 0 0)), (0, .ref b)])
    (K : ∀ (σ' τ' : Sg) (H : Heap) (locs : List Loc), Rel σ' τ' → LawW s GX GM σ' τ' H locs → W p l e room_1 s m #[Value.ref b] below meth c H locs cells slots Q (F0 m 1196 ls [])) : W p l e room_1 s m #[Value.ref b] below meth c H locs cells slots Q (F0 m 467 ls []) := by
  obtain ⟨⟨hx, hb, hr, hml, hown, hts, hX, hbl, hlocks, hgv⟩, hL, ⟨hGX, hGM⟩, ⟨hKX, hKM⟩, ⟨sX, sM⟩, ⟨dXM, dMX⟩, ⟨mX, mM⟩⟩ := C
  obtain ⟨hP, hP2, hS⟩ := hw
  obtain ⟨r, σ', τ', eX, eM, hR'⟩ := q_wear hR (xs (i + 1)) (xs (i + 2))
  refine lv_aload_n hx hb dl_467 rfl (lv_at hl 2 rfl) ?_
  refine law_arg (k := 1) hx hb hX hbl hS hL hi (by decide) (lv_at hl 3 rfl) (lv_at hl 0 rfl) dl_468 dl_469 (kv := 1) (by decide) dl_470 dl_471 dl_472 ?_
  refine law_arg (k := 2) hx hb hX hbl hS hL hi (by decide) (lv_at hl 3 rfl) (lv_at hl 0 rfl) dl_473 dl_474 (kv := 2) (by decide) dl_475 dl_476 dl_477 ?_
  refine law_run (G := GX) (G2 := GM) (σ := σ) (τ := τ) (σ1 := σ') (r0 := vI r) (id := 10) (d := 6) (g0 := 0) (as := [vI (xs (i + 1)), vI (xs (i + 2))]) (rest := []) hx hb hml hown hts hGX hGM hKX sX dMX (by decide) rfl (lk_X_wear hGX eX) mX (okc trivial (okc trivial (fun _ h => absurd h List.not_mem_nil))) ⟨rfl, rfl⟩ lj_53 (show _ = some 2 by decide +kernel) (by omega) hP hP2 hS hl.1 (Nat.le_of_ble_eq_true rfl) hcs dl_478 (fun H locs hP hP2 hS => ?_)
  refine W.eq (g2 := F0 m 481 ls [.int r]) rfl ?_
  refine lv_aload_n hx hb dl_481 rfl (lv_at hl 1 rfl) ?_
  refine law_arg (k := 1) hx hb hX hbl hS hL hi (by decide) (lv_at hl 3 rfl) (lv_at hl 0 rfl) dl_482 dl_483 (kv := 1) (by decide) dl_484 dl_485 dl_486 ?_
  refine law_arg (k := 2) hx hb hX hbl hS hL hi (by decide) (lv_at hl 3 rfl) (lv_at hl 0 rfl) dl_487 dl_488 (kv := 2) (by decide) dl_489 dl_490 dl_491 ?_
  refine law_run (G := GM) (G2 := GX) (σ := τ) (τ := σ') (σ1 := τ') (r0 := vI r) (id := 141) (d := 46) (g0 := 30) (as := [vI (xs (i + 1)), vI (xs (i + 2))]) (rest := [.int r]) hx hb hml hown hts hGM hGX hKM sM dXM (by decide) rfl (lk_M_wear hGM eM) mM (okc trivial (okc trivial (fun _ h => absurd h List.not_mem_nil))) ⟨rfl, rfl⟩ lj_56 (show _ = some 2 by decide +kernel) (by omega) hP2 hP hS hl.1 (Nat.le_of_ble_eq_true rfl) hcs dl_492 (fun H locs hP2 hP hS => ?_)
  refine W.eq (g2 := F0 m 495 ls [.int r, .int r]) rfl ?_
  exact lv_icmp_eq (tgt := 1196) hx hb dl_495 (by decide) (fun _ => K σ' τ' H locs hR' ⟨hP, hP2, hS⟩) (fun q => absurd rfl q)
theorem lcase_10 {p : Program} {l : Launch} {e : Env} {s : State} {m : MethodId} {below : List Frame} {meth : Method} {c : Code} {H : Heap} {locs : List Loc} {cells slots b L i : Nat} {Q : State → Prop} {ls : Array Slot} {xs : Nat → Int32} {GX GM : ab_Gt} {σ τ : Sg} (hcs : cells ≤ 600000 ∧ slots ≤ 7302250) (C : LawC p s m meth c b L xs GX GM) (hi : i + 6 ≤ L) (hR : Rel σ τ) (hw : LawW s GX GM σ τ H locs) (hl : lv_has ls 4 [(3, .int (nI i)), (2, .ref (gad GM 30 0)), (1, .ref (gad GX 0 0)), (0, .ref b)])
    (K : ∀ (σ' τ' : Sg) (H : Heap) (locs : List Loc), Rel σ' τ' → LawW s GX GM σ' τ' H locs → W p l e room_1 s m #[Value.ref b] below meth c H locs cells slots Q (F0 m 1196 ls [])) : W p l e room_1 s m #[Value.ref b] below meth c H locs cells slots Q (F0 m 500 ls []) := by
  obtain ⟨⟨hx, hb, hr, hml, hown, hts, hX, hbl, hlocks, hgv⟩, hL, ⟨hGX, hGM⟩, ⟨hKX, hKM⟩, ⟨sX, sM⟩, ⟨dXM, dMX⟩, ⟨mX, mM⟩⟩ := C
  obtain ⟨hP, hP2, hS⟩ := hw
  obtain ⟨r, σ', τ', eX, eM, hR'⟩ := q_day hR (xs (i + 1)) (xs (i + 2))
  refine lv_aload_n hx hb dl_500 rfl (lv_at hl 2 rfl) ?_
  refine law_arg (k := 1) hx hb hX hbl hS hL hi (by decide) (lv_at hl 3 rfl) (lv_at hl 0 rfl) dl_501 dl_502 (kv := 1) (by decide) dl_503 dl_504 dl_505 ?_
  refine law_arg (k := 2) hx hb hX hbl hS hL hi (by decide) (lv_at hl 3 rfl) (lv_at hl 0 rfl) dl_506 dl_507 (kv := 2) (by decide) dl_508 dl_509 dl_510 ?_
  refine law_run (G := GX) (G2 := GM) (σ := σ) (τ := τ) (σ1 := σ') (r0 := vI r) (id := 11) (d := 8) (g0 := 0) (as := [vI (xs (i + 1)), vI (xs (i + 2))]) (rest := []) hx hb hml hown hts hGX hGM hKX sX dMX (by decide) rfl (lk_X_day hGX eX) mX (okc trivial (okc trivial (fun _ h => absurd h List.not_mem_nil))) ⟨rfl, rfl⟩ lj_57 (show _ = some 2 by decide +kernel) (by omega) hP hP2 hS hl.1 (Nat.le_of_ble_eq_true rfl) hcs dl_511 (fun H locs hP hP2 hS => ?_)
  refine W.eq (g2 := F0 m 514 ls [.int r]) rfl ?_
  refine lv_aload_n hx hb dl_514 rfl (lv_at hl 1 rfl) ?_
  refine law_arg (k := 1) hx hb hX hbl hS hL hi (by decide) (lv_at hl 3 rfl) (lv_at hl 0 rfl) dl_515 dl_516 (kv := 1) (by decide) dl_517 dl_518 dl_519 ?_
  refine law_arg (k := 2) hx hb hX hbl hS hL hi (by decide) (lv_at hl 3 rfl) (lv_at hl 0 rfl) dl_520 dl_521 (kv := 2) (by decide) dl_522 dl_523 dl_524 ?_
  refine law_run (G := GM) (G2 := GX) (σ := τ) (τ := σ') (σ1 := τ') (r0 := vI r) (id := 150) (d := 48) (g0 := 30) (as := [vI (xs (i + 1)), vI (xs (i + 2))]) (rest := [.int r]) hx hb hml hown hts hGM hGX hKM sM dXM (by decide) rfl (lk_M_day hGM eM) mM (okc trivial (okc trivial (fun _ h => absurd h List.not_mem_nil))) ⟨rfl, rfl⟩ lj_60 (show _ = some 2 by decide +kernel) (by omega) hP2 hP hS hl.1 (Nat.le_of_ble_eq_true rfl) hcs dl_525 (fun H locs hP2 hP hS => ?_)
  refine W.eq (g2 := F0 m 528 ls [.int r, .int r]) rfl ?_
  exact lv_icmp_eq (tgt := 1196) hx hb dl_528 (by decide) (fun _ => K σ' τ' H locs hR' ⟨hP, hP2, hS⟩) (fun q => absurd rfl q)
theorem lcase_11 {p : Program} {l : Launch} {e : Env} {s : State} {m : MethodId} {below : List Frame} {meth : Method} {c : Code} {H : Heap} {locs : List Loc} {cells slots b L i : Nat} {Q : State → Prop} {ls : Array Slot} {xs : Nat → Int32} {GX GM : ab_Gt} {σ τ : Sg} (hcs : cells ≤ 600000 ∧ slots ≤ 7302250) (C : LawC p s m meth c b L xs GX GM) (hi : i + 6 ≤ L) (hR : Rel σ τ) (hw : LawW s GX GM σ τ H locs) (hl : lv_has ls 4 [(3, .int (nI i)), (2, .ref (gad GM 30 0)), (1, .ref (gad GX 0 0)), (0, .ref b)])
    (K : ∀ (σ' τ' : Sg) (H : Heap) (locs : List Loc), Rel σ' τ' → LawW s GX GM σ' τ' H locs → W p l e room_1 s m #[Value.ref b] below meth c H locs cells slots Q (F0 m 1196 ls [])) : W p l e room_1 s m #[Value.ref b] below meth c H locs cells slots Q (F0 m 533 ls []) := by
  obtain ⟨⟨hx, hb, hr, hml, hown, hts, hX, hbl, hlocks, hgv⟩, hL, ⟨hGX, hGM⟩, ⟨hKX, hKM⟩, ⟨sX, sM⟩, ⟨dXM, dMX⟩, ⟨mX, mM⟩⟩ := C
  obtain ⟨hP, hP2, hS⟩ := hw
  obtain ⟨r, σ', τ', eX, eM, hR'⟩ := q_dress hR (xs (i + 1)) (xs (i + 2))
  refine lv_aload_n hx hb dl_533 rfl (lv_at hl 2 rfl) ?_
  refine law_arg (k := 1) hx hb hX hbl hS hL hi (by decide) (lv_at hl 3 rfl) (lv_at hl 0 rfl) dl_534 dl_535 (kv := 1) (by decide) dl_536 dl_537 dl_538 ?_
  refine law_arg (k := 2) hx hb hX hbl hS hL hi (by decide) (lv_at hl 3 rfl) (lv_at hl 0 rfl) dl_539 dl_540 (kv := 2) (by decide) dl_541 dl_542 dl_543 ?_
  refine law_run (G := GX) (G2 := GM) (σ := σ) (τ := τ) (σ1 := σ') (r0 := vI r) (id := 12) (d := 8) (g0 := 0) (as := [vI (xs (i + 1)), vI (xs (i + 2))]) (rest := []) hx hb hml hown hts hGX hGM hKX sX dMX (by decide) rfl (lk_X_dress hGX eX) mX (okc trivial (okc trivial (fun _ h => absurd h List.not_mem_nil))) ⟨rfl, rfl⟩ lj_61 (show _ = some 2 by decide +kernel) (by omega) hP hP2 hS hl.1 (Nat.le_of_ble_eq_true rfl) hcs dl_544 (fun H locs hP hP2 hS => ?_)
  refine W.eq (g2 := F0 m 547 ls [.int r]) rfl ?_
  refine lv_aload_n hx hb dl_547 rfl (lv_at hl 1 rfl) ?_
  refine law_arg (k := 1) hx hb hX hbl hS hL hi (by decide) (lv_at hl 3 rfl) (lv_at hl 0 rfl) dl_548 dl_549 (kv := 1) (by decide) dl_550 dl_551 dl_552 ?_
  refine law_arg (k := 2) hx hb hX hbl hS hL hi (by decide) (lv_at hl 3 rfl) (lv_at hl 0 rfl) dl_553 dl_554 (kv := 2) (by decide) dl_555 dl_556 dl_557 ?_
  refine law_run (G := GM) (G2 := GX) (σ := τ) (τ := σ') (σ1 := τ') (r0 := vI r) (id := 151) (d := 46) (g0 := 30) (as := [vI (xs (i + 1)), vI (xs (i + 2))]) (rest := [.int r]) hx hb hml hown hts hGM hGX hKM sM dXM (by decide) rfl (lk_M_dress hGM eM) mM (okc trivial (okc trivial (fun _ h => absurd h List.not_mem_nil))) ⟨rfl, rfl⟩ lj_64 (show _ = some 2 by decide +kernel) (by omega) hP2 hP hS hl.1 (Nat.le_of_ble_eq_true rfl) hcs dl_558 (fun H locs hP2 hP hS => ?_)
  refine W.eq (g2 := F0 m 561 ls [.int r, .int r]) rfl ?_
  exact lv_icmp_eq (tgt := 1196) hx hb dl_561 (by decide) (fun _ => K σ' τ' H locs hR' ⟨hP, hP2, hS⟩) (fun q => absurd rfl q)
theorem lcase_12 {p : Program} {l : Launch} {e : Env} {s : State} {m : MethodId} {below : List Frame} {meth : Method} {c : Code} {H : Heap} {locs : List Loc} {cells slots b L i : Nat} {Q : State → Prop} {ls : Array Slot} {xs : Nat → Int32} {GX GM : ab_Gt} {σ τ : Sg} (hcs : cells ≤ 600000 ∧ slots ≤ 7302250) (C : LawC p s m meth c b L xs GX GM) (hi : i + 6 ≤ L) (hR : Rel σ τ) (hw : LawW s GX GM σ τ H locs) (hl : lv_has ls 4 [(3, .int (nI i)), (2, .ref (gad GM 30 0)), (1, .ref (gad GX 0 0)), (0, .ref b)])
    (K : ∀ (σ' τ' : Sg) (H : Heap) (locs : List Loc), Rel σ' τ' → LawW s GX GM σ' τ' H locs → W p l e room_1 s m #[Value.ref b] below meth c H locs cells slots Q (F0 m 1196 ls [])) : W p l e room_1 s m #[Value.ref b] below meth c H locs cells slots Q (F0 m 566 ls []) := by
  obtain ⟨⟨hx, hb, hr, hml, hown, hts, hX, hbl, hlocks, hgv⟩, hL, ⟨hGX, hGM⟩, ⟨hKX, hKM⟩, ⟨sX, sM⟩, ⟨dXM, dMX⟩, ⟨mX, mM⟩⟩ := C
  obtain ⟨hP, hP2, hS⟩ := hw
  obtain ⟨r, σ', τ', eX, eM, hR'⟩ := q_anew hR (xs (i + 1)) (xs (i + 2)) (xs (i + 3))
  refine lv_aload_n hx hb dl_566 rfl (lv_at hl 2 rfl) ?_
  refine law_arg (k := 1) hx hb hX hbl hS hL hi (by decide) (lv_at hl 3 rfl) (lv_at hl 0 rfl) dl_567 dl_568 (kv := 1) (by decide) dl_569 dl_570 dl_571 ?_
  refine law_arg (k := 2) hx hb hX hbl hS hL hi (by decide) (lv_at hl 3 rfl) (lv_at hl 0 rfl) dl_572 dl_573 (kv := 2) (by decide) dl_574 dl_575 dl_576 ?_
  refine law_arg (k := 3) hx hb hX hbl hS hL hi (by decide) (lv_at hl 3 rfl) (lv_at hl 0 rfl) dl_577 dl_578 (kv := 3) (by decide) dl_579 dl_580 dl_581 ?_
  refine law_run (G := GX) (G2 := GM) (σ := σ) (τ := τ) (σ1 := σ') (r0 := vI r) (id := 13) (d := 6) (g0 := 0) (as := [vI (xs (i + 1)), vI (xs (i + 2)), vI (xs (i + 3))]) (rest := []) hx hb hml hown hts hGX hGM hKX sX dMX (by decide) rfl (lk_X_anew hGX eX) mX (okc trivial (okc trivial (okc trivial (fun _ h => absurd h List.not_mem_nil)))) ⟨rfl, rfl⟩ lj_65 (show _ = some 3 by decide +kernel) (by omega) hP hP2 hS hl.1 (Nat.le_of_ble_eq_true rfl) hcs dl_582 (fun H locs hP hP2 hS => ?_)
  refine W.eq (g2 := F0 m 585 ls [.int r]) rfl ?_
  refine lv_aload_n hx hb dl_585 rfl (lv_at hl 1 rfl) ?_
  refine law_arg (k := 1) hx hb hX hbl hS hL hi (by decide) (lv_at hl 3 rfl) (lv_at hl 0 rfl) dl_586 dl_587 (kv := 1) (by decide) dl_588 dl_589 dl_590 ?_
  refine law_arg (k := 2) hx hb hX hbl hS hL hi (by decide) (lv_at hl 3 rfl) (lv_at hl 0 rfl) dl_591 dl_592 (kv := 2) (by decide) dl_593 dl_594 dl_595 ?_
  refine law_arg (k := 3) hx hb hX hbl hS hL hi (by decide) (lv_at hl 3 rfl) (lv_at hl 0 rfl) dl_596 dl_597 (kv := 3) (by decide) dl_598 dl_599 dl_600 ?_
  refine law_run (G := GM) (G2 := GX) (σ := τ) (τ := σ') (σ1 := τ') (r0 := vI r) (id := 152) (d := 46) (g0 := 30) (as := [vI (xs (i + 1)), vI (xs (i + 2)), vI (xs (i + 3))]) (rest := [.int r]) hx hb hml hown hts hGM hGX hKM sM dXM (by decide) rfl (lk_M_anew hGM eM) mM (okc trivial (okc trivial (okc trivial (fun _ h => absurd h List.not_mem_nil)))) ⟨rfl, rfl⟩ lj_68 (show _ = some 3 by decide +kernel) (by omega) hP2 hP hS hl.1 (Nat.le_of_ble_eq_true rfl) hcs dl_601 (fun H locs hP2 hP hS => ?_)
  refine W.eq (g2 := F0 m 604 ls [.int r, .int r]) rfl ?_
  exact lv_icmp_eq (tgt := 1196) hx hb dl_604 (by decide) (fun _ => K σ' τ' H locs hR' ⟨hP, hP2, hS⟩) (fun q => absurd rfl q)
theorem lcase_13 {p : Program} {l : Launch} {e : Env} {s : State} {m : MethodId} {below : List Frame} {meth : Method} {c : Code} {H : Heap} {locs : List Loc} {cells slots b L i : Nat} {Q : State → Prop} {ls : Array Slot} {xs : Nat → Int32} {GX GM : ab_Gt} {σ τ : Sg} (hcs : cells ≤ 600000 ∧ slots ≤ 7302250) (C : LawC p s m meth c b L xs GX GM) (hi : i + 6 ≤ L) (hR : Rel σ τ) (hw : LawW s GX GM σ τ H locs) (hl : lv_has ls 4 [(3, .int (nI i)), (2, .ref (gad GM 30 0)), (1, .ref (gad GX 0 0)), (0, .ref b)])
    (K : ∀ (σ' τ' : Sg) (H : Heap) (locs : List Loc), Rel σ' τ' → LawW s GX GM σ' τ' H locs → W p l e room_1 s m #[Value.ref b] below meth c H locs cells slots Q (F0 m 1196 ls [])) : W p l e room_1 s m #[Value.ref b] below meth c H locs cells slots Q (F0 m 609 ls []) := by
  obtain ⟨⟨hx, hb, hr, hml, hown, hts, hX, hbl, hlocks, hgv⟩, hL, ⟨hGX, hGM⟩, ⟨hKX, hKM⟩, ⟨sX, sM⟩, ⟨dXM, dMX⟩, ⟨mX, mM⟩⟩ := C
  obtain ⟨hP, hP2, hS⟩ := hw
  obtain ⟨r, σ', τ', eX, eM, hR'⟩ := q_pushes hR (xs (i + 1)) (xs (i + 2)) (xs (i + 3))
  refine lv_aload_n hx hb dl_609 rfl (lv_at hl 2 rfl) ?_
  refine law_arg (k := 1) hx hb hX hbl hS hL hi (by decide) (lv_at hl 3 rfl) (lv_at hl 0 rfl) dl_610 dl_611 (kv := 1) (by decide) dl_612 dl_613 dl_614 ?_
  refine law_arg (k := 2) hx hb hX hbl hS hL hi (by decide) (lv_at hl 3 rfl) (lv_at hl 0 rfl) dl_615 dl_616 (kv := 2) (by decide) dl_617 dl_618 dl_619 ?_
  refine law_arg (k := 3) hx hb hX hbl hS hL hi (by decide) (lv_at hl 3 rfl) (lv_at hl 0 rfl) dl_620 dl_621 (kv := 3) (by decide) dl_622 dl_623 dl_624 ?_
  refine law_run (G := GX) (G2 := GM) (σ := σ) (τ := τ) (σ1 := σ') (r0 := vI r) (id := 14) (d := 6) (g0 := 0) (as := [vI (xs (i + 1)), vI (xs (i + 2)), vI (xs (i + 3))]) (rest := []) hx hb hml hown hts hGX hGM hKX sX dMX (by decide) rfl (lk_X_pushes hGX eX) mX (okc trivial (okc trivial (okc trivial (fun _ h => absurd h List.not_mem_nil)))) ⟨rfl, rfl⟩ lj_69 (show _ = some 3 by decide +kernel) (by omega) hP hP2 hS hl.1 (Nat.le_of_ble_eq_true rfl) hcs dl_625 (fun H locs hP hP2 hS => ?_)
  refine W.eq (g2 := F0 m 628 ls [.int r]) rfl ?_
  refine lv_aload_n hx hb dl_628 rfl (lv_at hl 1 rfl) ?_
  refine law_arg (k := 1) hx hb hX hbl hS hL hi (by decide) (lv_at hl 3 rfl) (lv_at hl 0 rfl) dl_629 dl_630 (kv := 1) (by decide) dl_631 dl_632 dl_633 ?_
  refine law_arg (k := 2) hx hb hX hbl hS hL hi (by decide) (lv_at hl 3 rfl) (lv_at hl 0 rfl) dl_634 dl_635 (kv := 2) (by decide) dl_636 dl_637 dl_638 ?_
  refine law_arg (k := 3) hx hb hX hbl hS hL hi (by decide) (lv_at hl 3 rfl) (lv_at hl 0 rfl) dl_639 dl_640 (kv := 3) (by decide) dl_641 dl_642 dl_643 ?_
  refine law_run (G := GM) (G2 := GX) (σ := τ) (τ := σ') (σ1 := τ') (r0 := vI r) (id := 155) (d := 46) (g0 := 30) (as := [vI (xs (i + 1)), vI (xs (i + 2)), vI (xs (i + 3))]) (rest := [.int r]) hx hb hml hown hts hGM hGX hKM sM dXM (by decide) rfl (lk_M_pushes hGM eM) mM (okc trivial (okc trivial (okc trivial (fun _ h => absurd h List.not_mem_nil)))) ⟨rfl, rfl⟩ lj_72 (show _ = some 3 by decide +kernel) (by omega) hP2 hP hS hl.1 (Nat.le_of_ble_eq_true rfl) hcs dl_644 (fun H locs hP2 hP hS => ?_)
  refine W.eq (g2 := F0 m 647 ls [.int r, .int r]) rfl ?_
  exact lv_icmp_eq (tgt := 1196) hx hb dl_647 (by decide) (fun _ => K σ' τ' H locs hR' ⟨hP, hP2, hS⟩) (fun q => absurd rfl q)
theorem lcase_14 {p : Program} {l : Launch} {e : Env} {s : State} {m : MethodId} {below : List Frame} {meth : Method} {c : Code} {H : Heap} {locs : List Loc} {cells slots b L i : Nat} {Q : State → Prop} {ls : Array Slot} {xs : Nat → Int32} {GX GM : ab_Gt} {σ τ : Sg} (hcs : cells ≤ 600000 ∧ slots ≤ 7302250) (C : LawC p s m meth c b L xs GX GM) (hi : i + 6 ≤ L) (hR : Rel σ τ) (hw : LawW s GX GM σ τ H locs) (hl : lv_has ls 4 [(3, .int (nI i)), (2, .ref (gad GM 30 0)), (1, .ref (gad GX 0 0)), (0, .ref b)])
    (K : ∀ (σ' τ' : Sg) (H : Heap) (locs : List Loc), Rel σ' τ' → LawW s GX GM σ' τ' H locs → W p l e room_1 s m #[Value.ref b] below meth c H locs cells slots Q (F0 m 1196 ls [])) : W p l e room_1 s m #[Value.ref b] below meth c H locs cells slots Q (F0 m 652 ls []) := by
  obtain ⟨⟨hx, hb, hr, hml, hown, hts, hX, hbl, hlocks, hgv⟩, hL, ⟨hGX, hGM⟩, ⟨hKX, hKM⟩, ⟨sX, sM⟩, ⟨dXM, dMX⟩, ⟨mX, mM⟩⟩ := C
  obtain ⟨hP, hP2, hS⟩ := hw
  obtain ⟨r, σ', τ', eX, eM, hR'⟩ := q_all hR (xs (i + 1))
  refine lv_aload_n hx hb dl_652 rfl (lv_at hl 2 rfl) ?_
  refine law_arg (k := 1) hx hb hX hbl hS hL hi (by decide) (lv_at hl 3 rfl) (lv_at hl 0 rfl) dl_653 dl_654 (kv := 1) (by decide) dl_655 dl_656 dl_657 ?_
  refine law_run (G := GX) (G2 := GM) (σ := σ) (τ := τ) (σ1 := σ') (r0 := vI r) (id := 15) (d := 8) (g0 := 0) (as := [vI (xs (i + 1))]) (rest := []) hx hb hml hown hts hGX hGM hKX sX dMX (by decide) rfl (lk_X_all hGX eX) mX (okc trivial (fun _ h => absurd h List.not_mem_nil)) ⟨rfl, rfl⟩ lj_73 (show _ = some 1 by decide +kernel) (by omega) hP hP2 hS hl.1 (Nat.le_of_ble_eq_true rfl) hcs dl_658 (fun H locs hP hP2 hS => ?_)
  refine W.eq (g2 := F0 m 661 ls [.int r]) rfl ?_
  refine lv_aload_n hx hb dl_661 rfl (lv_at hl 1 rfl) ?_
  refine law_arg (k := 1) hx hb hX hbl hS hL hi (by decide) (lv_at hl 3 rfl) (lv_at hl 0 rfl) dl_662 dl_663 (kv := 1) (by decide) dl_664 dl_665 dl_666 ?_
  refine law_run (G := GM) (G2 := GX) (σ := τ) (τ := σ') (σ1 := τ') (r0 := vI r) (id := 157) (d := 47) (g0 := 30) (as := [vI (xs (i + 1))]) (rest := [.int r]) hx hb hml hown hts hGM hGX hKM sM dXM (by decide) rfl (lk_M_all hGM eM) mM (okc trivial (fun _ h => absurd h List.not_mem_nil)) ⟨rfl, rfl⟩ lj_76 (show _ = some 1 by decide +kernel) (by omega) hP2 hP hS hl.1 (Nat.le_of_ble_eq_true rfl) hcs dl_667 (fun H locs hP2 hP hS => ?_)
  refine W.eq (g2 := F0 m 670 ls [.int r, .int r]) rfl ?_
  exact lv_icmp_eq (tgt := 1196) hx hb dl_670 (by decide) (fun _ => K σ' τ' H locs hR' ⟨hP, hP2, hS⟩) (fun q => absurd rfl q)
theorem lcase_15 {p : Program} {l : Launch} {e : Env} {s : State} {m : MethodId} {below : List Frame} {meth : Method} {c : Code} {H : Heap} {locs : List Loc} {cells slots b L i : Nat} {Q : State → Prop} {ls : Array Slot} {xs : Nat → Int32} {GX GM : ab_Gt} {σ τ : Sg} (hcs : cells ≤ 600000 ∧ slots ≤ 7302250) (C : LawC p s m meth c b L xs GX GM) (hi : i + 6 ≤ L) (hR : Rel σ τ) (hw : LawW s GX GM σ τ H locs) (hl : lv_has ls 4 [(3, .int (nI i)), (2, .ref (gad GM 30 0)), (1, .ref (gad GX 0 0)), (0, .ref b)])
    (K : ∀ (σ' τ' : Sg) (H : Heap) (locs : List Loc), Rel σ' τ' → LawW s GX GM σ' τ' H locs → W p l e room_1 s m #[Value.ref b] below meth c H locs cells slots Q (F0 m 1196 ls [])) : W p l e room_1 s m #[Value.ref b] below meth c H locs cells slots Q (F0 m 675 ls []) := by
  obtain ⟨⟨hx, hb, hr, hml, hown, hts, hX, hbl, hlocks, hgv⟩, hL, ⟨hGX, hGM⟩, ⟨hKX, hKM⟩, ⟨sX, sM⟩, ⟨dXM, dMX⟩, ⟨mX, mM⟩⟩ := C
  obtain ⟨hP, hP2, hS⟩ := hw
  obtain ⟨r, σ', τ', eX, eM, hR'⟩ := q_mean hR (xs (i + 1)) (xs (i + 2))
  refine lv_aload_n hx hb dl_675 rfl (lv_at hl 2 rfl) ?_
  refine law_arg (k := 1) hx hb hX hbl hS hL hi (by decide) (lv_at hl 3 rfl) (lv_at hl 0 rfl) dl_676 dl_677 (kv := 1) (by decide) dl_678 dl_679 dl_680 ?_
  refine law_arg (k := 2) hx hb hX hbl hS hL hi (by decide) (lv_at hl 3 rfl) (lv_at hl 0 rfl) dl_681 dl_682 (kv := 2) (by decide) dl_683 dl_684 dl_685 ?_
  refine law_run (G := GX) (G2 := GM) (σ := σ) (τ := τ) (σ1 := σ') (r0 := vL r) (id := 16) (d := 3) (g0 := 0) (as := [vI (xs (i + 1)), vI (xs (i + 2))]) (rest := []) hx hb hml hown hts hGX hGM hKX sX dMX (by decide) rfl (lk_X_mean hGX eX) mX (okc trivial (okc trivial (fun _ h => absurd h List.not_mem_nil))) ⟨rfl, rfl⟩ lj_77 (show _ = some 2 by decide +kernel) (by omega) hP hP2 hS hl.1 (Nat.le_of_ble_eq_true rfl) hcs dl_686 (fun H locs hP hP2 hS => ?_)
  refine W.eq (g2 := F0 m 689 ls [.long r]) rfl ?_
  refine lv_aload_n hx hb dl_689 rfl (lv_at hl 1 rfl) ?_
  refine law_arg (k := 1) hx hb hX hbl hS hL hi (by decide) (lv_at hl 3 rfl) (lv_at hl 0 rfl) dl_690 dl_691 (kv := 1) (by decide) dl_692 dl_693 dl_694 ?_
  refine law_arg (k := 2) hx hb hX hbl hS hL hi (by decide) (lv_at hl 3 rfl) (lv_at hl 0 rfl) dl_695 dl_696 (kv := 2) (by decide) dl_697 dl_698 dl_699 ?_
  refine law_run (G := GM) (G2 := GX) (σ := τ) (τ := σ') (σ1 := τ') (r0 := vL r) (id := 159) (d := 3) (g0 := 30) (as := [vI (xs (i + 1)), vI (xs (i + 2))]) (rest := [.long r]) hx hb hml hown hts hGM hGX hKM sM dXM (by decide) rfl (lk_M_mean hGM eM) mM (okc trivial (okc trivial (fun _ h => absurd h List.not_mem_nil))) ⟨rfl, rfl⟩ lj_81 (show _ = some 2 by decide +kernel) (by omega) hP2 hP hS hl.1 (Nat.le_of_ble_eq_true rfl) hcs dl_700 (fun H locs hP2 hP hS => ?_)
  refine W.eq (g2 := F0 m 703 ls [.long r, .long r]) rfl ?_
  refine W.lcmp hx hb dl_703 ?_
  rw [lg_self]
  exact lv_if_eq (tgt := 1196) hx hb dl_704 (by decide) (fun _ => K σ' τ' H locs hR' ⟨hP, hP2, hS⟩) (fun q => absurd rfl q)
theorem lcase_16 {p : Program} {l : Launch} {e : Env} {s : State} {m : MethodId} {below : List Frame} {meth : Method} {c : Code} {H : Heap} {locs : List Loc} {cells slots b L i : Nat} {Q : State → Prop} {ls : Array Slot} {xs : Nat → Int32} {GX GM : ab_Gt} {σ τ : Sg} (hcs : cells ≤ 600000 ∧ slots ≤ 7302250) (C : LawC p s m meth c b L xs GX GM) (hi : i + 6 ≤ L) (hR : Rel σ τ) (hw : LawW s GX GM σ τ H locs) (hl : lv_has ls 4 [(3, .int (nI i)), (2, .ref (gad GM 30 0)), (1, .ref (gad GX 0 0)), (0, .ref b)])
    (K : ∀ (σ' τ' : Sg) (H : Heap) (locs : List Loc), Rel σ' τ' → LawW s GX GM σ' τ' H locs → W p l e room_1 s m #[Value.ref b] below meth c H locs cells slots Q (F0 m 1196 ls [])) : W p l e room_1 s m #[Value.ref b] below meth c H locs cells slots Q (F0 m 709 ls []) := by
  obtain ⟨⟨hx, hb, hr, hml, hown, hts, hX, hbl, hlocks, hgv⟩, hL, ⟨hGX, hGM⟩, ⟨hKX, hKM⟩, ⟨sX, sM⟩, ⟨dXM, dMX⟩, ⟨mX, mM⟩⟩ := C
  obtain ⟨hP, hP2, hS⟩ := hw
  obtain ⟨r, σ', τ', eX, eM, hR'⟩ := q_tells hR (xs (i + 1)) (xs (i + 2)) (xs (i + 3)) (xs (i + 4))
  refine lv_aload_n hx hb dl_709 rfl (lv_at hl 2 rfl) ?_
  refine law_arg (k := 1) hx hb hX hbl hS hL hi (by decide) (lv_at hl 3 rfl) (lv_at hl 0 rfl) dl_710 dl_711 (kv := 1) (by decide) dl_712 dl_713 dl_714 ?_
  refine law_arg (k := 2) hx hb hX hbl hS hL hi (by decide) (lv_at hl 3 rfl) (lv_at hl 0 rfl) dl_715 dl_716 (kv := 2) (by decide) dl_717 dl_718 dl_719 ?_
  refine law_arg (k := 3) hx hb hX hbl hS hL hi (by decide) (lv_at hl 3 rfl) (lv_at hl 0 rfl) dl_720 dl_721 (kv := 3) (by decide) dl_722 dl_723 dl_724 ?_
  refine law_arg (k := 4) hx hb hX hbl hS hL hi (by decide) (lv_at hl 3 rfl) (lv_at hl 0 rfl) dl_725 dl_726 (kv := 4) (by decide) dl_727 dl_728 dl_729 ?_
  refine law_run (G := GX) (G2 := GM) (σ := σ) (τ := τ) (σ1 := σ') (r0 := vI r) (id := 17) (d := 8) (g0 := 0) (as := [vI (xs (i + 1)), vI (xs (i + 2)), vI (xs (i + 3)), vI (xs (i + 4))]) (rest := []) hx hb hml hown hts hGX hGM hKX sX dMX (by decide) rfl (lk_X_tells hGX eX) mX (okc trivial (okc trivial (okc trivial (okc trivial (fun _ h => absurd h List.not_mem_nil))))) ⟨rfl, rfl⟩ lj_82 (show _ = some 4 by decide +kernel) (by omega) hP hP2 hS hl.1 (Nat.le_of_ble_eq_true rfl) hcs dl_730 (fun H locs hP hP2 hS => ?_)
  refine W.eq (g2 := F0 m 733 ls [.int r]) rfl ?_
  refine lv_aload_n hx hb dl_733 rfl (lv_at hl 1 rfl) ?_
  refine law_arg (k := 1) hx hb hX hbl hS hL hi (by decide) (lv_at hl 3 rfl) (lv_at hl 0 rfl) dl_734 dl_735 (kv := 1) (by decide) dl_736 dl_737 dl_738 ?_
  refine law_arg (k := 2) hx hb hX hbl hS hL hi (by decide) (lv_at hl 3 rfl) (lv_at hl 0 rfl) dl_739 dl_740 (kv := 2) (by decide) dl_741 dl_742 dl_743 ?_
  refine law_arg (k := 3) hx hb hX hbl hS hL hi (by decide) (lv_at hl 3 rfl) (lv_at hl 0 rfl) dl_744 dl_745 (kv := 3) (by decide) dl_746 dl_747 dl_748 ?_
  refine law_arg (k := 4) hx hb hX hbl hS hL hi (by decide) (lv_at hl 3 rfl) (lv_at hl 0 rfl) dl_749 dl_750 (kv := 4) (by decide) dl_751 dl_752 dl_753 ?_
  refine law_run (G := GM) (G2 := GX) (σ := τ) (τ := σ') (σ1 := τ') (r0 := vI r) (id := 162) (d := 48) (g0 := 30) (as := [vI (xs (i + 1)), vI (xs (i + 2)), vI (xs (i + 3)), vI (xs (i + 4))]) (rest := [.int r]) hx hb hml hown hts hGM hGX hKM sM dXM (by decide) rfl (lk_M_tells hGM eM) mM (okc trivial (okc trivial (okc trivial (okc trivial (fun _ h => absurd h List.not_mem_nil))))) ⟨rfl, rfl⟩ lj_86 (show _ = some 4 by decide +kernel) (by omega) hP2 hP hS hl.1 (Nat.le_of_ble_eq_true rfl) hcs dl_754 (fun H locs hP2 hP hS => ?_)
  refine W.eq (g2 := F0 m 757 ls [.int r, .int r]) rfl ?_
  exact lv_icmp_eq (tgt := 1196) hx hb dl_757 (by decide) (fun _ => K σ' τ' H locs hR' ⟨hP, hP2, hS⟩) (fun q => absurd rfl q)
theorem lcase_17 {p : Program} {l : Launch} {e : Env} {s : State} {m : MethodId} {below : List Frame} {meth : Method} {c : Code} {H : Heap} {locs : List Loc} {cells slots b L i : Nat} {Q : State → Prop} {ls : Array Slot} {xs : Nat → Int32} {GX GM : ab_Gt} {σ τ : Sg} (hcs : cells ≤ 600000 ∧ slots ≤ 7302250) (C : LawC p s m meth c b L xs GX GM) (hi : i + 6 ≤ L) (hR : Rel σ τ) (hw : LawW s GX GM σ τ H locs) (hl : lv_has ls 4 [(3, .int (nI i)), (2, .ref (gad GM 30 0)), (1, .ref (gad GX 0 0)), (0, .ref b)])
    (K : ∀ (σ' τ' : Sg) (H : Heap) (locs : List Loc), Rel σ' τ' → LawW s GX GM σ' τ' H locs → W p l e room_1 s m #[Value.ref b] below meth c H locs cells slots Q (F0 m 1196 ls [])) : W p l e room_1 s m #[Value.ref b] below meth c H locs cells slots Q (F0 m 762 ls []) := by
  obtain ⟨⟨hx, hb, hr, hml, hown, hts, hX, hbl, hlocks, hgv⟩, hL, ⟨hGX, hGM⟩, ⟨hKX, hKM⟩, ⟨sX, sM⟩, ⟨dXM, dMX⟩, ⟨mX, mM⟩⟩ := C
  obtain ⟨hP, hP2, hS⟩ := hw
  obtain ⟨r, σ', τ', eX, eM, hR'⟩ := q_film hR (xs (i + 1)) (xs (i + 2)) (xs (i + 3)) (xs (i + 4))
  refine lv_aload_n hx hb dl_762 rfl (lv_at hl 2 rfl) ?_
  refine law_arg (k := 1) hx hb hX hbl hS hL hi (by decide) (lv_at hl 3 rfl) (lv_at hl 0 rfl) dl_763 dl_764 (kv := 1) (by decide) dl_765 dl_766 dl_767 ?_
  refine law_arg (k := 2) hx hb hX hbl hS hL hi (by decide) (lv_at hl 3 rfl) (lv_at hl 0 rfl) dl_768 dl_769 (kv := 2) (by decide) dl_770 dl_771 dl_772 ?_
  refine law_arg (k := 3) hx hb hX hbl hS hL hi (by decide) (lv_at hl 3 rfl) (lv_at hl 0 rfl) dl_773 dl_774 (kv := 3) (by decide) dl_775 dl_776 dl_777 ?_
  refine law_arg (k := 4) hx hb hX hbl hS hL hi (by decide) (lv_at hl 3 rfl) (lv_at hl 0 rfl) dl_778 dl_779 (kv := 4) (by decide) dl_780 dl_781 dl_782 ?_
  refine law_run (G := GX) (G2 := GM) (σ := σ) (τ := τ) (σ1 := σ') (r0 := vI r) (id := 18) (d := 5) (g0 := 0) (as := [vI (xs (i + 1)), vI (xs (i + 2)), vI (xs (i + 3)), vI (xs (i + 4))]) (rest := []) hx hb hml hown hts hGX hGM hKX sX dMX (by decide) rfl (lk_X_film hGX eX) mX (okc trivial (okc trivial (okc trivial (okc trivial (fun _ h => absurd h List.not_mem_nil))))) ⟨rfl, rfl⟩ lj_87 (show _ = some 4 by decide +kernel) (by omega) hP hP2 hS hl.1 (Nat.le_of_ble_eq_true rfl) hcs dl_783 (fun H locs hP hP2 hS => ?_)
  refine W.eq (g2 := F0 m 786 ls [.int r]) rfl ?_
  refine lv_aload_n hx hb dl_786 rfl (lv_at hl 1 rfl) ?_
  refine law_arg (k := 1) hx hb hX hbl hS hL hi (by decide) (lv_at hl 3 rfl) (lv_at hl 0 rfl) dl_787 dl_788 (kv := 1) (by decide) dl_789 dl_790 dl_791 ?_
  refine law_arg (k := 2) hx hb hX hbl hS hL hi (by decide) (lv_at hl 3 rfl) (lv_at hl 0 rfl) dl_792 dl_793 (kv := 2) (by decide) dl_794 dl_795 dl_796 ?_
  refine law_arg (k := 3) hx hb hX hbl hS hL hi (by decide) (lv_at hl 3 rfl) (lv_at hl 0 rfl) dl_797 dl_798 (kv := 3) (by decide) dl_799 dl_800 dl_801 ?_
  refine law_arg (k := 4) hx hb hX hbl hS hL hi (by decide) (lv_at hl 3 rfl) (lv_at hl 0 rfl) dl_802 dl_803 (kv := 4) (by decide) dl_804 dl_805 dl_806 ?_
  refine law_run (G := GM) (G2 := GX) (σ := τ) (τ := σ') (σ1 := τ') (r0 := vI r) (id := 163) (d := 45) (g0 := 30) (as := [vI (xs (i + 1)), vI (xs (i + 2)), vI (xs (i + 3)), vI (xs (i + 4))]) (rest := [.int r]) hx hb hml hown hts hGM hGX hKM sM dXM (by decide) rfl (lk_M_film hGM eM) mM (okc trivial (okc trivial (okc trivial (okc trivial (fun _ h => absurd h List.not_mem_nil))))) ⟨rfl, rfl⟩ lj_90 (show _ = some 4 by decide +kernel) (by omega) hP2 hP hS hl.1 (Nat.le_of_ble_eq_true rfl) hcs dl_807 (fun H locs hP2 hP hS => ?_)
  refine W.eq (g2 := F0 m 810 ls [.int r, .int r]) rfl ?_
  exact lv_icmp_eq (tgt := 1196) hx hb dl_810 (by decide) (fun _ => K σ' τ' H locs hR' ⟨hP, hP2, hS⟩) (fun q => absurd rfl q)
theorem lcase_18 {p : Program} {l : Launch} {e : Env} {s : State} {m : MethodId} {below : List Frame} {meth : Method} {c : Code} {H : Heap} {locs : List Loc} {cells slots b L i : Nat} {Q : State → Prop} {ls : Array Slot} {xs : Nat → Int32} {GX GM : ab_Gt} {σ τ : Sg} (hcs : cells ≤ 600000 ∧ slots ≤ 7302250) (C : LawC p s m meth c b L xs GX GM) (hi : i + 6 ≤ L) (hR : Rel σ τ) (hw : LawW s GX GM σ τ H locs) (hl : lv_has ls 4 [(3, .int (nI i)), (2, .ref (gad GM 30 0)), (1, .ref (gad GX 0 0)), (0, .ref b)])
    (K : ∀ (σ' τ' : Sg) (H : Heap) (locs : List Loc), Rel σ' τ' → LawW s GX GM σ' τ' H locs → W p l e room_1 s m #[Value.ref b] below meth c H locs cells slots Q (F0 m 1196 ls [])) : W p l e room_1 s m #[Value.ref b] below meth c H locs cells slots Q (F0 m 815 ls []) := by
  obtain ⟨⟨hx, hb, hr, hml, hown, hts, hX, hbl, hlocks, hgv⟩, hL, ⟨hGX, hGM⟩, ⟨hKX, hKM⟩, ⟨sX, sM⟩, ⟨dXM, dMX⟩, ⟨mX, mM⟩⟩ := C
  obtain ⟨hP, hP2, hS⟩ := hw
  obtain ⟨r, σ', τ', eX, eM, hR'⟩ := q_drawn hR (xs (i + 1)) (xs (i + 2))
  refine lv_aload_n hx hb dl_815 rfl (lv_at hl 2 rfl) ?_
  refine law_arg (k := 1) hx hb hX hbl hS hL hi (by decide) (lv_at hl 3 rfl) (lv_at hl 0 rfl) dl_816 dl_817 (kv := 1) (by decide) dl_818 dl_819 dl_820 ?_
  refine law_arg (k := 2) hx hb hX hbl hS hL hi (by decide) (lv_at hl 3 rfl) (lv_at hl 0 rfl) dl_821 dl_822 (kv := 2) (by decide) dl_823 dl_824 dl_825 ?_
  refine law_run (G := GX) (G2 := GM) (σ := σ) (τ := τ) (σ1 := σ') (r0 := vI r) (id := 19) (d := 7) (g0 := 0) (as := [vI (xs (i + 1)), vI (xs (i + 2))]) (rest := []) hx hb hml hown hts hGX hGM hKX sX dMX (by decide) rfl (lk_X_drawn hGX eX) mX (okc trivial (okc trivial (fun _ h => absurd h List.not_mem_nil))) ⟨rfl, rfl⟩ lj_91 (show _ = some 2 by decide +kernel) (by omega) hP hP2 hS hl.1 (Nat.le_of_ble_eq_true rfl) hcs dl_826 (fun H locs hP hP2 hS => ?_)
  refine W.eq (g2 := F0 m 829 ls [.int r]) rfl ?_
  refine lv_aload_n hx hb dl_829 rfl (lv_at hl 1 rfl) ?_
  refine law_arg (k := 1) hx hb hX hbl hS hL hi (by decide) (lv_at hl 3 rfl) (lv_at hl 0 rfl) dl_830 dl_831 (kv := 1) (by decide) dl_832 dl_833 dl_834 ?_
  refine law_arg (k := 2) hx hb hX hbl hS hL hi (by decide) (lv_at hl 3 rfl) (lv_at hl 0 rfl) dl_835 dl_836 (kv := 2) (by decide) dl_837 dl_838 dl_839 ?_
  refine law_run (G := GM) (G2 := GX) (σ := τ) (τ := σ') (σ1 := τ') (r0 := vI r) (id := 165) (d := 47) (g0 := 30) (as := [vI (xs (i + 1)), vI (xs (i + 2))]) (rest := [.int r]) hx hb hml hown hts hGM hGX hKM sM dXM (by decide) rfl (lk_M_drawn hGM eM) mM (okc trivial (okc trivial (fun _ h => absurd h List.not_mem_nil))) ⟨rfl, rfl⟩ lj_94 (show _ = some 2 by decide +kernel) (by omega) hP2 hP hS hl.1 (Nat.le_of_ble_eq_true rfl) hcs dl_840 (fun H locs hP2 hP hS => ?_)
  refine W.eq (g2 := F0 m 843 ls [.int r, .int r]) rfl ?_
  exact lv_icmp_eq (tgt := 1196) hx hb dl_843 (by decide) (fun _ => K σ' τ' H locs hR' ⟨hP, hP2, hS⟩) (fun q => absurd rfl q)
theorem lcase_19 {p : Program} {l : Launch} {e : Env} {s : State} {m : MethodId} {below : List Frame} {meth : Method} {c : Code} {H : Heap} {locs : List Loc} {cells slots b L i : Nat} {Q : State → Prop} {ls : Array Slot} {xs : Nat → Int32} {GX GM : ab_Gt} {σ τ : Sg} (hcs : cells ≤ 600000 ∧ slots ≤ 7302250) (C : LawC p s m meth c b L xs GX GM) (hi : i + 6 ≤ L) (hR : Rel σ τ) (hw : LawW s GX GM σ τ H locs) (hl : lv_has ls 4 [(3, .int (nI i)), (2, .ref (gad GM 30 0)), (1, .ref (gad GX 0 0)), (0, .ref b)])
    (K : ∀ (σ' τ' : Sg) (H : Heap) (locs : List Loc), Rel σ' τ' → LawW s GX GM σ' τ' H locs → W p l e room_1 s m #[Value.ref b] below meth c H locs cells slots Q (F0 m 1196 ls [])) : W p l e room_1 s m #[Value.ref b] below meth c H locs cells slots Q (F0 m 848 ls []) := by
  obtain ⟨⟨hx, hb, hr, hml, hown, hts, hX, hbl, hlocks, hgv⟩, hL, ⟨hGX, hGM⟩, ⟨hKX, hKM⟩, ⟨sX, sM⟩, ⟨dXM, dMX⟩, ⟨mX, mM⟩⟩ := C
  obtain ⟨hP, hP2, hS⟩ := hw
  obtain ⟨r, σ', τ', eX, eM, hR'⟩ := q_chance hR (xs (i + 1)) (xs (i + 2)) (xs (i + 3)) (xs (i + 4)) (xs (i + 5))
  refine lv_aload_n hx hb dl_848 rfl (lv_at hl 2 rfl) ?_
  refine law_arg (k := 1) hx hb hX hbl hS hL hi (by decide) (lv_at hl 3 rfl) (lv_at hl 0 rfl) dl_849 dl_850 (kv := 1) (by decide) dl_851 dl_852 dl_853 ?_
  refine law_arg (k := 2) hx hb hX hbl hS hL hi (by decide) (lv_at hl 3 rfl) (lv_at hl 0 rfl) dl_854 dl_855 (kv := 2) (by decide) dl_856 dl_857 dl_858 ?_
  refine law_arg (k := 3) hx hb hX hbl hS hL hi (by decide) (lv_at hl 3 rfl) (lv_at hl 0 rfl) dl_859 dl_860 (kv := 3) (by decide) dl_861 dl_862 dl_863 ?_
  refine law_arg (k := 4) hx hb hX hbl hS hL hi (by decide) (lv_at hl 3 rfl) (lv_at hl 0 rfl) dl_864 dl_865 (kv := 4) (by decide) dl_866 dl_867 dl_868 ?_
  refine law_arg (k := 5) hx hb hX hbl hS hL hi (by decide) (lv_at hl 3 rfl) (lv_at hl 0 rfl) dl_869 dl_870 (kv := 5) (by decide) dl_871 dl_872 dl_873 ?_
  refine law_run (G := GX) (G2 := GM) (σ := σ) (τ := τ) (σ1 := σ') (r0 := vL r) (id := 20) (d := 7) (g0 := 0) (as := [vI (xs (i + 1)), vI (xs (i + 2)), vI (xs (i + 3)), vI (xs (i + 4)), vI (xs (i + 5))]) (rest := []) hx hb hml hown hts hGX hGM hKX sX dMX (by decide) rfl (lk_X_chance hGX eX) mX (okc trivial (okc trivial (okc trivial (okc trivial (okc trivial (fun _ h => absurd h List.not_mem_nil)))))) ⟨rfl, rfl⟩ lj_95 (show _ = some 5 by decide +kernel) (by omega) hP hP2 hS hl.1 (Nat.le_of_ble_eq_true rfl) hcs dl_874 (fun H locs hP hP2 hS => ?_)
  refine W.eq (g2 := F0 m 877 ls [.long r]) rfl ?_
  refine lv_aload_n hx hb dl_877 rfl (lv_at hl 1 rfl) ?_
  refine law_arg (k := 1) hx hb hX hbl hS hL hi (by decide) (lv_at hl 3 rfl) (lv_at hl 0 rfl) dl_878 dl_879 (kv := 1) (by decide) dl_880 dl_881 dl_882 ?_
  refine law_arg (k := 2) hx hb hX hbl hS hL hi (by decide) (lv_at hl 3 rfl) (lv_at hl 0 rfl) dl_883 dl_884 (kv := 2) (by decide) dl_885 dl_886 dl_887 ?_
  refine law_arg (k := 3) hx hb hX hbl hS hL hi (by decide) (lv_at hl 3 rfl) (lv_at hl 0 rfl) dl_888 dl_889 (kv := 3) (by decide) dl_890 dl_891 dl_892 ?_
  refine law_arg (k := 4) hx hb hX hbl hS hL hi (by decide) (lv_at hl 3 rfl) (lv_at hl 0 rfl) dl_893 dl_894 (kv := 4) (by decide) dl_895 dl_896 dl_897 ?_
  refine law_arg (k := 5) hx hb hX hbl hS hL hi (by decide) (lv_at hl 3 rfl) (lv_at hl 0 rfl) dl_898 dl_899 (kv := 5) (by decide) dl_900 dl_901 dl_902 ?_
  refine law_run (G := GM) (G2 := GX) (σ := τ) (τ := σ') (σ1 := τ') (r0 := vL r) (id := 166) (d := 47) (g0 := 30) (as := [vI (xs (i + 1)), vI (xs (i + 2)), vI (xs (i + 3)), vI (xs (i + 4)), vI (xs (i + 5))]) (rest := [.long r]) hx hb hml hown hts hGM hGX hKM sM dXM (by decide) rfl (lk_M_chance hGM eM) mM (okc trivial (okc trivial (okc trivial (okc trivial (okc trivial (fun _ h => absurd h List.not_mem_nil)))))) ⟨rfl, rfl⟩ lj_99 (show _ = some 5 by decide +kernel) (by omega) hP2 hP hS hl.1 (Nat.le_of_ble_eq_true rfl) hcs dl_903 (fun H locs hP2 hP hS => ?_)
  refine W.eq (g2 := F0 m 906 ls [.long r, .long r]) rfl ?_
  refine W.lcmp hx hb dl_906 ?_
  rw [lg_self]
  exact lv_if_eq (tgt := 1196) hx hb dl_907 (by decide) (fun _ => K σ' τ' H locs hR' ⟨hP, hP2, hS⟩) (fun q => absurd rfl q)
theorem lcase_20 {p : Program} {l : Launch} {e : Env} {s : State} {m : MethodId} {below : List Frame} {meth : Method} {c : Code} {H : Heap} {locs : List Loc} {cells slots b L i : Nat} {Q : State → Prop} {ls : Array Slot} {xs : Nat → Int32} {GX GM : ab_Gt} {σ τ : Sg} (hcs : cells ≤ 600000 ∧ slots ≤ 7302250) (C : LawC p s m meth c b L xs GX GM) (hi : i + 6 ≤ L) (hR : Rel σ τ) (hw : LawW s GX GM σ τ H locs) (hl : lv_has ls 4 [(3, .int (nI i)), (2, .ref (gad GM 30 0)), (1, .ref (gad GX 0 0)), (0, .ref b)])
    (K : ∀ (σ' τ' : Sg) (H : Heap) (locs : List Loc), Rel σ' τ' → LawW s GX GM σ' τ' H locs → W p l e room_1 s m #[Value.ref b] below meth c H locs cells slots Q (F0 m 1196 ls [])) : W p l e room_1 s m #[Value.ref b] below meth c H locs cells slots Q (F0 m 912 ls []) := by
  obtain ⟨⟨hx, hb, hr, hml, hown, hts, hX, hbl, hlocks, hgv⟩, hL, ⟨hGX, hGM⟩, ⟨hKX, hKM⟩, ⟨sX, sM⟩, ⟨dXM, dMX⟩, ⟨mX, mM⟩⟩ := C
  obtain ⟨hP, hP2, hS⟩ := hw
  obtain ⟨r, σ', τ', eX, eM, hR'⟩ := q_image hR
  refine lv_aload_n hx hb dl_912 rfl (lv_at hl 2 rfl) ?_
  refine law_run (G := GX) (G2 := GM) (σ := σ) (τ := τ) (σ1 := σ') (r0 := vI r) (id := 21) (d := 3) (g0 := 0) (as := []) (rest := []) hx hb hml hown hts hGX hGM hKX sX dMX (by decide) rfl (lk_X_image hGX eX) mX (fun _ h => absurd h List.not_mem_nil) ⟨rfl, rfl⟩ lj_100 (show _ = some 0 by decide +kernel) (by omega) hP hP2 hS hl.1 (Nat.le_of_ble_eq_true rfl) hcs dl_913 (fun H locs hP hP2 hS => ?_)
  refine W.eq (g2 := F0 m 916 ls [.int r]) rfl ?_
  refine lv_aload_n hx hb dl_916 rfl (lv_at hl 1 rfl) ?_
  refine law_run (G := GM) (G2 := GX) (σ := τ) (τ := σ') (σ1 := τ') (r0 := vI r) (id := 167) (d := 1) (g0 := 30) (as := []) (rest := [.int r]) hx hb hml hown hts hGM hGX hKM sM dXM (by decide) rfl (lk_M_image hGM eM) mM (fun _ h => absurd h List.not_mem_nil) ⟨rfl, rfl⟩ lj_103 (show _ = some 0 by decide +kernel) (by omega) hP2 hP hS hl.1 (Nat.le_of_ble_eq_true rfl) hcs dl_917 (fun H locs hP2 hP hS => ?_)
  refine W.eq (g2 := F0 m 920 ls [.int r, .int r]) rfl ?_
  exact lv_icmp_eq (tgt := 1196) hx hb dl_920 (by decide) (fun _ => K σ' τ' H locs hR' ⟨hP, hP2, hS⟩) (fun q => absurd rfl q)
theorem lcase_21 {p : Program} {l : Launch} {e : Env} {s : State} {m : MethodId} {below : List Frame} {meth : Method} {c : Code} {H : Heap} {locs : List Loc} {cells slots b L i : Nat} {Q : State → Prop} {ls : Array Slot} {xs : Nat → Int32} {GX GM : ab_Gt} {σ τ : Sg} (hcs : cells ≤ 600000 ∧ slots ≤ 7302250) (C : LawC p s m meth c b L xs GX GM) (hi : i + 6 ≤ L) (hR : Rel σ τ) (hw : LawW s GX GM σ τ H locs) (hl : lv_has ls 4 [(3, .int (nI i)), (2, .ref (gad GM 30 0)), (1, .ref (gad GX 0 0)), (0, .ref b)])
    (K : ∀ (σ' τ' : Sg) (H : Heap) (locs : List Loc), Rel σ' τ' → LawW s GX GM σ' τ' H locs → W p l e room_1 s m #[Value.ref b] below meth c H locs cells slots Q (F0 m 1196 ls [])) : W p l e room_1 s m #[Value.ref b] below meth c H locs cells slots Q (F0 m 925 ls []) := by
  obtain ⟨⟨hx, hb, hr, hml, hown, hts, hX, hbl, hlocks, hgv⟩, hL, ⟨hGX, hGM⟩, ⟨hKX, hKM⟩, ⟨sX, sM⟩, ⟨dXM, dMX⟩, ⟨mX, mM⟩⟩ := C
  obtain ⟨hP, hP2, hS⟩ := hw
  obtain ⟨r, σ', τ', eX, eM, hR'⟩ := q_back hR
  refine lv_aload_n hx hb dl_925 rfl (lv_at hl 2 rfl) ?_
  refine law_run (G := GX) (G2 := GM) (σ := σ) (τ := τ) (σ1 := σ') (r0 := vI r) (id := 22) (d := 3) (g0 := 0) (as := []) (rest := []) hx hb hml hown hts hGX hGM hKX sX dMX (by decide) rfl (lk_X_back hGX eX) mX (fun _ h => absurd h List.not_mem_nil) ⟨rfl, rfl⟩ lj_104 (show _ = some 0 by decide +kernel) (by omega) hP hP2 hS hl.1 (Nat.le_of_ble_eq_true rfl) hcs dl_926 (fun H locs hP hP2 hS => ?_)
  refine W.eq (g2 := F0 m 929 ls [.int r]) rfl ?_
  refine lv_aload_n hx hb dl_929 rfl (lv_at hl 1 rfl) ?_
  refine law_run (G := GM) (G2 := GX) (σ := τ) (τ := σ') (σ1 := τ') (r0 := vI r) (id := 168) (d := 1) (g0 := 30) (as := []) (rest := [.int r]) hx hb hml hown hts hGM hGX hKM sM dXM (by decide) rfl (lk_M_back hGM eM) mM (fun _ h => absurd h List.not_mem_nil) ⟨rfl, rfl⟩ lj_107 (show _ = some 0 by decide +kernel) (by omega) hP2 hP hS hl.1 (Nat.le_of_ble_eq_true rfl) hcs dl_930 (fun H locs hP2 hP hS => ?_)
  refine W.eq (g2 := F0 m 933 ls [.int r, .int r]) rfl ?_
  exact lv_icmp_eq (tgt := 1196) hx hb dl_933 (by decide) (fun _ => K σ' τ' H locs hR' ⟨hP, hP2, hS⟩) (fun q => absurd rfl q)
theorem lcase_22 {p : Program} {l : Launch} {e : Env} {s : State} {m : MethodId} {below : List Frame} {meth : Method} {c : Code} {H : Heap} {locs : List Loc} {cells slots b L i : Nat} {Q : State → Prop} {ls : Array Slot} {xs : Nat → Int32} {GX GM : ab_Gt} {σ τ : Sg} (hcs : cells ≤ 600000 ∧ slots ≤ 7302250) (C : LawC p s m meth c b L xs GX GM) (hi : i + 6 ≤ L) (hR : Rel σ τ) (hw : LawW s GX GM σ τ H locs) (hl : lv_has ls 4 [(3, .int (nI i)), (2, .ref (gad GM 30 0)), (1, .ref (gad GX 0 0)), (0, .ref b)])
    (K : ∀ (σ' τ' : Sg) (H : Heap) (locs : List Loc), Rel σ' τ' → LawW s GX GM σ' τ' H locs → W p l e room_1 s m #[Value.ref b] below meth c H locs cells slots Q (F0 m 1196 ls [])) : W p l e room_1 s m #[Value.ref b] below meth c H locs cells slots Q (F0 m 938 ls []) := by
  obtain ⟨⟨hx, hb, hr, hml, hown, hts, hX, hbl, hlocks, hgv⟩, hL, ⟨hGX, hGM⟩, ⟨hKX, hKM⟩, ⟨sX, sM⟩, ⟨dXM, dMX⟩, ⟨mX, mM⟩⟩ := C
  obtain ⟨hP, hP2, hS⟩ := hw
  obtain ⟨r, σ', τ', eX, eM, hR'⟩ := q_count hR (xs (i + 1))
  refine lv_aload_n hx hb dl_938 rfl (lv_at hl 2 rfl) ?_
  refine law_arg (k := 1) hx hb hX hbl hS hL hi (by decide) (lv_at hl 3 rfl) (lv_at hl 0 rfl) dl_939 dl_940 (kv := 1) (by decide) dl_941 dl_942 dl_943 ?_
  refine law_run (G := GX) (G2 := GM) (σ := σ) (τ := τ) (σ1 := σ') (r0 := vI r) (id := 23) (d := 2) (g0 := 0) (as := [vI (xs (i + 1))]) (rest := []) hx hb hml hown hts hGX hGM hKX sX dMX (by decide) rfl (lk_X_count hGX eX) mX (okc trivial (fun _ h => absurd h List.not_mem_nil)) ⟨rfl, rfl⟩ lj_108 (show _ = some 1 by decide +kernel) (by omega) hP hP2 hS hl.1 (Nat.le_of_ble_eq_true rfl) hcs dl_944 (fun H locs hP hP2 hS => ?_)
  refine W.eq (g2 := F0 m 947 ls [.int r]) rfl ?_
  refine lv_aload_n hx hb dl_947 rfl (lv_at hl 1 rfl) ?_
  refine law_arg (k := 1) hx hb hX hbl hS hL hi (by decide) (lv_at hl 3 rfl) (lv_at hl 0 rfl) dl_948 dl_949 (kv := 1) (by decide) dl_950 dl_951 dl_952 ?_
  refine law_run (G := GM) (G2 := GX) (σ := τ) (τ := σ') (σ1 := τ') (r0 := vI r) (id := 169) (d := 2) (g0 := 30) (as := [vI (xs (i + 1))]) (rest := [.int r]) hx hb hml hown hts hGM hGX hKM sM dXM (by decide) rfl (lk_M_count hGM eM) mM (okc trivial (fun _ h => absurd h List.not_mem_nil)) ⟨rfl, rfl⟩ lj_111 (show _ = some 1 by decide +kernel) (by omega) hP2 hP hS hl.1 (Nat.le_of_ble_eq_true rfl) hcs dl_953 (fun H locs hP2 hP hS => ?_)
  refine W.eq (g2 := F0 m 956 ls [.int r, .int r]) rfl ?_
  exact lv_icmp_eq (tgt := 1196) hx hb dl_956 (by decide) (fun _ => K σ' τ' H locs hR' ⟨hP, hP2, hS⟩) (fun q => absurd rfl q)
theorem lcase_23 {p : Program} {l : Launch} {e : Env} {s : State} {m : MethodId} {below : List Frame} {meth : Method} {c : Code} {H : Heap} {locs : List Loc} {cells slots b L i : Nat} {Q : State → Prop} {ls : Array Slot} {xs : Nat → Int32} {GX GM : ab_Gt} {σ τ : Sg} (hcs : cells ≤ 600000 ∧ slots ≤ 7302250) (C : LawC p s m meth c b L xs GX GM) (hi : i + 6 ≤ L) (hR : Rel σ τ) (hw : LawW s GX GM σ τ H locs) (hl : lv_has ls 4 [(3, .int (nI i)), (2, .ref (gad GM 30 0)), (1, .ref (gad GX 0 0)), (0, .ref b)])
    (K : ∀ (σ' τ' : Sg) (H : Heap) (locs : List Loc), Rel σ' τ' → LawW s GX GM σ' τ' H locs → W p l e room_1 s m #[Value.ref b] below meth c H locs cells slots Q (F0 m 1196 ls [])) : W p l e room_1 s m #[Value.ref b] below meth c H locs cells slots Q (F0 m 961 ls []) := by
  obtain ⟨⟨hx, hb, hr, hml, hown, hts, hX, hbl, hlocks, hgv⟩, hL, ⟨hGX, hGM⟩, ⟨hKX, hKM⟩, ⟨sX, sM⟩, ⟨dXM, dMX⟩, ⟨mX, mM⟩⟩ := C
  obtain ⟨hP, hP2, hS⟩ := hw
  obtain ⟨r, σ', τ', eX, eM, hR'⟩ := q_sheet hR (xs (i + 1)) (xs (i + 2)) (xs (i + 3))
  refine lv_aload_n hx hb dl_961 rfl (lv_at hl 2 rfl) ?_
  refine law_arg (k := 1) hx hb hX hbl hS hL hi (by decide) (lv_at hl 3 rfl) (lv_at hl 0 rfl) dl_962 dl_963 (kv := 1) (by decide) dl_964 dl_965 dl_966 ?_
  refine law_arg (k := 2) hx hb hX hbl hS hL hi (by decide) (lv_at hl 3 rfl) (lv_at hl 0 rfl) dl_967 dl_968 (kv := 2) (by decide) dl_969 dl_970 dl_971 ?_
  refine law_arg (k := 3) hx hb hX hbl hS hL hi (by decide) (lv_at hl 3 rfl) (lv_at hl 0 rfl) dl_972 dl_973 (kv := 3) (by decide) dl_974 dl_975 dl_976 ?_
  refine law_run (G := GX) (G2 := GM) (σ := σ) (τ := τ) (σ1 := σ') (r0 := vI r) (id := 24) (d := 2) (g0 := 0) (as := [vI (xs (i + 1)), vI (xs (i + 2)), vI (xs (i + 3))]) (rest := []) hx hb hml hown hts hGX hGM hKX sX dMX (by decide) rfl (lk_X_sheet hGX eX) mX (okc trivial (okc trivial (okc trivial (fun _ h => absurd h List.not_mem_nil)))) ⟨rfl, rfl⟩ lj_112 (show _ = some 3 by decide +kernel) (by omega) hP hP2 hS hl.1 (Nat.le_of_ble_eq_true rfl) hcs dl_977 (fun H locs hP hP2 hS => ?_)
  refine W.eq (g2 := F0 m 980 ls [.int r]) rfl ?_
  refine lv_aload_n hx hb dl_980 rfl (lv_at hl 1 rfl) ?_
  refine law_arg (k := 1) hx hb hX hbl hS hL hi (by decide) (lv_at hl 3 rfl) (lv_at hl 0 rfl) dl_981 dl_982 (kv := 1) (by decide) dl_983 dl_984 dl_985 ?_
  refine law_arg (k := 2) hx hb hX hbl hS hL hi (by decide) (lv_at hl 3 rfl) (lv_at hl 0 rfl) dl_986 dl_987 (kv := 2) (by decide) dl_988 dl_989 dl_990 ?_
  refine law_arg (k := 3) hx hb hX hbl hS hL hi (by decide) (lv_at hl 3 rfl) (lv_at hl 0 rfl) dl_991 dl_992 (kv := 3) (by decide) dl_993 dl_994 dl_995 ?_
  refine law_run (G := GM) (G2 := GX) (σ := τ) (τ := σ') (σ1 := τ') (r0 := vI r) (id := 171) (d := 3) (g0 := 30) (as := [vI (xs (i + 1)), vI (xs (i + 2)), vI (xs (i + 3))]) (rest := [.int r]) hx hb hml hown hts hGM hGX hKM sM dXM (by decide) rfl (lk_M_sheet hGM eM) mM (okc trivial (okc trivial (okc trivial (fun _ h => absurd h List.not_mem_nil)))) ⟨rfl, rfl⟩ lj_115 (show _ = some 3 by decide +kernel) (by omega) hP2 hP hS hl.1 (Nat.le_of_ble_eq_true rfl) hcs dl_996 (fun H locs hP2 hP hS => ?_)
  refine W.eq (g2 := F0 m 999 ls [.int r, .int r]) rfl ?_
  exact lv_icmp_eq (tgt := 1196) hx hb dl_999 (by decide) (fun _ => K σ' τ' H locs hR' ⟨hP, hP2, hS⟩) (fun q => absurd rfl q)
theorem lcase_24 {p : Program} {l : Launch} {e : Env} {s : State} {m : MethodId} {below : List Frame} {meth : Method} {c : Code} {H : Heap} {locs : List Loc} {cells slots b L i : Nat} {Q : State → Prop} {ls : Array Slot} {xs : Nat → Int32} {GX GM : ab_Gt} {σ τ : Sg} (hcs : cells ≤ 600000 ∧ slots ≤ 7302250) (C : LawC p s m meth c b L xs GX GM) (hi : i + 6 ≤ L) (hR : Rel σ τ) (hw : LawW s GX GM σ τ H locs) (hl : lv_has ls 4 [(3, .int (nI i)), (2, .ref (gad GM 30 0)), (1, .ref (gad GX 0 0)), (0, .ref b)])
    (K : ∀ (σ' τ' : Sg) (H : Heap) (locs : List Loc), Rel σ' τ' → LawW s GX GM σ' τ' H locs → W p l e room_1 s m #[Value.ref b] below meth c H locs cells slots Q (F0 m 1196 ls [])) : W p l e room_1 s m #[Value.ref b] below meth c H locs cells slots Q (F0 m 1004 ls []) := by
  obtain ⟨⟨hx, hb, hr, hml, hown, hts, hX, hbl, hlocks, hgv⟩, hL, ⟨hGX, hGM⟩, ⟨hKX, hKM⟩, ⟨sX, sM⟩, ⟨dXM, dMX⟩, ⟨mX, mM⟩⟩ := C
  obtain ⟨hP, hP2, hS⟩ := hw
  obtain ⟨r, σ', τ', eX, eM, hR'⟩ := q_cell hR (xs (i + 1)) (xs (i + 2)) (xs (i + 3))
  refine lv_aload_n hx hb dl_1004 rfl (lv_at hl 2 rfl) ?_
  refine law_arg (k := 1) hx hb hX hbl hS hL hi (by decide) (lv_at hl 3 rfl) (lv_at hl 0 rfl) dl_1005 dl_1006 (kv := 1) (by decide) dl_1007 dl_1008 dl_1009 ?_
  refine law_arg (k := 2) hx hb hX hbl hS hL hi (by decide) (lv_at hl 3 rfl) (lv_at hl 0 rfl) dl_1010 dl_1011 (kv := 2) (by decide) dl_1012 dl_1013 dl_1014 ?_
  refine law_arg (k := 3) hx hb hX hbl hS hL hi (by decide) (lv_at hl 3 rfl) (lv_at hl 0 rfl) dl_1015 dl_1016 (kv := 3) (by decide) dl_1017 dl_1018 dl_1019 ?_
  refine law_run (G := GX) (G2 := GM) (σ := σ) (τ := τ) (σ1 := σ') (r0 := vI r) (id := 25) (d := 3) (g0 := 0) (as := [vI (xs (i + 1)), vI (xs (i + 2)), vI (xs (i + 3))]) (rest := []) hx hb hml hown hts hGX hGM hKX sX dMX (by decide) rfl (lk_X_cell hGX eX) mX (okc trivial (okc trivial (okc trivial (fun _ h => absurd h List.not_mem_nil)))) ⟨rfl, rfl⟩ lj_116 (show _ = some 3 by decide +kernel) (by omega) hP hP2 hS hl.1 (Nat.le_of_ble_eq_true rfl) hcs dl_1020 (fun H locs hP hP2 hS => ?_)
  refine W.eq (g2 := F0 m 1023 ls [.int r]) rfl ?_
  refine lv_aload_n hx hb dl_1023 rfl (lv_at hl 1 rfl) ?_
  refine law_arg (k := 1) hx hb hX hbl hS hL hi (by decide) (lv_at hl 3 rfl) (lv_at hl 0 rfl) dl_1024 dl_1025 (kv := 1) (by decide) dl_1026 dl_1027 dl_1028 ?_
  refine law_arg (k := 2) hx hb hX hbl hS hL hi (by decide) (lv_at hl 3 rfl) (lv_at hl 0 rfl) dl_1029 dl_1030 (kv := 2) (by decide) dl_1031 dl_1032 dl_1033 ?_
  refine law_arg (k := 3) hx hb hX hbl hS hL hi (by decide) (lv_at hl 3 rfl) (lv_at hl 0 rfl) dl_1034 dl_1035 (kv := 3) (by decide) dl_1036 dl_1037 dl_1038 ?_
  refine law_run (G := GM) (G2 := GX) (σ := τ) (τ := σ') (σ1 := τ') (r0 := vI r) (id := 172) (d := 3) (g0 := 30) (as := [vI (xs (i + 1)), vI (xs (i + 2)), vI (xs (i + 3))]) (rest := [.int r]) hx hb hml hown hts hGM hGX hKM sM dXM (by decide) rfl (lk_M_cell hGM eM) mM (okc trivial (okc trivial (okc trivial (fun _ h => absurd h List.not_mem_nil)))) ⟨rfl, rfl⟩ lj_119 (show _ = some 3 by decide +kernel) (by omega) hP2 hP hS hl.1 (Nat.le_of_ble_eq_true rfl) hcs dl_1039 (fun H locs hP2 hP hS => ?_)
  refine W.eq (g2 := F0 m 1042 ls [.int r, .int r]) rfl ?_
  exact lv_icmp_eq (tgt := 1196) hx hb dl_1042 (by decide) (fun _ => K σ' τ' H locs hR' ⟨hP, hP2, hS⟩) (fun q => absurd rfl q)
theorem lcase_25 {p : Program} {l : Launch} {e : Env} {s : State} {m : MethodId} {below : List Frame} {meth : Method} {c : Code} {H : Heap} {locs : List Loc} {cells slots b L i : Nat} {Q : State → Prop} {ls : Array Slot} {xs : Nat → Int32} {GX GM : ab_Gt} {σ τ : Sg} (hcs : cells ≤ 600000 ∧ slots ≤ 7302250) (C : LawC p s m meth c b L xs GX GM) (hi : i + 6 ≤ L) (hR : Rel σ τ) (hw : LawW s GX GM σ τ H locs) (hl : lv_has ls 4 [(3, .int (nI i)), (2, .ref (gad GM 30 0)), (1, .ref (gad GX 0 0)), (0, .ref b)])
    (K : ∀ (σ' τ' : Sg) (H : Heap) (locs : List Loc), Rel σ' τ' → LawW s GX GM σ' τ' H locs → W p l e room_1 s m #[Value.ref b] below meth c H locs cells slots Q (F0 m 1196 ls [])) : W p l e room_1 s m #[Value.ref b] below meth c H locs cells slots Q (F0 m 1047 ls []) := by
  obtain ⟨⟨hx, hb, hr, hml, hown, hts, hX, hbl, hlocks, hgv⟩, hL, ⟨hGX, hGM⟩, ⟨hKX, hKM⟩, ⟨sX, sM⟩, ⟨dXM, dMX⟩, ⟨mX, mM⟩⟩ := C
  obtain ⟨hP, hP2, hS⟩ := hw
  obtain ⟨r, σ', τ', eX, eM, hR'⟩ := q_copy hR (xs (i + 1)) (xs (i + 2)) (xs (i + 3)) (xs (i + 4)) (xs (i + 5))
  refine lv_aload_n hx hb dl_1047 rfl (lv_at hl 2 rfl) ?_
  refine law_arg (k := 1) hx hb hX hbl hS hL hi (by decide) (lv_at hl 3 rfl) (lv_at hl 0 rfl) dl_1048 dl_1049 (kv := 1) (by decide) dl_1050 dl_1051 dl_1052 ?_
  refine law_arg (k := 2) hx hb hX hbl hS hL hi (by decide) (lv_at hl 3 rfl) (lv_at hl 0 rfl) dl_1053 dl_1054 (kv := 2) (by decide) dl_1055 dl_1056 dl_1057 ?_
  refine law_arg (k := 3) hx hb hX hbl hS hL hi (by decide) (lv_at hl 3 rfl) (lv_at hl 0 rfl) dl_1058 dl_1059 (kv := 3) (by decide) dl_1060 dl_1061 dl_1062 ?_
  refine law_arg (k := 4) hx hb hX hbl hS hL hi (by decide) (lv_at hl 3 rfl) (lv_at hl 0 rfl) dl_1063 dl_1064 (kv := 4) (by decide) dl_1065 dl_1066 dl_1067 ?_
  refine law_arg (k := 5) hx hb hX hbl hS hL hi (by decide) (lv_at hl 3 rfl) (lv_at hl 0 rfl) dl_1068 dl_1069 (kv := 5) (by decide) dl_1070 dl_1071 dl_1072 ?_
  refine law_run (G := GX) (G2 := GM) (σ := σ) (τ := τ) (σ1 := σ') (r0 := vI r) (id := 26) (d := 2) (g0 := 0) (as := [vI (xs (i + 1)), vI (xs (i + 2)), vI (xs (i + 3)), vI (xs (i + 4)), vI (xs (i + 5))]) (rest := []) hx hb hml hown hts hGX hGM hKX sX dMX (by decide) rfl (lk_X_copy hGX eX) mX (okc trivial (okc trivial (okc trivial (okc trivial (okc trivial (fun _ h => absurd h List.not_mem_nil)))))) ⟨rfl, rfl⟩ lj_120 (show _ = some 5 by decide +kernel) (by omega) hP hP2 hS hl.1 (Nat.le_of_ble_eq_true rfl) hcs dl_1073 (fun H locs hP hP2 hS => ?_)
  refine W.eq (g2 := F0 m 1076 ls [.int r]) rfl ?_
  refine lv_aload_n hx hb dl_1076 rfl (lv_at hl 1 rfl) ?_
  refine law_arg (k := 1) hx hb hX hbl hS hL hi (by decide) (lv_at hl 3 rfl) (lv_at hl 0 rfl) dl_1077 dl_1078 (kv := 1) (by decide) dl_1079 dl_1080 dl_1081 ?_
  refine law_arg (k := 2) hx hb hX hbl hS hL hi (by decide) (lv_at hl 3 rfl) (lv_at hl 0 rfl) dl_1082 dl_1083 (kv := 2) (by decide) dl_1084 dl_1085 dl_1086 ?_
  refine law_arg (k := 3) hx hb hX hbl hS hL hi (by decide) (lv_at hl 3 rfl) (lv_at hl 0 rfl) dl_1087 dl_1088 (kv := 3) (by decide) dl_1089 dl_1090 dl_1091 ?_
  refine law_arg (k := 4) hx hb hX hbl hS hL hi (by decide) (lv_at hl 3 rfl) (lv_at hl 0 rfl) dl_1092 dl_1093 (kv := 4) (by decide) dl_1094 dl_1095 dl_1096 ?_
  refine law_arg (k := 5) hx hb hX hbl hS hL hi (by decide) (lv_at hl 3 rfl) (lv_at hl 0 rfl) dl_1097 dl_1098 (kv := 5) (by decide) dl_1099 dl_1100 dl_1101 ?_
  refine law_run (G := GM) (G2 := GX) (σ := τ) (τ := σ') (σ1 := τ') (r0 := vI r) (id := 173) (d := 3) (g0 := 30) (as := [vI (xs (i + 1)), vI (xs (i + 2)), vI (xs (i + 3)), vI (xs (i + 4)), vI (xs (i + 5))]) (rest := [.int r]) hx hb hml hown hts hGM hGX hKM sM dXM (by decide) rfl (lk_M_copy hGM eM) mM (okc trivial (okc trivial (okc trivial (okc trivial (okc trivial (fun _ h => absurd h List.not_mem_nil)))))) ⟨rfl, rfl⟩ lj_124 (show _ = some 5 by decide +kernel) (by omega) hP2 hP hS hl.1 (Nat.le_of_ble_eq_true rfl) hcs dl_1102 (fun H locs hP2 hP hS => ?_)
  refine W.eq (g2 := F0 m 1105 ls [.int r, .int r]) rfl ?_
  exact lv_icmp_eq (tgt := 1196) hx hb dl_1105 (by decide) (fun _ => K σ' τ' H locs hR' ⟨hP, hP2, hS⟩) (fun q => absurd rfl q)
theorem lcase_26 {p : Program} {l : Launch} {e : Env} {s : State} {m : MethodId} {below : List Frame} {meth : Method} {c : Code} {H : Heap} {locs : List Loc} {cells slots b L i : Nat} {Q : State → Prop} {ls : Array Slot} {xs : Nat → Int32} {GX GM : ab_Gt} {σ τ : Sg} (hcs : cells ≤ 600000 ∧ slots ≤ 7302250) (C : LawC p s m meth c b L xs GX GM) (hi : i + 6 ≤ L) (hR : Rel σ τ) (hw : LawW s GX GM σ τ H locs) (hl : lv_has ls 4 [(3, .int (nI i)), (2, .ref (gad GM 30 0)), (1, .ref (gad GX 0 0)), (0, .ref b)])
    (K : ∀ (σ' τ' : Sg) (H : Heap) (locs : List Loc), Rel σ' τ' → LawW s GX GM σ' τ' H locs → W p l e room_1 s m #[Value.ref b] below meth c H locs cells slots Q (F0 m 1196 ls [])) : W p l e room_1 s m #[Value.ref b] below meth c H locs cells slots Q (F0 m 1110 ls []) := by
  obtain ⟨⟨hx, hb, hr, hml, hown, hts, hX, hbl, hlocks, hgv⟩, hL, ⟨hGX, hGM⟩, ⟨hKX, hKM⟩, ⟨sX, sM⟩, ⟨dXM, dMX⟩, ⟨mX, mM⟩⟩ := C
  obtain ⟨hP, hP2, hS⟩ := hw
  obtain ⟨r, σ', τ', eX, eM, hR'⟩ := q_coats hR (xs (i + 1)) (xs (i + 2)) (xs (i + 3)) (xs (i + 4))
  refine lv_aload_n hx hb dl_1110 rfl (lv_at hl 2 rfl) ?_
  refine law_arg (k := 1) hx hb hX hbl hS hL hi (by decide) (lv_at hl 3 rfl) (lv_at hl 0 rfl) dl_1111 dl_1112 (kv := 1) (by decide) dl_1113 dl_1114 dl_1115 ?_
  refine law_arg (k := 2) hx hb hX hbl hS hL hi (by decide) (lv_at hl 3 rfl) (lv_at hl 0 rfl) dl_1116 dl_1117 (kv := 2) (by decide) dl_1118 dl_1119 dl_1120 ?_
  refine law_arg (k := 3) hx hb hX hbl hS hL hi (by decide) (lv_at hl 3 rfl) (lv_at hl 0 rfl) dl_1121 dl_1122 (kv := 3) (by decide) dl_1123 dl_1124 dl_1125 ?_
  refine law_arg (k := 4) hx hb hX hbl hS hL hi (by decide) (lv_at hl 3 rfl) (lv_at hl 0 rfl) dl_1126 dl_1127 (kv := 4) (by decide) dl_1128 dl_1129 dl_1130 ?_
  refine law_run (G := GX) (G2 := GM) (σ := σ) (τ := τ) (σ1 := σ') (r0 := vI r) (id := 27) (d := 3) (g0 := 0) (as := [vI (xs (i + 1)), vI (xs (i + 2)), vI (xs (i + 3)), vI (xs (i + 4))]) (rest := []) hx hb hml hown hts hGX hGM hKX sX dMX (by decide) rfl (lk_X_coats hGX eX) mX (okc trivial (okc trivial (okc trivial (okc trivial (fun _ h => absurd h List.not_mem_nil))))) ⟨rfl, rfl⟩ lj_125 (show _ = some 4 by decide +kernel) (by omega) hP hP2 hS hl.1 (Nat.le_of_ble_eq_true rfl) hcs dl_1131 (fun H locs hP hP2 hS => ?_)
  refine W.eq (g2 := F0 m 1134 ls [.int r]) rfl ?_
  refine lv_aload_n hx hb dl_1134 rfl (lv_at hl 1 rfl) ?_
  refine law_arg (k := 1) hx hb hX hbl hS hL hi (by decide) (lv_at hl 3 rfl) (lv_at hl 0 rfl) dl_1135 dl_1136 (kv := 1) (by decide) dl_1137 dl_1138 dl_1139 ?_
  refine law_arg (k := 2) hx hb hX hbl hS hL hi (by decide) (lv_at hl 3 rfl) (lv_at hl 0 rfl) dl_1140 dl_1141 (kv := 2) (by decide) dl_1142 dl_1143 dl_1144 ?_
  refine law_arg (k := 3) hx hb hX hbl hS hL hi (by decide) (lv_at hl 3 rfl) (lv_at hl 0 rfl) dl_1145 dl_1146 (kv := 3) (by decide) dl_1147 dl_1148 dl_1149 ?_
  refine law_arg (k := 4) hx hb hX hbl hS hL hi (by decide) (lv_at hl 3 rfl) (lv_at hl 0 rfl) dl_1150 dl_1151 (kv := 4) (by decide) dl_1152 dl_1153 dl_1154 ?_
  refine law_run (G := GM) (G2 := GX) (σ := τ) (τ := σ') (σ1 := τ') (r0 := vI r) (id := 174) (d := 3) (g0 := 30) (as := [vI (xs (i + 1)), vI (xs (i + 2)), vI (xs (i + 3)), vI (xs (i + 4))]) (rest := [.int r]) hx hb hml hown hts hGM hGX hKM sM dXM (by decide) rfl (lk_M_coats hGM eM) mM (okc trivial (okc trivial (okc trivial (okc trivial (fun _ h => absurd h List.not_mem_nil))))) ⟨rfl, rfl⟩ lj_128 (show _ = some 4 by decide +kernel) (by omega) hP2 hP hS hl.1 (Nat.le_of_ble_eq_true rfl) hcs dl_1155 (fun H locs hP2 hP hS => ?_)
  refine W.eq (g2 := F0 m 1158 ls [.int r, .int r]) rfl ?_
  exact lv_icmp_eq (tgt := 1196) hx hb dl_1158 (by decide) (fun _ => K σ' τ' H locs hR' ⟨hP, hP2, hS⟩) (fun q => absurd rfl q)
theorem lcase_27 {p : Program} {l : Launch} {e : Env} {s : State} {m : MethodId} {below : List Frame} {meth : Method} {c : Code} {H : Heap} {locs : List Loc} {cells slots b L i : Nat} {Q : State → Prop} {ls : Array Slot} {xs : Nat → Int32} {GX GM : ab_Gt} {σ τ : Sg} (hcs : cells ≤ 600000 ∧ slots ≤ 7302250) (C : LawC p s m meth c b L xs GX GM) (hi : i + 6 ≤ L) (hR : Rel σ τ) (hw : LawW s GX GM σ τ H locs) (hl : lv_has ls 4 [(3, .int (nI i)), (2, .ref (gad GM 30 0)), (1, .ref (gad GX 0 0)), (0, .ref b)])
    (K : ∀ (σ' τ' : Sg) (H : Heap) (locs : List Loc), Rel σ' τ' → LawW s GX GM σ' τ' H locs → W p l e room_1 s m #[Value.ref b] below meth c H locs cells slots Q (F0 m 1196 ls [])) : W p l e room_1 s m #[Value.ref b] below meth c H locs cells slots Q (F0 m 1163 ls []) := by
  obtain ⟨⟨hx, hb, hr, hml, hown, hts, hX, hbl, hlocks, hgv⟩, hL, ⟨hGX, hGM⟩, ⟨hKX, hKM⟩, ⟨sX, sM⟩, ⟨dXM, dMX⟩, ⟨mX, mM⟩⟩ := C
  obtain ⟨hP, hP2, hS⟩ := hw
  obtain ⟨r, σ', τ', eX, eM, hR'⟩ := q_taken hR (xs (i + 1)) (xs (i + 2))
  refine lv_aload_n hx hb dl_1163 rfl (lv_at hl 2 rfl) ?_
  refine law_arg (k := 1) hx hb hX hbl hS hL hi (by decide) (lv_at hl 3 rfl) (lv_at hl 0 rfl) dl_1164 dl_1165 (kv := 1) (by decide) dl_1166 dl_1167 dl_1168 ?_
  refine law_arg (k := 2) hx hb hX hbl hS hL hi (by decide) (lv_at hl 3 rfl) (lv_at hl 0 rfl) dl_1169 dl_1170 (kv := 2) (by decide) dl_1171 dl_1172 dl_1173 ?_
  refine law_run (G := GX) (G2 := GM) (σ := σ) (τ := τ) (σ1 := σ') (r0 := vI r) (id := 28) (d := 2) (g0 := 0) (as := [vI (xs (i + 1)), vI (xs (i + 2))]) (rest := []) hx hb hml hown hts hGX hGM hKX sX dMX (by decide) rfl (lk_X_taken hGX eX) mX (okc trivial (okc trivial (fun _ h => absurd h List.not_mem_nil))) ⟨rfl, rfl⟩ lj_129 (show _ = some 2 by decide +kernel) (by omega) hP hP2 hS hl.1 (Nat.le_of_ble_eq_true rfl) hcs dl_1174 (fun H locs hP hP2 hS => ?_)
  refine W.eq (g2 := F0 m 1177 ls [.int r]) rfl ?_
  refine lv_aload_n hx hb dl_1177 rfl (lv_at hl 1 rfl) ?_
  refine law_arg (k := 1) hx hb hX hbl hS hL hi (by decide) (lv_at hl 3 rfl) (lv_at hl 0 rfl) dl_1178 dl_1179 (kv := 1) (by decide) dl_1180 dl_1181 dl_1182 ?_
  refine law_arg (k := 2) hx hb hX hbl hS hL hi (by decide) (lv_at hl 3 rfl) (lv_at hl 0 rfl) dl_1183 dl_1184 (kv := 2) (by decide) dl_1185 dl_1186 dl_1187 ?_
  refine law_run (G := GM) (G2 := GX) (σ := τ) (τ := σ') (σ1 := τ') (r0 := vI r) (id := 176) (d := 3) (g0 := 30) (as := [vI (xs (i + 1)), vI (xs (i + 2))]) (rest := [.int r]) hx hb hml hown hts hGM hGX hKM sM dXM (by decide) rfl (lk_M_taken hGM eM) mM (okc trivial (okc trivial (fun _ h => absurd h List.not_mem_nil))) ⟨rfl, rfl⟩ lj_132 (show _ = some 2 by decide +kernel) (by omega) hP2 hP hS hl.1 (Nat.le_of_ble_eq_true rfl) hcs dl_1188 (fun H locs hP2 hP hS => ?_)
  refine W.eq (g2 := F0 m 1191 ls [.int r, .int r]) rfl ?_
  exact lv_icmp_eq (tgt := 1196) hx hb dl_1191 (by decide) (fun _ => K σ' τ' H locs hR' ⟨hP, hP2, hS⟩) (fun q => absurd rfl q)
