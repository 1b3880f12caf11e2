def ab_cd (c : Nat) (x y : Int32) : Prop := match c with
  | 0 => x = y
  | 1 => ¬ x = y
  | 2 => x < y
  | 3 => y ≤ x
  | 4 => y < x
  | _ => x ≤ y
theorem ab_cnd_or {R : Type} {x y : Int32} {A B : Option R} {res : R} : ∀ {c : Nat}, ab_cnd c x y A B = some res → (ab_cd c x y ∧ A = some res) ∨ (¬ ab_cd c x y ∧ B = some res)
  | 0, h => by
    change (if x = y then A else B) = some res at h
    split at h
    · exact Or.inl ⟨‹_›, h⟩
    · exact Or.inr ⟨‹_›, h⟩
  | 1, h => by
    change (if x = y then B else A) = some res at h
    split at h
    · exact Or.inr ⟨fun q => q ‹_›, h⟩
    · exact Or.inl ⟨‹_›, h⟩
  | 2, h => by
    change (if x < y then A else B) = some res at h
    split at h
    · exact Or.inl ⟨‹_›, h⟩
    · exact Or.inr ⟨‹_›, h⟩
  | 3, h => by
    change (if x < y then B else A) = some res at h
    split at h
    · rename_i q
      exact Or.inr ⟨fun q2 => Int32.not_lt.mpr q2 q, h⟩
    · rename_i q
      exact Or.inl ⟨Int32.not_lt.mp q, h⟩
  | 4, h => by
    change (if y < x then A else B) = some res at h
    split at h
    · exact Or.inl ⟨‹_›, h⟩
    · exact Or.inr ⟨‹_›, h⟩
  | n + 5, h => by
    change (if y < x then B else A) = some res at h
    split at h
    · rename_i q
      exact Or.inr ⟨fun q2 => Int32.not_lt.mpr q2 q, h⟩
    · rename_i q
      exact Or.inl ⟨Int32.not_lt.mp q, h⟩
def ab_c40 (i : Instr) (n pc t : Nat) : Bool := match i with
  | .goto f => n == 3 && ((pc : Int) + f == (t : Int))
  | _ => false
def ab_c41 (i : Instr) (n pc c t : Nat) : Bool := match i with
  | .ifCond z f => n == 3 && ab_cc z == c && ((pc : Int) + f == (t : Int))
  | _ => false
def ab_c42 (i : Instr) (n pc c t : Nat) : Bool := match i with
  | .if_icmp z f => n == 3 && ab_cc z == c && ((pc : Int) + f == (t : Int))
  | _ => false
def ab_c43 (i : Instr) (pc d : Nat) (ts : List (Int × Nat)) : Bool := match i with
  | .tableswitch f lo hi fs => ((pc : Int) + f == (d : Int)) && decide (-1000 < lo) && decide (hi < 1000) && hi + 1 == lo + (fs.toList.length : Int) && ab_swT pc fs.toList lo ts
  | .lookupswitch f ps => ((pc : Int) + f == (d : Int)) && (ps.toList.zip (ps.toList.drop 1)).all (fun (a, next) => decide (a.1 < next.1)) && ab_swL pc ps.toList ts
  | _ => false
def ab_c45 (i : Instr) (t : Nat) : Bool := match i with
  | .ireturn => t == 1 || t == 3
  | .lreturn => t == 2
  | .return_ => t == 0
  | _ => false
theorem r_40 {l : Launch} {G : ab_Gt} {id d pc a b : Nat} {v : AV} {ts : List (Int × Nat)} {L st : List AV} {σ σ2 : Sg} {r : AV} (hc : ab_chk (ab_mo id) (ab_mb id) (ab_ml id) pc (40, a, b, v, ts) = true) (k : ab_Ret l G id d a L st σ r σ2) : ab_Ret l G id d pc L st σ r σ2 := by
  obtain ⟨i, n, hd, hn, hc⟩ := ab_chk_inv hc
  change ab_c40 i n pc a = true at hc
  unfold ab_c40 at hc
  split at hc
  · rw [Bool.and_eq_true] at hc
    obtain ⟨h3, ht⟩ := hc
    have h3 : n = 3 := by simpa using h3
    subst h3
    intro p e R s m args below meth c cells slots H locs ls C hL oL oS hP hS
    exact lv_goto C.1 C.2.1 hd (by simpa using ht) (k p e R s m args below meth c cells slots H locs ls C hL oL oS hP hS)
  · cases hc
theorem r_41 {l : Launch} {G : ab_Gt} {id d pc a b : Nat} {v : AV} {ts : List (Int × Nat)} {L st : List AV} {σ σ2 : Sg} {r : AV} {x : Int32} (hc : ab_chk (ab_mo id) (ab_mb id) (ab_ml id) pc (41, a, b, v, ts) = true) (k : (ab_cd a x 0 ∧ ab_Ret l G id d b L st σ r σ2) ∨ (¬ ab_cd a x 0 ∧ ab_Ret l G id d (pc + ab_ln (ab_mb id) pc) L st σ r σ2)) : ab_Ret l G id d pc L (vI x :: st) σ r σ2 := by
  obtain ⟨i, n, hd, hn, hc⟩ := ab_chk_inv hc
  rw [hn] at k
  change ab_c41 i n pc a b = true at hc
  unfold ab_c41 at hc
  split at hc
  · rename_i z f
    rw [Bool.and_eq_true, Bool.and_eq_true] at hc
    obtain ⟨⟨h3, hz⟩, ht⟩ := hc
    have h3 : n = 3 := by simpa using h3
    subst h3
    have hz : ab_cc z = a := by simpa using hz
    subst hz
    have ht : (pc : Int) + f = (b : Int) := by simpa using ht
    intro p e R s m args below meth c cells slots H locs ls C hL oL oS hP hS
    have oS' := okt oS
    cases z with
    | eq =>
      rcases k with ⟨q, k⟩ | ⟨q, k⟩
      · exact lv_if_eq C.1 C.2.1 hd ht (fun _ => k p e R s m args below meth c cells slots H locs ls C hL oL oS' hP hS) (fun h => absurd q h)
      · exact lv_if_eq C.1 C.2.1 hd ht (fun h => absurd h q) (fun _ => k p e R s m args below meth c cells slots H locs ls C hL oL oS' hP hS)
    | ne =>
      rcases k with ⟨q, k⟩ | ⟨q, k⟩
      · exact lv_if_ne C.1 C.2.1 hd ht (fun _ => k p e R s m args below meth c cells slots H locs ls C hL oL oS' hP hS) (fun h => absurd h q)
      · exact lv_if_ne C.1 C.2.1 hd ht (fun h => absurd h q) (fun _ => k p e R s m args below meth c cells slots H locs ls C hL oL oS' hP hS)
    | lt =>
      rcases k with ⟨q, k⟩ | ⟨q, k⟩
      · exact lv_if_lt C.1 C.2.1 hd ht (fun _ => k p e R s m args below meth c cells slots H locs ls C hL oL oS' hP hS) (fun h => absurd q h)
      · exact lv_if_lt C.1 C.2.1 hd ht (fun h => absurd h q) (fun _ => k p e R s m args below meth c cells slots H locs ls C hL oL oS' hP hS)
    | ge =>
      rcases k with ⟨q, k⟩ | ⟨q, k⟩
      · exact lv_if_ge C.1 C.2.1 hd ht (fun _ => k p e R s m args below meth c cells slots H locs ls C hL oL oS' hP hS) (fun h => absurd q h)
      · exact lv_if_ge C.1 C.2.1 hd ht (fun h => absurd h q) (fun _ => k p e R s m args below meth c cells slots H locs ls C hL oL oS' hP hS)
    | gt =>
      rcases k with ⟨q, k⟩ | ⟨q, k⟩
      · exact lv_if_gt C.1 C.2.1 hd ht (fun _ => k p e R s m args below meth c cells slots H locs ls C hL oL oS' hP hS) (fun h => absurd q h)
      · exact lv_if_gt C.1 C.2.1 hd ht (fun h => absurd h q) (fun _ => k p e R s m args below meth c cells slots H locs ls C hL oL oS' hP hS)
    | le =>
      rcases k with ⟨q, k⟩ | ⟨q, k⟩
      · exact lv_if_le C.1 C.2.1 hd ht (fun _ => k p e R s m args below meth c cells slots H locs ls C hL oL oS' hP hS) (fun h => absurd q h)
      · exact lv_if_le C.1 C.2.1 hd ht (fun h => absurd h q) (fun _ => k p e R s m args below meth c cells slots H locs ls C hL oL oS' hP hS)
  · cases hc
theorem r_42 {l : Launch} {G : ab_Gt} {id d pc a b : Nat} {v : AV} {ts : List (Int × Nat)} {L st : List AV} {σ σ2 : Sg} {r : AV} {x y : Int32} (hc : ab_chk (ab_mo id) (ab_mb id) (ab_ml id) pc (42, a, b, v, ts) = true) (k : (ab_cd a x y ∧ ab_Ret l G id d b L st σ r σ2) ∨ (¬ ab_cd a x y ∧ ab_Ret l G id d (pc + ab_ln (ab_mb id) pc) L st σ r σ2)) : ab_Ret l G id d pc L (vI y :: vI x :: st) σ r σ2 := by
  obtain ⟨i, n, hd, hn, hc⟩ := ab_chk_inv hc
  rw [hn] at k
  change ab_c42 i n pc a b = true at hc
  unfold ab_c42 at hc
  split at hc
  · rename_i z f
    rw [Bool.and_eq_true, Bool.and_eq_true] at hc
    obtain ⟨⟨h3, hz⟩, ht⟩ := hc
    have h3 : n = 3 := by simpa using h3
    subst h3
    have hz : ab_cc z = a := by simpa using hz
    subst hz
    have ht : (pc : Int) + f = (b : Int) := by simpa using ht
    intro p e R s m args below meth c cells slots H locs ls C hL oL oS hP hS
    have oS' := okt (okt oS)
    cases z with
    | eq =>
      rcases k with ⟨q, k⟩ | ⟨q, k⟩
      · exact lv_icmp_eq C.1 C.2.1 hd ht (fun _ => k p e R s m args below meth c cells slots H locs ls C hL oL oS' hP hS) (fun h => absurd q h)
      · exact lv_icmp_eq C.1 C.2.1 hd ht (fun h => absurd h q) (fun _ => k p e R s m args below meth c cells slots H locs ls C hL oL oS' hP hS)
    | ne =>
      rcases k with ⟨q, k⟩ | ⟨q, k⟩
      · exact lv_icmp_ne C.1 C.2.1 hd ht (fun _ => k p e R s m args below meth c cells slots H locs ls C hL oL oS' hP hS) (fun h => absurd h q)
      · exact lv_icmp_ne C.1 C.2.1 hd ht (fun h => absurd h q) (fun _ => k p e R s m args below meth c cells slots H locs ls C hL oL oS' hP hS)
    | lt =>
      rcases k with ⟨q, k⟩ | ⟨q, k⟩
      · exact lv_icmp_lt C.1 C.2.1 hd ht (fun _ => k p e R s m args below meth c cells slots H locs ls C hL oL oS' hP hS) (fun h => absurd q h)
      · exact lv_icmp_lt C.1 C.2.1 hd ht (fun h => absurd h q) (fun _ => k p e R s m args below meth c cells slots H locs ls C hL oL oS' hP hS)
    | ge =>
      rcases k with ⟨q, k⟩ | ⟨q, k⟩
      · exact lv_icmp_ge C.1 C.2.1 hd ht (fun _ => k p e R s m args below meth c cells slots H locs ls C hL oL oS' hP hS) (fun h => absurd q h)
      · exact lv_icmp_ge C.1 C.2.1 hd ht (fun h => absurd h q) (fun _ => k p e R s m args below meth c cells slots H locs ls C hL oL oS' hP hS)
    | gt =>
      rcases k with ⟨q, k⟩ | ⟨q, k⟩
      · exact lv_icmp_gt C.1 C.2.1 hd ht (fun _ => k p e R s m args below meth c cells slots H locs ls C hL oL oS' hP hS) (fun h => absurd q h)
      · exact lv_icmp_gt C.1 C.2.1 hd ht (fun h => absurd h q) (fun _ => k p e R s m args below meth c cells slots H locs ls C hL oL oS' hP hS)
    | le =>
      rcases k with ⟨q, k⟩ | ⟨q, k⟩
      · exact lv_icmp_le C.1 C.2.1 hd ht (fun _ => k p e R s m args below meth c cells slots H locs ls C hL oL oS' hP hS) (fun h => absurd q h)
      · exact lv_icmp_le C.1 C.2.1 hd ht (fun h => absurd h q) (fun _ => k p e R s m args below meth c cells slots H locs ls C hL oL oS' hP hS)
  · cases hc
def ab_swt (x : Int32) (d : Nat) : List (Int × Nat) → Nat
  | [] => d
  | (c, t) :: r => if x = Int32.ofInt c then t else ab_swt x d r
theorem ab_sw_eq {R : Type} (x : Int32) (j : Nat → Option R) (d : Nat) (ts : List (Int × Nat)) : ab_sw x j d ts = j (ab_swt x d ts) := by
  induction ts with
  | nil => rfl
  | cons q r ih =>
    obtain ⟨c, t⟩ := q
    unfold ab_sw ab_swt
    split
    · rfl
    · exact ih
theorem ab_ofI {x : Int32} {c : Int} (h1 : -1000 < c) (h2 : c < 1000) : x = Int32.ofInt c ↔ x.toInt = c := by
  have h3 : (Int32.ofInt c).toInt = c := Int32.toInt_ofInt_of_le (by omega) (by omega)
  constructor
  · intro h
    rw [h, h3]
  · intro h
    rw [← Int32.ofInt_toInt x, h]
theorem ab_swT_in {pc d : Nat} {x : Int32} : ∀ (fs : List Int) (lo : Int) (ts : List (Int × Nat)), ab_swT pc fs lo ts = true → -1000 < lo → lo + (fs.length : Int) ≤ 1000 → (¬ x.toInt < lo → x.toInt < lo + (fs.length : Int) → ∃ f, fs[(x.toInt - lo).toNat]? = some f ∧ (pc : Int) + f = (ab_swt x d ts : Int)) ∧ ((x.toInt < lo ∨ lo + (fs.length : Int) ≤ x.toInt) → ab_swt x d ts = d) := by
  intro fs
  induction fs with
  | nil =>
    intro lo ts h h1 h2
    cases ts with
    | nil =>
      refine ⟨fun a b => ?_, fun _ => rfl⟩
      simp only [List.length_nil] at b
      omega
    | cons q r => cases h
  | cons f fs ih =>
    intro lo ts h h1 h2
    cases ts with
    | nil => cases h
    | cons q r =>
      obtain ⟨c, t⟩ := q
      unfold ab_swT at h
      rw [Bool.and_eq_true, Bool.and_eq_true] at h
      obtain ⟨⟨e1, e2⟩, e3⟩ := h
      have e1 : c = lo := by simpa using e1
      have e2 : (pc : Int) + f = (t : Int) := by simpa using e2
      subst e1
      simp only [List.length_cons] at h2 ⊢
      obtain ⟨i1, i2⟩ := ih (c + 1) r e3 (by omega) (by omega)
      have hx : x = Int32.ofInt c ↔ x.toInt = c := ab_ofI h1 (by omega)
      refine ⟨fun a b => ?_, fun a => ?_⟩
      · by_cases hxc : x.toInt = c
        · refine ⟨f, ?_, ?_⟩
          · rw [hxc, Int.sub_self]; rfl
          · unfold ab_swt
            rw [if_pos (hx.mpr hxc)]
            exact e2
        · obtain ⟨g, g1, g2⟩ := i1 (by omega) (by omega)
          refine ⟨g, ?_, ?_⟩
          · have : (x.toInt - c).toNat = (x.toInt - (c + 1)).toNat + 1 := by omega
            rw [this]
            exact g1
          · unfold ab_swt
            rw [if_neg (fun q => hxc (hx.mp q))]
            exact g2
      · unfold ab_swt
        rw [if_neg (fun q => by have := hx.mp q; omega)]
        exact i2 (by omega)
theorem ab_swL_at {pc d : Nat} {x : Int32} {f0 : Int} (h0 : (pc : Int) + f0 = (d : Int)) : ∀ (ps : List (Int × Int)) (ts : List (Int × Nat)), ab_swL pc ps ts = true → (pc : Int) + Op.lookupswitch.offset ps f0 x.toInt = (ab_swt x d ts : Int) := by
  intro ps
  induction ps with
  | nil =>
    intro ts h
    cases ts with
    | nil => exact h0
    | cons q r => cases h
  | cons p ps ih =>
    intro ts h
    obtain ⟨z, f⟩ := p
    cases ts with
    | nil => cases h
    | cons q r =>
      obtain ⟨c, t⟩ := q
      unfold ab_swL at h
      simp only [Bool.and_eq_true, beq_iff_eq, decide_eq_true_eq] at h
      obtain ⟨⟨⟨⟨rfl, h1⟩, h2⟩, h3⟩, h4⟩ := h
      have hx : x = Int32.ofInt c ↔ x.toInt = c := ab_ofI h1 h2
      rw [Op.lookupswitch.offset_cons]
      unfold ab_swt
      by_cases hxc : x.toInt = c
      · rw [if_pos hxc.symm, if_pos (hx.mpr hxc)]
        exact h3
      · rw [if_neg (fun q => hxc q.symm), if_neg (fun q => hxc (hx.mp q))]
        exact ih r h4
theorem r_43 {l : Launch} {G : ab_Gt} {id d pc a b : Nat} {v : AV} {ts : List (Int × Nat)} {L st : List AV} {σ σ2 : Sg} {r : AV} {x : Int32} (hc : ab_chk (ab_mo id) (ab_mb id) (ab_ml id) pc (43, a, b, v, ts) = true) (k : ab_Ret l G id d (ab_swt x a ts) L st σ r σ2) : ab_Ret l G id d pc L (vI x :: st) σ r σ2 := by
  obtain ⟨i, n, hd, hn, hc⟩ := ab_chk_inv hc
  change ab_c43 i pc a ts = true at hc
  unfold ab_c43 at hc
  split at hc
  · rename_i f lo hi fs
    simp only [Bool.and_eq_true, beq_iff_eq, decide_eq_true_eq] at hc
    obtain ⟨⟨⟨⟨h1, h2⟩, h3⟩, h4⟩, h5⟩ := hc
    obtain ⟨i1, i2⟩ := ab_swT_in (x := x) (d := a) fs.toList lo ts h5 h2 (by omega)
    intro p e R s m args below meth c cells slots H locs ls C hL oL oS hP hS
    have kk := k p e R s m args below meth c cells slots H locs ls C hL oL (okt oS) hP hS
    by_cases hx : x.toInt < lo ∨ hi < x.toInt
    · refine lv_tableOut C.1 C.2.1 hd hx (tgt := ab_swt x a ts) ?_ kk
      rw [i2 (by omega)]
      exact h1
    · obtain ⟨g, g1, g2⟩ := i1 (by omega) (by omega)
      exact lv_tableIn C.1 C.2.1 hd (fun q => hx (Or.inl q)) (fun q => hx (Or.inr q)) (by simpa using g1) g2 kk
  · rename_i f ps
    simp only [Bool.and_eq_true, beq_iff_eq] at hc
    obtain ⟨⟨h1, h2⟩, h3⟩ := hc
    intro p e R s m args below meth c cells slots H locs ls C hL oL oS hP hS
    exact lv_lookup C.1 C.2.1 hd h2 rfl (ab_swL_at h1 ps.toList ts h3) (k p e R s m args below meth c cells slots H locs ls C hL oL (okt oS) hP hS)
  · cases hc
/-- the code of what a method answers -/
def ab_rty (t : Nat) : Option FieldType := match t with
  | 0 => none
  | 1 => some .int
  | 2 => some .long
  | _ => some .boolean
theorem ab_q_end {G : ab_Gt} {s : State} {args : Array Value} {H : Heap} {locs : List Loc} {σ : Sg} {r : AV} {t : State} (hP : va_P (gD G) ab_cl (ab_ws G σ) H) (hS : va_S (gA G) s.heap H locs) (ht : t.heap = H) : ab_Qc G r σ args s (.returned (ab_rv G r)) t := ⟨rfl, by rw [ht]; exact hP, hS.F ht⟩
theorem ab_zret {p : Program} {l : Launch} {e : Env} {R : Room} {s : State} {m : MethodId} {args : Array Value} {below : List Frame} {meth : Method} {c : Code} {H : Heap} {locs : List Loc} {cells slots : Nat} {cc : ByteArray} {Qc : Array Value → State → Outcome → State → Prop} {free : Addr → Prop} {v : Int32} (hexec : p.tables.exec = Jvm.exec) (hb : c.code = cc) (hr : meth.sig.returnType = some .boolean)
    (hq : ∀ t : State, t.heap = H → s.WarmedH t.vm → Qc args s (.returned (some (.int (v &&& 1)))) t) (hf : ∀ q ∈ locs, free q.base) {pc : Nat} {ls : Array Slot} (hdg : decode cc pc = .ok (.ireturn, 1)) (hlocks : meth.locks = false) : W p l e R s m args below meth c H locs cells slots (MQ below Qc args s cells slots free) (F0 m pc ls [.int v]) := by
  intro T hT X
  obtain ⟨fs, hret, hrun, hended, hW, hframe⟩ := X.leave (v := some (.int (v &&& 1))) (fun h => by rw [hr] at h; cases h)
  have hm : T.vm.method? m = some meth := X.method'
  refine ⟨T.setFrames fs, ?_, .returned (some (.int (v &&& 1))), hrun, hended, hq _ hT hW, locs, ⟨⟨_, rfl⟩, hW, hframe⟩, hf⟩
  jvm_step X.here [X.here.top, hexec, hb, hdg, hm, hr, narrow]
  (try refine ⟨rfl, ?_⟩); (try refine ⟨rfl, ?_⟩)
  first | (intro acts; rw [hret _ acts rfl rfl rfl]) | rw [hret _ _ rfl rfl rfl]
  exact Steps.refl _
theorem r_45_0 {l : Launch} {G : ab_Gt} {id d pc b : Nat} {v : AV} {ts : List (Int × Nat)} {L : List AV} {σ : Sg} (hty : ab_mr id = ab_rty 0) (hc : ab_chk (ab_mo id) (ab_mb id) (ab_ml id) pc (45, 0, b, v, ts) = true) : ab_Ret l G id d pc L [] σ vU σ := by
  obtain ⟨i, n, hd, hn, hc⟩ := ab_chk_inv hc
  change (n == 1 && ab_c45 i 0) = true at hc
  rw [Bool.and_eq_true] at hc
  obtain ⟨h1, hc⟩ := hc
  unfold ab_c45 at hc
  have h1 : n = 1 := by simpa using h1
  subst h1
  intro p e R s m args below meth c cells slots H locs ls C hL oL oS hP hS
  have hr : meth.sig.returnType = ab_rty 0 := by rw [← hty]; exact C.2.2.2.2.2.1
  have hlk : meth.locks = false := C.2.2.2.2.2.2.1
  split at hc <;> first | (exact absurd hc (by decide)) | skip
  exact W.vret C.1 C.2.1 hr (fun t ht hW => ab_q_end (args := args) hP hS ht) hS.2.2 hd hlk
theorem r_45_1 {l : Launch} {G : ab_Gt} {id d pc b : Nat} {v : AV} {ts : List (Int × Nat)} {L : List AV} {σ : Sg} {x : Int32} (hty : ab_mr id = ab_rty 1) (hc : ab_chk (ab_mo id) (ab_mb id) (ab_ml id) pc (45, 1, b, v, ts) = true) : ab_Ret l G id d pc L [vI x] σ (vI x) σ := by
  obtain ⟨i, n, hd, hn, hc⟩ := ab_chk_inv hc
  change (n == 1 && ab_c45 i 1) = true at hc
  rw [Bool.and_eq_true] at hc
  obtain ⟨h1, hc⟩ := hc
  unfold ab_c45 at hc
  have h1 : n = 1 := by simpa using h1
  subst h1
  intro p e R s m args below meth c cells slots H locs ls C hL oL oS hP hS
  have hr : meth.sig.returnType = ab_rty 1 := by rw [← hty]; exact C.2.2.2.2.2.1
  have hlk : meth.locks = false := C.2.2.2.2.2.2.1
  split at hc <;> first | (exact absurd hc (by decide)) | skip
  exact W.iret C.1 C.2.1 hr (fun t ht hW => ab_q_end (args := args) hP hS ht) hS.2.2 hd hlk
theorem r_45_2 {l : Launch} {G : ab_Gt} {id d pc b : Nat} {v : AV} {ts : List (Int × Nat)} {L : List AV} {σ : Sg} {x : Int64} (hty : ab_mr id = ab_rty 2) (hc : ab_chk (ab_mo id) (ab_mb id) (ab_ml id) pc (45, 2, b, v, ts) = true) : ab_Ret l G id d pc L [vL x] σ (vL x) σ := by
  obtain ⟨i, n, hd, hn, hc⟩ := ab_chk_inv hc
  change (n == 1 && ab_c45 i 2) = true at hc
  rw [Bool.and_eq_true] at hc
  obtain ⟨h1, hc⟩ := hc
  unfold ab_c45 at hc
  have h1 : n = 1 := by simpa using h1
  subst h1
  intro p e R s m args below meth c cells slots H locs ls C hL oL oS hP hS
  have hr : meth.sig.returnType = ab_rty 2 := by rw [← hty]; exact C.2.2.2.2.2.1
  have hlk : meth.locks = false := C.2.2.2.2.2.2.1
  split at hc <;> first | (exact absurd hc (by decide)) | skip
  exact W.lret C.1 C.2.1 hr (fun t ht hW => ab_q_end (args := args) hP hS ht) hS.2.2 hd hlk
theorem r_45_3 {l : Launch} {G : ab_Gt} {id d pc b : Nat} {v : AV} {ts : List (Int × Nat)} {L : List AV} {σ : Sg} {x : Int32} (hty : ab_mr id = ab_rty 3) (hc : ab_chk (ab_mo id) (ab_mb id) (ab_ml id) pc (45, 3, b, v, ts) = true) : ab_Ret l G id d pc L [vI x] σ (vI (x &&& 1)) σ := by
  obtain ⟨i, n, hd, hn, hc⟩ := ab_chk_inv hc
  change (n == 1 && ab_c45 i 3) = true at hc
  rw [Bool.and_eq_true] at hc
  obtain ⟨h1, hc⟩ := hc
  unfold ab_c45 at hc
  have h1 : n = 1 := by simpa using h1
  subst h1
  intro p e R s m args below meth c cells slots H locs ls C hL oL oS hP hS
  have hr : meth.sig.returnType = ab_rty 3 := by rw [← hty]; exact C.2.2.2.2.2.1
  have hlk : meth.locks = false := C.2.2.2.2.2.2.1
  split at hc <;> first | (exact absurd hc (by decide)) | skip
  exact ab_zret C.1 C.2.1 hr (fun t ht hW => ab_q_end (args := args) hP hS ht) hS.2.2 hd hlk
