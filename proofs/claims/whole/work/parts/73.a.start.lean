/-! the start: the tables, the row of kinds, the words -/
def kk_B (adK adV : Nat → Nat) (a61 : Nat) (A : Nat → Prop) (U : State) : Prop :=
  (va_Nw (.methodLinkNest "CoatsFitTheMood$Text" 52 ⟨"CoatsFitTheMood", "bounded", "(I)I"⟩ "CoatsFitTheMood") U ∧ va_Nw (.methodLinkNest "CoatsFitTheMood$Coat" 42 ⟨"CoatsFitTheMood", "bounded", "(I)I"⟩ "CoatsFitTheMood") U ∧ va_Nw (.methodLinkNest "CoatsFitTheMood$Day" 28 ⟨"CoatsFitTheMood", "isHour", "(I)Z"⟩ "CoatsFitTheMood") U ∧ va_Nw (.fieldLinkNest "CoatsFitTheMood$Coat" 34 "CoatsFitTheMood" "KIND_ABOVE" "[I" "CoatsFitTheMood") U) ∧
  (va_Z "CoatsFitTheMood" "KIND_ABOVE" "[I" (.ref a61) A U U.heap ∧ va_T .int a61 6 (fun j => .int (ab_ka j)) A U U.heap) ∧
  ((∀ w, w < 12 → vk_R "CoatsFitTheMood$Tape" (ab_wi w) (ab_wt w) (adK w) U) ∧ vk_S 12 ab_wlen ab_wbyt adK adV A U U.heap ∧
  va_Z "java/lang/String" "COMPACT_STRINGS" "Z" (.int 1) A U U.heap ∧ va_Zq "jdk/internal/util/Preconditions" "SIOOBE_FORMATTER" "Ljava/util/function/BiFunction;" A U U.heap)
theorem kk_B.narrow {adK adV : Nat → Nat} {a61 : Nat} {A B : Nat → Prop} {U : State} (h : kk_B adK adV a61 A U) (hAB : ∀ q, B q → A q) : kk_B adK adV a61 B U := by
  obtain ⟨h1, ⟨z1, z2⟩, s1, s2, c1, c2⟩ := h
  exact ⟨h1, ⟨z1.narrow hAB, z2.narrow hAB⟩, s1, s2.narrow hAB, c1.narrow hAB, c2.narrow hAB⟩
theorem kk_X {D : va_G} {dA : Nat → ClassId} {adK adV : Nat → Nat} {a61 : Nat} {q : Nat → Nat} {U : State} (hK : ct_K D dA U) (h : kk_B adK adV a61 (gAsX q) U) : ab_KK (gWX D dA adK adV a61 q) U := ⟨hK.1, h⟩
theorem kk_M {D : va_G} {dA : Nat → ClassId} {adK adV : Nat → Nat} {a61 : Nat} {q : Nat → Nat} {U : State} (hK : ct_K D dA U) (h : kk_B adK adV a61 (gAsM q) U) : ab_KK (gWM D dA adK adV a61 q) U := ⟨hK.1, h⟩
def st_tm (i : Nat) : Term := Term.string "CoatsFitTheMood$Tape" (ab_wi i)
def st_fl : List Cond := flatC (Jvm.Cond.and given_1 narrow_1)
def st_ok (i : Nat) : Bool := decide (Cond.exactly (st_tm i) "java/lang/String" ∈ st_fl) && (decide (Cond.eq (.field (st_tm i) "java/lang/String" "coder" "B") (.int 0) ∈ st_fl) && (decide (Cond.arrayOf (.field (st_tm i) "java/lang/String" "value" "[B") .byte ∈ st_fl) && (decide (Cond.eq (.length (.field (st_tm i) "java/lang/String" "value" "[B")) (.int (Int32.ofNat (ab_wlen.getD i 0))) ∈ st_fl) && ((List.range (ab_wlen.getD i 0)).all fun j => decide (Cond.eq (.elem (.field (st_tm i) "java/lang/String" "value" "[B") (.int (Int32.ofNat j))) (.int ((ab_wbyt.getD i []).getD j 0)) ∈ st_fl)))))
theorem st_all : ((List.range 12).all st_ok) = true := by decide +kernel
theorem st_ne : ((List.range 12).all fun i => (List.range 12).all fun j => decide (i = j) || (decide (Cond.not (Cond.eq (st_tm i) (st_tm j)) ∈ st_fl) || decide (Cond.not (Cond.eq (st_tm j) (st_tm i)) ∈ st_fl))) = true := by decide +kernel
theorem st_len : ((List.range 12).all fun i => decide (ab_wlen.getD i 0 < 1000)) = true := by decide +kernel
theorem st_at {i : Nat} (hi : i < 12) : Cond.exactly (st_tm i) "java/lang/String" ∈ st_fl ∧ Cond.eq (.field (st_tm i) "java/lang/String" "coder" "B") (.int 0) ∈ st_fl ∧ Cond.arrayOf (.field (st_tm i) "java/lang/String" "value" "[B") .byte ∈ st_fl ∧ Cond.eq (.length (.field (st_tm i) "java/lang/String" "value" "[B")) (.int (Int32.ofNat (ab_wlen.getD i 0))) ∈ st_fl ∧ ∀ j, j < ab_wlen.getD i 0 → Cond.eq (.elem (.field (st_tm i) "java/lang/String" "value" "[B") (.int (Int32.ofNat j))) (.int ((ab_wbyt.getD i []).getD j 0)) ∈ st_fl := by
  have h := List.all_eq_true.mp st_all i (List.mem_range.mpr hi)
  unfold st_ok at h
  rw [Bool.and_eq_true, Bool.and_eq_true, Bool.and_eq_true, Bool.and_eq_true] at h
  exact ⟨of_decide_eq_true h.1, of_decide_eq_true h.2.1, of_decide_eq_true h.2.2.1, of_decide_eq_true h.2.2.2.1, fun j hj => of_decide_eq_true (List.all_eq_true.mp h.2.2.2.2 j (List.mem_range.mpr hj))⟩
theorem st_ref : ∀ i, i < 12 → Cond.stringRef "CoatsFitTheMood$Tape" (ab_wi i) (ab_wt i) ∈ lw_tbl := by
  intro i hi
  match i, hi with
  | 0, _ => exact List.mem_of_getElem? (i := 525) (by decide +kernel)
  | 1, _ => exact List.mem_of_getElem? (i := 578) (by decide +kernel)
  | 2, _ => exact List.mem_of_getElem? (i := 579) (by decide +kernel)
  | 3, _ => exact List.mem_of_getElem? (i := 580) (by decide +kernel)
  | 4, _ => exact List.mem_of_getElem? (i := 581) (by decide +kernel)
  | 5, _ => exact List.mem_of_getElem? (i := 582) (by decide +kernel)
  | 6, _ => exact List.mem_of_getElem? (i := 583) (by decide +kernel)
  | 7, _ => exact List.mem_of_getElem? (i := 584) (by decide +kernel)
  | 8, _ => exact List.mem_of_getElem? (i := 585) (by decide +kernel)
  | 9, _ => exact List.mem_of_getElem? (i := 586) (by decide +kernel)
  | 10, _ => exact List.mem_of_getElem? (i := 587) (by decide +kernel)
  | 11, _ => exact List.mem_of_getElem? (i := 588) (by decide +kernel)
  | i + 12, h => exact absurd h (by omega)
theorem st_ka : ∀ j, j < 6 → Cond.eq (.elem (.static "CoatsFitTheMood" "KIND_ABOVE" "[I") (.int (Int32.ofNat j))) (.int (ab_ka j)) ∈ st_fl := by
  intro j hj
  match j, hj with
  | 0, _ => exact (by decide +kernel)
  | 1, _ => exact (by decide +kernel)
  | 2, _ => exact (by decide +kernel)
  | 3, _ => exact (by decide +kernel)
  | 4, _ => exact (by decide +kernel)
  | 5, _ => exact (by decide +kernel)
  | j + 6, h => exact absurd h (by omega)
section
variable {s : State} {b : Nat}
theorem start_B (hts : ∀ w ∈ lw_tbl, w.before #[Value.ref b] s = true) (hgv : (Jvm.Cond.and given_1 narrow_1).before #[Value.ref b] s = true) : ∃ (adK adV : Nat → Nat) (a61 : Nat), kk_B adK adV a61 (fun q => s.heap.size ≤ q) s := by
  have hs : ∀ w ∈ st_fl, w.before #[Value.ref b] s = true := flat_of_before _ hgv
  have hA : ∀ a : Nat, a < s.heap.size → ¬ (fun q => s.heap.size ≤ q) a := fun a h => Nat.not_le.mpr h
  obtain ⟨adK, adV, hS, hE⟩ := vk_Sof (N := 12) (tm := st_tm) (len := ab_wlen) (byt := ab_wbyt) (A := fun q => s.heap.size ≤ q) (fun i hi => by have := of_decide_eq_true (List.all_eq_true.mp st_len i (List.mem_range.mpr hi)); omega) (fun i hi => hs _ (st_at hi).1) (fun i hi => hs _ (st_at hi).2.1) (fun i hi => hs _ (st_at hi).2.2.1) (fun i hi => hs _ (st_at hi).2.2.2.1) (fun i hi j hj => hs _ ((st_at hi).2.2.2.2 j hj)) (fun i j hi hj hij => by
    have h := List.all_eq_true.mp (List.all_eq_true.mp st_ne i (List.mem_range.mpr hi)) j (List.mem_range.mpr hj)
    rw [Bool.or_eq_true, Bool.or_eq_true] at h
    rcases h with h | h | h
    · exact absurd (of_decide_eq_true h) hij
    · exact Or.inl (hs _ (of_decide_eq_true h))
    · exact Or.inr (hs _ (of_decide_eq_true h))) hA
  obtain ⟨a61, ha, hT⟩ := va_Tof (tm := .static "CoatsFitTheMood" "KIND_ABOVE" "[I") (ty := .int) (N := 6) (f := fun j => .int (ab_ka j)) (A := fun q => s.heap.size ≤ q) (by omega) (hs (Cond.arrayOf (.static "CoatsFitTheMood" "KIND_ABOVE" "[I") .int) (by decide +kernel)) (va_eqt (hs (Cond.eq (.length (.static "CoatsFitTheMood" "KIND_ABOVE" "[I")) (.int (Int32.ofNat 6))) (by decide +kernel))) (fun j hj => va_eqt (hs _ (st_ka j hj))) hA
  refine ⟨adK, adV, a61, ⟨va_Nw.of rfl (hts _ (List.mem_of_getElem? (i := 442) (by decide +kernel))), va_Nw.of rfl (hts _ (List.mem_of_getElem? (i := 476) (by decide +kernel))), va_Nw.of rfl (hts _ (List.mem_of_getElem? (i := 705) (by decide +kernel))), va_Nw.of rfl (hts _ (List.mem_of_getElem? (i := 885) (by decide +kernel)))⟩, ⟨va_Zref (hts _ (List.mem_of_getElem? (i := 886) (by decide +kernel))) (hts _ (List.mem_of_getElem? (i := 117) (by decide +kernel))) ha hA, hT⟩, fun w hw => vk_R.of (hts _ (st_ref w hw)) (hE w hw), hS, va_Zof (hts _ (List.mem_of_getElem? (i := 539) (by decide +kernel))) (hts _ (List.mem_of_getElem? (i := 127) (by decide +kernel))) (va_eqi (hs (Cond.eq (.static "java/lang/String" "COMPACT_STRINGS" "Z") (.int 1)) (by decide +kernel))) hA, va_Zqof (hts _ (List.mem_of_getElem? (i := 555) (by decide +kernel))) (hts _ (List.mem_of_getElem? (i := 129) (by decide +kernel))) (hs (Cond.isRef (.static "jdk/internal/util/Preconditions" "SIOOBE_FORMATTER" "Ljava/util/function/BiFunction;")) (by decide +kernel)) hA⟩
theorem start_D (hts : ∀ w ∈ lw_tbl, w.before #[Value.ref b] s = true) : ∃ D : va_G, ∀ (k : Nat) (q : vw_C), ab_cl[k]? = some q → u_Kn s q.1 q.2.1 q.2.2 (D.1 k) (D.2 k) := by
  have hg : ∀ w ∈ lw_good, w.before #[Value.ref b] s = true := fun w hw => hts w (List.mem_filter.mp hw).1
  have h : ∀ k : Nat, ∃ x : ClassId × (Nat → Nat), ∀ q : vw_C, ab_cl[k]? = some q → u_Kn s q.1 q.2.1 q.2.2 x.1 x.2 := by
    intro k
    cases hc : ab_cl[k]? with
    | none => exact ⟨(0, fun _ => 0), fun q h => by cases h⟩
    | some q =>
      rcases ab_cl_at hc with ⟨_, rfl⟩ | ⟨_, rfl⟩ | ⟨_, rfl⟩ | ⟨_, rfl⟩ | ⟨_, rfl⟩ | ⟨_, rfl⟩ | ⟨_, rfl⟩ | ⟨_, rfl⟩ | ⟨_, rfl⟩
      · obtain ⟨c0, i0, h0⟩ := u_known (n := 4) hg wi_0 (hts (.instantiable rx_0 4) (List.mem_of_getElem? (i := 143) (by decide +kernel)))
        exact ⟨(c0, i0), fun q h => by cases h; exact h0⟩
      · obtain ⟨c0, i0, h0⟩ := u_known (n := 5) hg wi_1 (hts (.instantiable rx_1 5) (List.mem_of_getElem? (i := 215) (by decide +kernel)))
        exact ⟨(c0, i0), fun q h => by cases h; exact h0⟩
      · obtain ⟨c0, i0, h0⟩ := u_known (n := 4) hg wi_2 (hts (.instantiable rx_2 4) (List.mem_of_getElem? (i := 238) (by decide +kernel)))
        exact ⟨(c0, i0), fun q h => by cases h; exact h0⟩
      · obtain ⟨c0, i0, h0⟩ := u_known (n := 2) hg wi_3 (hts (.instantiable rx_3 2) (List.mem_of_getElem? (i := 200) (by decide +kernel)))
        exact ⟨(c0, i0), fun q h => by cases h; exact h0⟩
      · obtain ⟨c0, i0, h0⟩ := u_known (n := 3) hg wi_4 (hts (.instantiable rx_4 3) (List.mem_of_getElem? (i := 283) (by decide +kernel)))
        exact ⟨(c0, i0), fun q h => by cases h; exact h0⟩
      · obtain ⟨c0, i0, h0⟩ := u_known (n := 7) hg wi_5 (hts (.instantiable rx_5 7) (List.mem_of_getElem? (i := 171) (by decide +kernel)))
        exact ⟨(c0, i0), fun q h => by cases h; exact h0⟩
      · obtain ⟨c0, i0, h0⟩ := u_known (n := 5) hg wi_6 (hts (.instantiable rx_6 5) (List.mem_of_getElem? (i := 262) (by decide +kernel)))
        exact ⟨(c0, i0), fun q h => by cases h; exact h0⟩
      · obtain ⟨c0, i0, h0⟩ := u_known (n := 13) hg wi_7 (hts (.instantiable rx_7 13) (List.mem_of_getElem? (i := 134) (by decide +kernel)))
        exact ⟨(c0, i0), fun q h => by cases h; exact h0⟩
      · obtain ⟨c0, i0, h0⟩ := u_known (n := 42) hg wi_8 (hts (.instantiable rx_8 42) (List.mem_of_getElem? (i := 888) (by decide +kernel)))
        exact ⟨(c0, i0), fun q h => by cases h; exact h0⟩
  obtain ⟨f, hf⟩ := Classical.axiomOfChoice h
  exact ⟨(fun k => (f k).1, fun k => (f k).2), fun k q hq => hf k q hq⟩
theorem start_o {C : String} (h : (Cond.arrayOver (.object C)).before #[Value.ref b] s = true) : ∃ c : ClassId, ArrOfT s c (.object C) ∧ va_RA s c (.object C) := by
  obtain ⟨comp, c, k, h1, h2, h3, h4, h5⟩ := Cond.arrayOver_spec h
  exact ⟨c, fun n z => ⟨fun k h => (by cases h), k, h3, comp, h4⟩, k, comp, h3, h4, h1, h5⟩
theorem start_K (hts : ∀ w ∈ lw_tbl, w.before #[Value.ref b] s = true) : ∃ (D : va_G) (dA : Nat → ClassId), ct_K D dA s := by
  obtain ⟨D, hD⟩ := start_D hts
  have h0 : (Cond.arrayClass .int).before #[Value.ref b] s = true := hts _ (List.mem_of_getElem? (i := 167) (by decide +kernel))
  have h1 : (Cond.arrayClass .boolean).before #[Value.ref b] s = true := hts _ (List.mem_of_getElem? (i := 1023) (by decide +kernel))
  have h2 : (Cond.arrayOver (.object "CoatsFitTheMood$Coat")).before #[Value.ref b] s = true := hts _ (List.mem_of_getElem? (i := 142) (by decide +kernel))
  have h3 : (Cond.arrayOver (.object "CoatsFitTheMood$Text")).before #[Value.ref b] s = true := hts _ (List.mem_of_getElem? (i := 169) (by decide +kernel))
  have h4 : (Cond.arrayOver (.object "CoatsFitTheMood$Sheet")).before #[Value.ref b] s = true := hts _ (List.mem_of_getElem? (i := 213) (by decide +kernel))
  obtain ⟨c0, k0, m0, a1, a2, a3⟩ := Cond.arrayClass_spec h0
  obtain ⟨c1, k1, m1, b1, b2, b3⟩ := Cond.arrayClass_spec h1
  obtain ⟨c2, d1, d2⟩ := start_o h2
  obtain ⟨c3, e1, e2⟩ := start_o h3
  obtain ⟨c4, f1, f2⟩ := start_o h4
  refine ⟨D, fun k => ab_nth 0 [c0, c1, c2, c3, c4] k, ⟨hD, fun k q hk => ?_⟩, ⟨va_Nw.of rfl (hts _ (List.mem_of_getElem? (i := 144) (by decide +kernel))), va_Nw.of rfl (hts _ (List.mem_of_getElem? (i := 244) (by decide +kernel))), va_Nw.of rfl (hts _ (List.mem_of_getElem? (i := 172) (by decide +kernel))), va_Nw.of rfl (hts _ (List.mem_of_getElem? (i := 216) (by decide +kernel))), va_Nw.of rfl (hts _ (List.mem_of_getElem? (i := 263) (by decide +kernel))), va_Nw.of rfl (hts _ (List.mem_of_getElem? (i := 284) (by decide +kernel)))⟩, va_AO.of h2, va_AO.of h3, va_AO.of h4⟩
  match k, hk with
  | 0, hk => cases hk; exact ⟨fun n z => ⟨fun k h => (by cases h), k0, a2, m0, a3⟩, a1⟩
  | 1, hk => cases hk; exact ⟨fun n z => ⟨fun k h => (by cases h), k1, b2, m1, b3⟩, b1⟩
  | 2, hk => cases hk; exact ⟨d1, d2⟩
  | 3, hk => cases hk; exact ⟨e1, e2⟩
  | 4, hk => cases hk; exact ⟨f1, f2⟩
  | k + 5, hk => simp [ct_dT] at hk
end
