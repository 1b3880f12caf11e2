/-! calls; and a whole text of steps: what the abstract machine answers, the machine answers -/
theorem ab_goes {p : Program} {l : Launch} {e : Env} {R : Room} {s : State} {m : MethodId} {args : Array Value} {below : List Frame} {meth : Method} {c : Code} {H : Heap} {locs : List Loc} {Q : State → Prop} {G : ab_Gt} {pc : Nat} {ls : Array Slot} {st0 rest : List Value} {r0 : AV} {σ1 : Sg} {a0 : Array Value}
    (hr : va_Run p l e R s m args below meth c H locs 0 0 0 0 (F0 m pc ls st0) rest (ab_Qc G r0 σ1 a0) (gA G)) (hS : va_S (gA G) s.heap H locs)
    (kk : ∀ (H1 : Heap) (locs1 : List Loc), va_P (gD G) ab_cl (ab_ws G σ1) H1 → va_S (gA G) s.heap H1 locs1 → W p l e R s m args below meth c H1 locs1 0 0 Q (F0 m (pc + 3) ls ((ab_rv G r0).toList ++ rest))) : W p l e R s m args below meth c H locs 0 0 Q (F0 m pc ls st0) := by
  intro T hT X
  obtain ⟨v, st₀, t, T', L, h0, X', hL, e1, e2, ⟨hv, hPw, hz, hk⟩, st⟩ := hr T hT X
  have hv := Outcome.returned.inj hv
  subst hv
  rw [h0] at hz hk
  obtain ⟨t2, a1, b1⟩ := kk T'.heap (locs ++ L) (by rw [e1]; exact hPw)
    ⟨Nat.le_trans hS.1 (by rw [e1]; exact hz), fun q h1 h2 => by rw [e1, hk q (Nat.lt_of_lt_of_le h1 hS.1) h2]; exact hS.2.1 q h1 h2, fun q hq => by
      rcases List.mem_append.mp hq with h | h
      · exact hS.2.2 q h
      · exact hL q h⟩ T' rfl X'
  exact ⟨t2, st t2 a1, b1⟩
/-- the receiver is of the method's class -/
def ab_rc2 (id : Nat) (as : List AV) : Prop := match as with
  | .inr (.inr (.inl q)) :: _ => (ab_kd q.1 = 0 ∧ (ab_cl[ab_ci q.1]?).map (fun x => x.1) = some (ab_my id).cls) ∨ (q.1 = 60 ∧ (ab_my id).cls = "java/lang/String")
  | _ => False
def ab_push (r : AV) (st : List AV) : List AV := match r with
  | .inr (.inr (.inr _)) => st
  | r => r :: st
theorem ab_push_val (G : ab_Gt) (r : AV) (st : List AV) : (ab_push r st).map (ab_val G) = (ab_rv G r).toList ++ st.map (ab_val G) := by
  match r with
  | .inl x => rfl
  | .inr (.inl x) => rfl
  | .inr (.inr (.inl q)) => rfl
  | .inr (.inr (.inr u)) => rfl
theorem ab_push_ok {G : ab_Gt} {r : AV} {st : List AV} (hr : ab_isR r = false) (h : ∀ v ∈ st, ab_ok G v) : ∀ v ∈ ab_push r st, ab_ok G v := by
  match r with
  | .inl x => exact okc trivial h
  | .inr (.inl x) => exact okc trivial h
  | .inr (.inr (.inl q)) => cases hr
  | .inr (.inr (.inr u)) => exact h
theorem ab_W_good (id a : Nat) (h : a < 230) : GoodIn (ab_W id) (ab_W a) := by
  intro w hw
  rcases List.mem_cons.mp hw with e | hw
  · rw [e]
    exact ⟨List.mem_cons_of_mem _ (ab_code_in h), good_of_word rfl⟩
  · exact ⟨List.mem_cons_of_mem _ hw, good_of_word (List.mem_filter.mp hw).2⟩
theorem ab_mk_facts {a : Nat} (h : a < 230) : ab_ml a ≤ 40 ∧ Cond.initialized (ab_my a).cls ∈ lw_good ∧ ((ab_my a).cls ≠ "java/lang/invoke/MethodHandle" ∧ (ab_my a).cls ≠ "java/lang/invoke/VarHandle") ∧ plainName (ab_my a).cls = true ∧ (ab_mt a = 0 → Cond.instanceMethod (ab_my a) ∈ lw_good ∧ Cond.selects (ab_my a).cls (ab_my a) (ab_my a) ∈ lw_good) ∧ (ab_mt a ≠ 0 → Cond.static (ab_my a) ∈ lw_good) := by
  have h1 := List.all_eq_true.mp ab_mk_ok a (List.mem_range.mpr h)
  unfold ab_mkb at h1
  rw [Bool.and_eq_true, Bool.and_eq_true, Bool.and_eq_true, Bool.and_eq_true, Bool.and_eq_true, Bool.and_eq_true] at h1
  obtain ⟨⟨⟨⟨⟨⟨-, h2⟩, h3⟩, h4⟩, h5⟩, h6⟩, h7⟩ := h1
  refine ⟨of_decide_eq_true h2, ab_at_in h3, ⟨by simpa using h4, by simpa using h5⟩, h6, fun e => ?_, fun e => ?_⟩
  · rw [e] at h7
    have h7 : (ab_at (ab_mk a).2.1 (.instanceMethod (ab_my a)) && ab_at (ab_mk a).2.2.1 (.selects (ab_my a).cls (ab_my a) (ab_my a))) = true := h7
    rw [Bool.and_eq_true] at h7
    exact ⟨ab_at_in h7.1, ab_at_in h7.2⟩
  · split at h7
    · exact absurd ‹_› e
    · exact ab_at_in h7
def ab_c44v (o : Nat) (n id b ix : Nat) : Bool := n == 3 && (ab_cs o).any (fun q => q.1 == ix && q.2.1 == id && q.2.2.1 + 1 == b && q.2.2.2.1 == 0)
def ab_c44s (o : Nat) (n id b ix : Nat) : Bool := n == 3 && (ab_cs o).any (fun q => q.1 == ix && q.2.1 == id && q.2.2.1 == b && !(q.2.2.2.1 == 0))
def ab_c44 (o : Nat) (i : Instr) (n id b : Nat) : Bool := match i with
  | .invokevirtual ix => ab_c44v o n id b ix
  | .invokestatic ix => ab_c44s o n id b ix
  | _ => false
theorem ab_recv {G : ab_Gt} {σ : Sg} {s : State} {H : Heap} {locs : List Loc} {a : Nat} {q : Nat × Nat} {as : List AV} (hG9 : ∀ q ∈ gP G, ab_kd q.1 ≠ 9) (hP : va_P (gD G) ab_cl (ab_ws G σ) H) (hS : va_S (gA G) s.heap H locs) (hKK : ab_KK G s) (hq : ab_okr G q) (hr : ab_rc2 a (.inr (.inr (.inl q)) :: as)) : ∃ cellB : Cell, H[gad G q.1 q.2]? = some cellB ∧ cellB.vm.isStatics = false ∧ s.vm.findClass (ab_my a).cls = some cellB.cls := by
  obtain ⟨g, i⟩ := q
  rcases hr with ⟨hk, hn⟩ | ⟨hk, hn⟩
  · have hin : (g, i) ∈ gP G := ab_in hq (by rw [show ab_kd g = 0 from hk]; decide)
    obtain ⟨q0, hq0, he⟩ := ab_ws_at σ hin
    rw [ab_ent_0 hk] at he
    obtain ⟨r, h1, cell, h2, h3, h4, h5⟩ := hP q0 _ he
    have h1 : ab_cl[ab_ci g]? = some r := h1
    obtain ⟨-, hfc, -⟩ := hKK.1.1 (ab_ci g) r h1
    refine ⟨cell, h2, by rw [h4]; rfl, ?_⟩
    have hn : (ab_cl[ab_ci g]?).map (fun x => x.1) = some (ab_my a).cls := hn
    rw [h1] at hn
    rw [← Option.some.inj hn, h3]
    exact hfc
  · have hk : g = 60 := hk
    subst hk
    rcases hq with h | ⟨-, h⟩ | h
    · exact absurd rfl (hG9 _ h)
    · obtain ⟨cell, h1, h2, h3⟩ := vk_recv (hKK.2.2.2.2) h hS
      exact ⟨cell, h1, h2, by rw [hn]; exact h3⟩
    · cases h
