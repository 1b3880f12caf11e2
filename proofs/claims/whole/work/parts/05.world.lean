/-! What the abstract machine's cells are in the real heap: (kind, number) at an address; a method's contract over the whole of a side's cells -/
abbrev ab_Gt : Type := va_G × (Nat → ClassId) × (Nat → Nat → Nat) × (Nat → Nat) × (Nat → Prop) × List (Nat × Nat)
abbrev gD (G : ab_Gt) : va_G := G.1
abbrev gC (G : ab_Gt) : Nat → ClassId := G.2.1
abbrev gad (G : ab_Gt) : Nat → Nat → Nat := G.2.2.1
abbrev gV (G : ab_Gt) : Nat → Nat := G.2.2.2.1
abbrev gA (G : ab_Gt) : Nat → Prop := G.2.2.2.2.1
abbrev gP (G : ab_Gt) : List (Nat × Nat) := G.2.2.2.2.2
def ab_val (G : ab_Gt) : AV → Value
  | .inl x => .int x
  | .inr (.inl x) => .long x
  | .inr (.inr (.inl q)) => .ref (gad G q.1 q.2)
  | .inr (.inr (.inr _)) => .null
def ab_rv (G : ab_Gt) : AV → Option Value
  | .inr (.inr (.inr _)) => none
  | v => some (ab_val G v)
def ab_fval (G : ab_Gt) (ρ : Nat → Int32) (i j : Nat) (f : Nat × Nat × Nat) : Value := match f.1 with
  | 0 => .int (ρ j)
  | 1 => .long (ρ j).toInt64
  | _ => .ref (gad G f.2.1 (i + f.2.2))
def ab_fvs (G : ab_Gt) (ρ : Nat → Int32) (i : Nat) : Nat → List (Nat × Nat × Nat) → List Value
  | _, [] => []
  | j, f :: r => ab_fval G ρ i j f :: ab_fvs G ρ i (j + 1) r
theorem ab_fvs_at (G : ab_Gt) (ρ : Nat → Int32) (i : Nat) (fs : List (Nat × Nat × Nat)) : ∀ (j k : Nat), (ab_fvs G ρ i j fs)[k]? = (fs[k]?).map (ab_fval G ρ i (j + k)) := by
  induction fs with
  | nil => intro j k; simp [ab_fvs]
  | cons f r ih =>
    intro j k
    cases k with
    | zero => simp [ab_fvs]
    | succ k => simp only [ab_fvs, List.getElem?_cons_succ, ih, Nat.add_assoc, Nat.add_comm 1 k]
theorem ab_fvs_len (G : ab_Gt) (ρ : Nat → Int32) (i : Nat) (fs : List (Nat × Nat × Nat)) : ∀ j, (ab_fvs G ρ i j fs).length = fs.length := by
  induction fs with
  | nil => intro j; rfl
  | cons f r ih => intro j; simp [ab_fvs, ih]
theorem ab_fvs_set (G : ab_Gt) (ρ : Nat → Int32) (i : Nat) (fs : List (Nat × Nat × Nat)) {k : Nat} {f : Nat × Nat × Nat} (hf : fs[k]? = some f) (x : Int32) (v : Value) (hv : ab_fval G (upd ρ k x) i k f = v) : (ab_fvs G ρ i 0 fs).set k v = ab_fvs G (upd ρ k x) i 0 fs := by
  apply List.ext_getElem?
  intro n
  rw [List.getElem?_set, ab_fvs_at, ab_fvs_at]
  have hk : k < fs.length := (List.getElem?_eq_some_iff.mp hf).1
  by_cases h : k = n
  · subst h
    rw [if_pos rfl, if_pos (by rw [ab_fvs_len]; exact hk), hf, Nat.zero_add]
    simp [hv]
  · rw [if_neg h]
    congr 1
    funext f
    have hn : ¬ n = k := fun e => h e.symm
    simp [ab_fval, upd, hn]
def ab_ent (G : ab_Gt) (ρ : Nat → Int32) (g i : Nat) : va_E := match ab_kd g with
  | 0 => .inr (ab_ci g, ab_fvs G ρ i 0 (ab_fds g))
  | 1 => .inl (gC G 0, (ab_len g, .inl ρ))
  | 2 => .inl (gC G 1, (ab_len g, .inl ρ))
  | _ => .inl (gC G (ab_rt g), (ab_len g, .inr (.inr (.inr (.inr (fun j => some (gad G (ab_refs g).1 (j + (ab_refs g).2))))))))
def ab_ws (G : ab_Gt) (σ : Sg) : va_W := (gP G).map (fun q => (gad G q.1 q.2, ab_ent G (σ q.1 q.2) q.1 q.2))
def ab_tys (G : ab_Gt) : List (ClassId × FieldType) := [(gC G 0, .int), (gC G 1, .boolean), (gC G 2, .object "CoatsFitTheMood$Coat"), (gC G 3, .object "CoatsFitTheMood$Text"), (gC G 4, .object "CoatsFitTheMood$Sheet")]
def ab_okr (G : ab_Gt) (q : Nat × Nat) : Prop := q ∈ gP G ∨ (q.1 = 60 ∧ q.2 < 12) ∨ q = (61, 0)
def ab_ok (G : ab_Gt) : AV → Prop
  | .inr (.inr (.inl q)) => ab_okr G q
  | _ => True
/-- the places of the words in the class's file, and their texts -/
def ab_wi (w : Nat) : Nat := ab_nth 0 [60, 66, 68, 70, 72, 74, 76, 78, 80, 82, 84, 86] w
def ab_wt (w : Nat) : String := ab_nth "" ["eases", "fines", "costs", "or", "and", "not", "cut", "mood", "number", "hour", "worn", "off"] w
def ab_wlen : List Nat := ab_words.map List.length
def ab_wbyt : List (List Int32) := ab_words.map (fun l => l.map Int32.ofNat)
/-- what the tables say, and what never changes: the nest's words, the row of kinds, the words of the class -/
def ab_KK (G : ab_Gt) (U : State) : Prop := va_K (gD G) ab_cl (ab_tys G) U ∧
  (va_Nw (.methodLinkNest "CoatsFitTheMood$Text" 52 ⟨"CoatsFitTheMood", "bounded", "(I)I"⟩ "CoatsFitTheMood") U ∧ va_Nw (.methodLinkNest "CoatsFitTheMood$Coat" 42 ⟨"CoatsFitTheMood", "bounded", "(I)I"⟩ "CoatsFitTheMood") U ∧ va_Nw (.methodLinkNest "CoatsFitTheMood$Day" 28 ⟨"CoatsFitTheMood", "isHour", "(I)Z"⟩ "CoatsFitTheMood") U ∧ va_Nw (.fieldLinkNest "CoatsFitTheMood$Coat" 34 "CoatsFitTheMood" "KIND_ABOVE" "[I" "CoatsFitTheMood") U) ∧
  (va_Z "CoatsFitTheMood" "KIND_ABOVE" "[I" (.ref (gad G 61 0)) (gA G) U U.heap ∧ va_T .int (gad G 61 0) 6 (fun j => .int (ab_ka j)) (gA G) U U.heap) ∧
  ((∀ w, w < 12 → vk_R "CoatsFitTheMood$Tape" (ab_wi w) (ab_wt w) (gad G 60 w) U) ∧ vk_S 12 ab_wlen ab_wbyt (gad G 60) (gV G) (gA G) U U.heap ∧
  va_Z "java/lang/String" "COMPACT_STRINGS" "Z" (.int 1) (gA G) U U.heap ∧ va_Zq "jdk/internal/util/Preconditions" "SIOOBE_FORMATTER" "Ljava/util/function/BiFunction;" (gA G) U U.heap)
theorem ab_KK.moved {G : ab_Gt} {s U : State} (h : ab_KK G s) (hW : s.WarmedH U.vm) (hH : ∀ a : Nat, a < s.heap.size → ¬ gA G a → U.heap[a]? = s.heap[a]?) : ab_KK G U := by
  obtain ⟨h1, ⟨n1, n2, n3, n4⟩, ⟨z1, z2⟩, s1, s2, c1, c2⟩ := h
  exact ⟨h1.moved hW.alike, ⟨va_Nw.warmM hW n1, va_Nw.warmM hW n2, va_Nw.warmM hW n3, va_Nw.warmF hW n4⟩, ⟨(z1.moved hW.alike).kept hH, (z2.moved hW.alike).kept hH⟩, fun w hw => vk_R.warm hW (s1 w hw), (s2.moved hW.alike).kept hH, (c1.moved hW.alike).kept hH, (c2.moved hW.alike).kept hH⟩
theorem ab_KK.calling {G : ab_Gt} {U : State} (h : ab_KK G U) (g : JFrame) (mk : MethodId) (a : Array Value) : ab_KK G (U.calling g mk a) := h.moved (U := U.calling g mk a) (State.WarmedH.refl U) (fun _ _ _ => rfl)
def ab_Pc (G : ab_Gt) (as : List AV) (σ : Sg) : Array Value → State → Prop := fun a U => a = (as.map (ab_val G)).toArray ∧ va_P (gD G) ab_cl (ab_ws G σ) U.heap ∧ ab_KK G U
theorem ab_Pc.blind (G : ab_Gt) (as : List AV) (σ : Sg) : FrameBlind (ab_Pc G as σ) := fun a U g mk h => ⟨h.1, h.2.1, h.2.2.calling g mk a⟩
def ab_Qc (G : ab_Gt) (r : AV) (σ : Sg) : Array Value → State → Outcome → State → Prop := fun _ st o t => o = .returned (ab_rv G r) ∧ va_P (gD G) ab_cl (ab_ws G σ) t.heap ∧ va_F (gA G) st t
def ab_W (id : Nat) : List Cond := .code (ab_my id) (ab_mb id) (ab_ml id) (ab_mr id) :: lw_good
def ab_R (d : Nat) : Room := { frames := d, cells := 0, slots := 0, locals := 64 * d }
def ab_Met (l : Launch) (G : ab_Gt) (id d : Nat) (as : List AV) (σ : Sg) (r : AV) (σ' : Sg) : Prop := Met l (ab_my id) (ab_W id) (ab_R d) (ab_Pc G as σ) (ab_Qc G r σ') 0 0 (gA G)
def ab_isR : AV → Bool
  | .inr (.inr (.inl _)) => true
  | _ => false
/-- the receiver is of the method's class -/
def ab_rcv (id : Nat) (as : List AV) : Prop := match as with
  | .inr (.inr (.inl q)) :: _ => ab_rn q.1 = (ab_my id).cls
  | _ => False
def ab_CO (l : Launch) (G : ab_Gt) (id d : Nat) (as : List AV) (σ : Sg) (r : AV) (σ' : Sg) : Prop := (∀ v ∈ as, ab_ok G v) → ab_Met l G id d as σ r σ'
def ab_Cx (G : ab_Gt) (id d : Nat) (p : Program) (R : Room) (s : State) (m : MethodId) (args : Array Value) (meth : Method) (c : Code) (cells slots : Nat) : Prop :=
  p.tables.exec = Jvm.exec ∧ c.code = ab_mb id ∧ c.maxLocals = ab_ml id ∧ s.vm.findClass (ab_on (ab_mo id)) = some m.cls ∧ (∀ w ∈ ab_W id, w.before args s = true) ∧ meth.sig.returnType = ab_mr id ∧ meth.locks = false ∧ d ≤ R.frames ∧ 64 * d ≤ R.locals ∧ ab_KK G s ∧ cells ≤ R.cells ∧ slots ≤ R.slots
def ab_LH (G : ab_Gt) (n : Nat) (ls : Array Slot) (L : List AV) : Prop := ls.size = n ∧ L.length = n ∧ lv_wf ls ∧ ∀ i, ab_nth vU L i ≠ vU → ls[i]? = some (.val (ab_val G (ab_nth vU L i)))
def ab_Ret (l : Launch) (G : ab_Gt) (id d pc : Nat) (L st : List AV) (σ : Sg) (r : AV) (σ' : Sg) : Prop :=
  ∀ (p : Program) (e : Env) (R : Room) (s : State) (m : MethodId) (args : Array Value) (below : List Frame) (meth : Method) (c : Code) (cells slots : Nat) (H : Heap) (locs : List Loc) (ls : Array Slot),
    ab_Cx G id d p R s m args meth c cells slots → ab_LH G (ab_ml id) ls L → (∀ v ∈ L, ab_ok G v) → (∀ v ∈ st, ab_ok G v) → va_P (gD G) ab_cl (ab_ws G σ) H → va_S (gA G) s.heap H locs →
    W p l e R s m args below meth c H locs cells slots (MQ below (ab_Qc G r σ') args s cells slots (gA G)) (F0 m pc ls (st.map (ab_val G)))
/-- a side's cells: apart, no cell twice, and what they refer to is among them -/
def ab_GG (G : ab_Gt) : Prop := (∀ σ, va_D (gA G) (ab_ws G σ)) ∧ (gP G).Nodup ∧ (∀ g i, (g, i) ∈ gP G → ∀ (k : Nat) (f : Nat × Nat × Nat), (ab_fds g)[k]? = some f → f.1 = 2 → (f.2.1, i + f.2.2) ∈ gP G) ∧ (∀ g i, (g, i) ∈ gP G → ab_kd g = 3 → ∀ j, j < ab_len g → ((ab_refs g).1, j + (ab_refs g).2) ∈ gP G) ∧ ∀ q ∈ gP G, ab_kd q.1 ≠ 9
theorem ab_ws_at {G : ab_Gt} (σ : Sg) {g i : Nat} (h : (g, i) ∈ gP G) : ∃ q0 : Nat, (gP G)[q0]? = some (g, i) ∧ (ab_ws G σ)[q0]? = some (gad G g i, ab_ent G (σ g i) g i) := by
  obtain ⟨q0, hq⟩ := List.getElem?_of_mem h
  exact ⟨q0, hq, by simp [ab_ws, List.getElem?_map, hq]⟩
theorem ab_nd {α : Type} {l : List α} (h : l.Nodup) : ∀ (i j : Nat) (x : α), l[i]? = some x → l[j]? = some x → i = j := by
  induction l with
  | nil => intro i j x h1; simp at h1
  | cons a r ih =>
    obtain ⟨h1, h2⟩ := List.nodup_cons.mp h
    intro i j x e1 e2
    cases i with
    | zero =>
      cases j with
      | zero => rfl
      | succ j =>
        simp only [List.getElem?_cons_zero, Option.some.injEq, List.getElem?_cons_succ] at e1 e2
        subst e1
        exact absurd (List.mem_of_getElem? e2) h1
    | succ i =>
      cases j with
      | zero =>
        simp only [List.getElem?_cons_zero, Option.some.injEq, List.getElem?_cons_succ] at e1 e2
        subst e2
        exact absurd (List.mem_of_getElem? e1) h1
      | succ j =>
        simp only [List.getElem?_cons_succ] at e1 e2
        rw [ih h2 i j x e1 e2]
theorem ab_ws_set {G : ab_Gt} (hn : (gP G).Nodup) (σ σ' : Sg) {g i q0 : Nat} (hq : (gP G)[q0]? = some (g, i)) (ho : ∀ g' i', (g', i') ≠ (g, i) → σ' g' i' = σ g' i') {a : Nat} {en : va_E} (ha : a = gad G g i) (he : en = ab_ent G (σ' g i) g i) : (ab_ws G σ).set q0 (a, en) = ab_ws G σ' := by
  subst ha; subst he
  apply List.ext_getElem?
  intro k
  have hl : q0 < (gP G).length := (List.getElem?_eq_some_iff.mp hq).1
  rw [List.getElem?_set]
  by_cases h : q0 = k
  · subst h
    rw [if_pos rfl, if_pos (by simpa [ab_ws] using hl)]
    simp [ab_ws, List.getElem?_map, hq]
  · rw [if_neg h]
    simp only [ab_ws, List.getElem?_map]
    cases hk : (gP G)[k]? with
    | none => rfl
    | some q =>
      have hne : q ≠ (g, i) := fun e => by
        subst e
        exact h (ab_nd hn q0 k _ hq hk)
      simp [ho q.1 q.2 hne]
theorem upd3_row (σ : Sg) (g i j : Nat) (x : Int32) : upd3 σ g i j x g i = upd (σ g i) j x := by
  funext k
  simp [upd3, upd]
theorem upd3_off (σ : Sg) (g i j : Nat) (x : Int32) (g' i' : Nat) (h : (g', i') ≠ (g, i)) : upd3 σ g i j x g' i' = σ g' i' := by
  funext k
  have : ¬ (g' = g ∧ i' = i ∧ k = j) := fun e => h (by rw [e.1, e.2.1])
  simp [upd3, this]
