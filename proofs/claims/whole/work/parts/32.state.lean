/-! what the two sides hold in common: numbers S, the sheets' items I, the texts' steps P -/
theorem loopW {β γ : Type} (F : Nat → β → Nat → Option γ) (I : Nat → β → Prop) (N : Nat) (Q : γ → Prop)
    (step : ∀ n i s, i < N → I i s → (∀ s', I (i + 1) s' → wp (F n s' (i + 1)) Q) → wp (F (n + 1) s i) Q)
    (stop : ∀ n s, I N s → wp (F (n + 1) s N) Q) : ∀ i s n, i ≤ N → I i s → N - i < n → wp (F n s i) Q := by
  have key : ∀ m i s n, i + m = N → I i s → m < n → wp (F n s i) Q := by
    intro m
    induction m with
    | zero =>
      intro i s n hi hI hn
      obtain ⟨n, rfl⟩ : ∃ n', n = n' + 1 := ⟨n - 1, by omega⟩
      have : i = N := by omega
      subst this
      exact stop n s hI
    | succ m ih =>
      intro i s n hi hI hn
      obtain ⟨n, rfl⟩ : ∃ n', n = n' + 1 := ⟨n - 1, by omega⟩
      exact step n i s (by omega) hI fun s' h' => ih (i + 1) s' n (by omega) h' (by omega)
  intro i s n hi hI hn
  exact key (N - i) i s n (by omega) hI hn
theorem FU_big {m : Nat} (h : m < 1000) : m < FU := by rw [FU_eq]; exact h
abbrev Txt : Type := List Int32 × List Int32 × List Int32
/-- a text's parts always give a value -/
def TP (P : Txt) : Prop := ∀ (e : Nat → Int32) (k : Nat), k < 3 → ∃ v, Ev e 31 (pk3 P k) v
/-- that value -/
def pv (P : Txt) (k : Nat) (e : Nat → Int32) : Int32 := match tp_r e (pk3 P k) [] with
  | some (v :: _) => v
  | _ => 0
theorem pv_eq {P : Txt} {k : Nat} {e : Nat → Int32} {v : Int32} (h : Ev e 31 (pk3 P k) v) : pv P k e = v := by
  unfold pv
  rw [h [] (by simp)]
theorem pv_ev {P : Txt} (hP : TP P) {k : Nat} (hk : k < 3) (e : Nat → Int32) : tp_r e (pk3 P k) [] = some [pv P k e] := by
  obtain ⟨v, hv⟩ := hP e k hk
  rw [pv_eq hv]
  exact hv [] (by simp)
/-- what was read well gives values -/
theorem spT_TP {b : Nat → Int32} {sz a : Nat} {P : Txt} (hb : ByteOK b sz) (h : spT b = (some P, a)) : TP P := fun e k hk => by
  have hT : MTx b sz 0 (fun g _ j => if g = 32 then nI sz else if g = 31 then b j else if g = 30 then e (j - 11) else 0) := ⟨by omega, rfl, fun p _ => by simp⟩
  have hE : EM e (fun g _ j => if g = 32 then nI sz else if g = 31 then b j else if g = 30 then e (j - 11) else 0) := fun k _ => by
    show e (11 + k - 11) = e k
    rw [Nat.add_sub_cancel_left]
  obtain ⟨r, _, _, k2⟩ := s_Mread hb hT hE hk
  rw [h] at k2
  exact ⟨r.1, k2.2⟩
/-- text i of the reference, read well -/
def MText (P : Txt) (i : Nat) (τ : Sg) : Prop := ∃ b sz a, ByteOK b sz ∧ MTx b sz i τ ∧ spT b = (some P, a)
theorem MText.fr {P : Txt} {i : Nat} {S : Nat → Nat → Nat → Prop} {τ τ' : Sg} (h : MText P i τ) (f : Fr S τ τ') (k : ∀ j, ¬ S 31 0 j ∧ ¬ S 32 0 j) : MText P i τ' := by
  obtain ⟨b, sz, a, hb, ⟨h1, h2, h3⟩, h4⟩ := h
  exact ⟨b, sz, a, hb, ⟨h1, by rw [f _ _ _ (k _).2]; exact h2, fun p hp => by rw [f _ _ _ (k _).1]; exact h3 p hp⟩, h4⟩
theorem MText.tp {P : Txt} {i : Nat} {τ : Sg} (h : MText P i τ) : TP P := by
  obtain ⟨b, sz, a, hb, _, h4⟩ := h
  exact spT_TP hb h4
def bdN (v : Int32) : Nat := (bdS v).toNatClampNeg
theorem bdS_N (v : Int32) : bdS v = nI (bdN v) ∧ bdN v ≤ 99 := by
  have h : ∃ n, n ≤ 99 ∧ bdS v = nI n := by
    unfold bdS
    rcases na_or v with q | ⟨n, hn, rfl⟩
    · have q99 : v < 99 := na_neg_lt (n := 99) q (by omega)
      rw [if_pos q99]
      have : ¬ 0 < v := fun c => na_neg_nlt (n := 0) q (by omega) c
      rw [if_neg this]
      exact ⟨0, by omega, rfl⟩
    · by_cases c : n < 99
      · rw [if_pos (show nI n < 99 from nI_lt (b := 99) c (by decide))]
        by_cases d : 0 < n
        · rw [if_pos (show 0 < nI n from nI_lt (a := 0) d (by omega))]; exact ⟨n, by omega, rfl⟩
        · rw [if_neg (show ¬ 0 < nI n from nI_nlt (a := 0) (by omega) (by decide))]; exact ⟨0, by omega, rfl⟩
      · rw [if_neg (show ¬ nI n < 99 from nI_nlt (b := 99) (by omega) (by omega)), if_pos (by decide)]
        exact ⟨99, by omega, rfl⟩
  obtain ⟨n, hn, e⟩ := h
  unfold bdN
  rw [e, na_cl (by omega)]
  exact ⟨rfl, hn⟩
theorem s_Mwithin (v : Int32) (σ : Sg) : M_within v 0 99 σ = some (bdS v, σ) := by
  unfold M_within bdS
  rcases na_or v with q | ⟨n, hn, rfl⟩
  · have q99 : v < 99 := na_neg_lt (n := 99) q (by omega)
    have : ¬ 0 < v := fun c => na_neg_nlt (n := 0) q (by omega) c
    rw [if_pos q, if_pos q99, if_neg this]
  · rw [if_neg (nI_pos hn)]
    by_cases c : n < 99
    · rw [if_neg (show ¬ 99 < nI n from nI_nlt (a := 99) (by omega) (by decide)), if_pos (show nI n < 99 from nI_lt (b := 99) c (by decide))]
      by_cases d : 0 < n
      · rw [if_pos (show 0 < nI n from nI_lt (a := 0) d (by omega))]
      · have : n = 0 := by omega
        subst this
        rfl
    · rw [if_neg (show ¬ nI n < 99 from nI_nlt (b := 99) (by omega) (by omega)), if_pos (show (0 : Int32) < 99 by decide)]
      by_cases d : 99 < n
      · rw [if_pos (show 99 < nI n from nI_lt (a := 99) d (by omega))]
      · have : n = 99 := by omega
        subst this
        rfl
theorem bdS_nI (n : Nat) (hn : n < 2147483648) : bdS (nI n) = nI (min 99 n) := by
  unfold bdS
  by_cases c : n < 99
  · rw [if_pos (show nI n < 99 from nI_lt (b := 99) c (by decide)), Nat.min_eq_right (by omega)]
    by_cases d : 0 < n
    · rw [if_pos (show 0 < nI n from nI_lt (a := 0) d (by omega))]
    · have : n = 0 := by omega
      subst this
      rfl
  · rw [if_neg (show ¬ nI n < 99 from nI_nlt (b := 99) (by omega) (by omega)), if_pos (by decide), Nat.min_eq_left (by omega)]
    rfl
def offN (ct m : Nat) : Nat := if m < ct then ct - m else m - ct
/-- what the names say -/
def envN (nb ct wn m h : Nat) : Nat → Int32 := fun k => match k with
  | 0 => nI ct
  | 1 => nI m
  | 2 => nI nb
  | 3 => nI h
  | 4 => nI wn
  | _ => nI (offN ct m)
def vaN (P : Txt) (k nb ct wn m h : Nat) : Nat := bdN (pv P k (envN nb ct wn m h))
theorem vaN_le (P : Txt) (k nb ct wn m h : Nat) : vaN P k nb ct wn m h ≤ 99 := (bdS_N _).2
def fitN (P : Txt) (kd nb ct wn m h : Nat) : Bool :=
  if kd = 1 then decide (2 * offN ct m ≤ vaN P 0 nb ct wn m h) else if kd = 2 then decide (offN ct m ≤ 10 + vaN P 0 nb ct wn m h)
  else if kd = 3 then decide (2 * offN ct m ≤ vaN P 0 nb ct wn m h) && decide (m < 50) else if kd = 4 then decide (10 + vaN P 0 nb ct wn m h < offN ct m)
  else if kd = 5 then decide (offN ct m ≤ vaN P 0 nb ct wn m h) || decide (m % 10 = nb) else decide (offN ct m ≤ vaN P 0 nb ct wn m h)
def fineN (P : Txt) (kd nb ct wn m h : Nat) : Nat :=
  if kd = 1 then min 99 (vaN P 1 nb ct wn m h + 2) else if kd = 2 then vaN P 1 nb ct wn m h / 2 else if kd = 3 then min 99 (2 * (vaN P 1 nb ct wn m h + 2)) else if kd = 4 then nb else if kd = 5 then 99 else vaN P 1 nb ct wn m h
def costN (P : Txt) (kd nb ct wn m h : Nat) : Nat :=
  if kd = 1 then min 99 (vaN P 2 nb ct wn m h + nb) else if kd = 2 then vaN P 2 nb ct wn m h else if kd = 3 then min 99 (vaN P 2 nb ct wn m h + nb) else if kd = 4 then min 99 (vaN P 2 nb ct wn m h + 3) else if kd = 5 then 0 else vaN P 2 nb ct wn m h
theorem offS_N {ct m : Nat} (h1 : ct < 2147483648) (h2 : m < 2147483648) : offS (nI ct) (nI m) = nI (offN ct m) := by
  unfold offS offN
  by_cases c : m < ct
  · rw [if_pos (nI_lt c h1), if_pos c, na_sub (by omega)]
  · rw [if_neg (nI_nlt (by omega) h2), if_neg c, na_sub (by omega)]
theorem envX_N {σ : Sg} {c nb ct wn m h : Nat} (h1 : σ 1 c 1 = nI nb) (h2 : σ 1 c 2 = nI ct) (h3 : σ 1 c 3 = nI wn) (hc : ct < 2147483648) (hm : m < 2147483648) : envX σ c (nI m) (nI h) = envN nb ct wn m h := by
  funext k
  match k with
  | 0 => exact h2
  | 1 => rfl
  | 2 => exact h1
  | 3 => rfl
  | 4 => exact h3
  | k + 5 =>
    show offS (σ 1 c 2) (nI m) = nI (offN ct m)
    rw [h2, offS_N hc hm]
/-- the steps of one part -/
theorem pg_list {σ : Sg} {i : Nat} : ∀ (L : List Int32) (k : Nat), (∀ j, j < L.length → σ 3 i (k + j) = ab_nth 0 L j) → pg σ i k L.length = L := by
  intro L
  induction L with
  | nil => intro k _; rfl
  | cons x r ih =>
    intro k h
    show σ 3 i k :: pg σ i (k + 1) r.length = x :: r
    rw [ih (k + 1) (fun j hj => by
      have := h (j + 1) (by simp only [List.length_cons]; omega)
      rw [show k + 1 + j = k + (j + 1) by omega]
      exact this), show σ 3 i k = x from h 0 (by simp)]
theorem nth_l {L R : List Int32} : ∀ {k : Nat}, k < L.length → ab_nth 0 (L ++ R) k = ab_nth 0 L k := by
  induction L with
  | nil => intro k h; cases h
  | cons x r ih =>
    intro k h
    cases k with
    | zero => rfl
    | succ k => exact ih (by simpa using h)
theorem nth_r {L R : List Int32} : ∀ {k : Nat}, ab_nth 0 (L ++ R) (L.length + k) = ab_nth 0 R k := by
  induction L with
  | nil => intro k; simp
  | cons x r ih =>
    intro k
    simp only [List.length_cons, List.cons_append]
    rw [show r.length + 1 + k = (r.length + k) + 1 by omega]
    exact ih
def TX (P : Txt) (i : Nat) (σ : Sg) : Prop := TXc i P.1 P.2.1 P.2.2 σ
/-- what a part of text i says -/
theorem s_value {P : Txt} {i k c nb ct wn m h : Nat} {σ : Sg} (hT : TX P i σ) (hP : TP P) (hk : k < 3) (h1 : σ 1 c 1 = nI nb) (h2 : σ 1 c 2 = nI ct) (h3 : σ 1 c 3 = nI wn) (hc : ct < 2147483648) (hm : m < 2147483648) : ∃ σ', Text_value i (nI k) c (nI m) (nI h) σ = some (nI (vaN P k nb ct wn m h), σ') ∧ Un i σ σ' := by
  obtain ⟨t0, t1, t2, t3, t4⟩ := hT
  have u0 : Un i σ (upd3 σ 2 i 4 0) := fun g a j h5 h6 => u3n _ _ _ _ _ h6
  have A0 : AS (upd3 σ 2 i 4 0) i [] := ⟨u3s _ _ _ _ _, by simp, fun k hk => absurd hk (Nat.not_lt_zero _)⟩
  have hE : envX (upd3 σ 2 i 4 0) c (nI m) (nI h) = envN nb ct wn m h := by
    rw [u0.env]; exact envX_N h1 h2 h3 hc hm
  have go : ∀ (f e : Nat) (L : List Int32), e ≤ 160 → σ 4 i k = nI e → f + L.length = e → (∀ j, j < L.length → σ 3 i (f + j) = ab_nth 0 L j) → L = pk3 P k → ∃ σ', Text_value_L38 FU i (nI k) c (nI m) (nI h) (nI f) (upd3 σ 2 i 4 0) = some (nI (vaN P k nb ct wn m h), σ') ∧ Un i σ σ' := by
    intro f e L he hend hlen hst hL
    obtain ⟨σ', e1, e2⟩ := s_value_L (i := i) (c := c) (part := k) (e := e) (mood := nI m) (hour := nI h) (v := pv P k (envN nb ct wn m h)) hk he L.length FU f (upd3 σ 2 i 4 0) [] [] hlen (by rw [FU_eq]; omega) (by rw [u0.ends]; exact hend) A0 (by
      rw [hE, pg_eq u0.steps, pg_list L f hst, hL]
      exact pv_ev hP hk _)
    refine ⟨σ', ?_, u0.tr e2⟩
    rw [e1, (bdS_N _).1]
    rfl
  unfold Text_value
  rw [if_neg (nI_pos (by omega)), if_pos (show nI k < 3 from nI_lt (b := 3) hk (by decide))]
  have hk3 : k = 0 ∨ k = 1 ∨ k = 2 := by omega
  rcases hk3 with q | q | q <;> subst q
  · exact go 0 P.1.length P.1 (by omega) t0 (by omega) (fun j hj => by
      rw [Nat.zero_add, t4 j (by omega), nth_l (by rw [List.length_append]; omega), nth_l hj]) rfl
  · rw [if_neg (by decide), show nI 1 - (1 : Int32) = nI 0 from rfl, if_neg (nI_pos (by omega)), na_cl (by omega), if_neg (by omega), u0.ends, t0]
    exact go P.1.length (P.1.length + P.2.1.length) P.2.1 (by omega) t1 rfl (fun j hj => by
      rw [t4 _ (by omega), nth_l (by rw [List.length_append]; omega), nth_r]) rfl
  · rw [if_neg (by decide), show nI 2 - (1 : Int32) = nI 1 from rfl, if_neg (nI_pos (by omega)), na_cl (by omega), if_neg (by omega), u0.ends, t1]
    exact go (P.1.length + P.2.1.length) (P.1.length + P.2.1.length + P.2.2.length) P.2.2 (by omega) t2 rfl (fun j hj => by
      rw [t4 _ (by omega), ← List.length_append, nth_r]) rfl
theorem bi1 (c : Bool) : (if c = true then (1 : Int32) else 0) &&& 1 = if c = true then 1 else 0 := by cases c <;> rfl
theorem s_Coat_fits {c kd nb ct v m : Nat} {σ : Sg} (h0 : σ 1 c 0 = nI kd) (h1 : σ 1 c 1 = nI nb) (h2 : σ 1 c 2 = nI ct) (hk : kd < 6) (hn : nb < 100) (hc : ct < 1000) (hm : m < 1000) (hv : v ≤ 99) : Coat_fits c (nI m) (nI v) σ = some (if (if kd = 1 then decide (2 * offN ct m ≤ v) else if kd = 2 then decide (offN ct m ≤ 10 + v) else if kd = 3 then decide (2 * offN ct m ≤ v) && decide (m < 50) else if kd = 4 then decide (10 + v < offN ct m) else if kd = 5 then decide (offN ct m ≤ v) || decide (m % 10 = nb) else decide (offN ct m ≤ v)) = true then 1 else 0, σ) := by
  have ho : offN ct m < 1000 := by unfold offN; split <;> omega
  unfold Coat_fits
  rw [s_off, h2, offS_N (by omega) (by omega)]
  simp only [Option.bind_some, h0, h1]
  have hx : kd = 0 ∨ kd = 1 ∨ kd = 2 ∨ kd = 3 ∨ kd = 4 ∨ kd = 5 := by omega
  rw [show (10 : Int32) = nI 10 from rfl, show (2 : Int32) * nI (offN ct m) = nI (2 * offN ct m) from na_mul 2 _, na_add, pk_rem (by omega) (by omega) (by omega)]
  simp (disch := omega) only [na_li, na_lt, na_eq]
  rcases hx with q | q | q | q | q | q <;> subst q <;> simp only [Nat.reduceEqDiff, if_false, if_true, Nat.zero_ne_one, reduceIte]
  · by_cases c1 : v < offN ct m
    · rw [if_pos c1, if_neg (by simp; omega)]
    · rw [if_neg c1, if_pos (by simp; omega)]
  · by_cases c1 : v < 2 * offN ct m
    · rw [if_pos c1, if_neg (by simp; omega)]
    · rw [if_neg c1, if_pos (by simp; omega)]
  · by_cases c1 : 10 + v < offN ct m
    · rw [if_pos c1, if_neg (by simp; omega)]
    · rw [if_neg c1, if_pos (by simp; omega)]
  · by_cases c1 : v < 2 * offN ct m
    · rw [if_pos c1, if_neg (by simp; omega)]
    · rw [if_neg c1]
      by_cases c2 : m < 50
      · rw [if_pos c2, if_pos (by simp; omega)]
      · rw [if_neg c2, if_neg (by simp; omega)]
  · by_cases c1 : 10 + v < offN ct m
    · rw [if_pos c1, if_pos (by simp; omega)]
    · rw [if_neg c1, if_neg (by simp; omega)]
  · by_cases c1 : v < offN ct m
    · rw [if_pos c1]
      by_cases c2 : m % 10 = nb
      · rw [if_pos c2, if_pos (by simp; omega)]
      · rw [if_neg c2, if_neg (by simp; omega)]
    · rw [if_neg c1, if_pos (by simp; omega)]
