/-! bits; which coats fit; how many hours -/
theorem na_and (a b : Nat) : nI a &&& nI b = nI (a &&& b) := by
  apply Int32.toBitVec_inj.1
  show BitVec.ofNat 32 a &&& BitVec.ofNat 32 b = BitVec.ofNat 32 (a &&& b)
  apply BitVec.eq_of_getLsbD_eq
  intro i hi
  simp [hi]
theorem na_orr (a b : Nat) : nI a ||| nI b = nI (a ||| b) := by
  apply Int32.toBitVec_inj.1
  show BitVec.ofNat 32 a ||| BitVec.ofNat 32 b = BitVec.ofNat 32 (a ||| b)
  apply BitVec.eq_of_getLsbD_eq
  intro i hi
  simp [hi]
theorem one_shl : ∀ k, k < 31 → (1 : Int32) <<< (nI k &&& 31) = nI (2 ^ k) := by decide
theorem zero_shl : ∀ k, k < 31 → (0 : Int32) <<< (nI k &&& 31) = 0 := by decide
/-- the bits of those that f names -/
def bsN (f : Nat → Bool) : Nat → Nat
  | 0 => 0
  | n + 1 => bsN f n + (if f n = true then 2 ^ n else 0)
theorem bsN_lt (f : Nat → Bool) : ∀ n, bsN f n < 2 ^ n := by
  intro n
  induction n with
  | zero => exact Nat.one_pos
  | succ n ih =>
    unfold bsN
    rw [Nat.pow_succ]
    split <;> omega
theorem bsN_or (f : Nat → Bool) {n : Nat} (hn : n < 31) : nI (bsN f n) ||| (1 : Int32) <<< (nI n &&& 31) = nI (bsN f n + 2 ^ n) := by
  rw [one_shl n hn, na_orr, Nat.or_comm]
  have := Nat.two_pow_add_eq_or_of_lt (bsN_lt f n) 1
  rw [Nat.mul_one] at this
  rw [← this, Nat.add_comm]
theorem or_0 (x : Int32) : x ||| 0 = x := by
  apply Int32.toBitVec_inj.1
  simp
theorem bsN_cong {f g : Nat → Bool} : ∀ n, (∀ k, k < n → f k = g k) → bsN f n = bsN g n := by
  intro n
  induction n with
  | zero => intro _; rfl
  | succ n ih =>
    intro h
    unfold bsN
    rw [ih (fun k hk => h k (by omega)), h n (by omega)]
theorem bsN_bit (f : Nat → Bool) : ∀ n k, (bsN f n).testBit k = (decide (k < n) && f k) := by
  intro n
  induction n with
  | zero => intro k; simp [bsN]
  | succ n ih =>
    intro k
    unfold bsN
    have hlt := bsN_lt f n
    by_cases hf : f n = true
    · rw [if_pos hf, Nat.add_comm]
      by_cases e : k = n
      · subst e
        rw [Nat.testBit_two_pow_add_eq]
        rw [ih]
        simp [hf]
      · have h1 := Nat.two_pow_add_eq_or_of_lt hlt 1
        rw [Nat.mul_one] at h1
        rw [h1, Nat.testBit_or, ih, Nat.testBit_two_pow]
        have h2 : (decide (n = k)) = false := decide_eq_false (fun q => e q.symm)
        rw [h2, Bool.false_or]
        by_cases c : k < n
        · simp [c, show k < n + 1 by omega]
        · simp [c, show ¬ k < n + 1 by omega]
    · rw [if_neg hf, Nat.add_zero, ih]
      have hf2 : f n = false := by simpa using hf
      by_cases e : k = n
      · subst e
        simp [hf2]
      · by_cases c : k < n
        · simp [c, show k < n + 1 by omega]
        · simp [c, show ¬ k < n + 1 by omega]
/-- how many below n f names -/
def ctN (f : Nat → Bool) : Nat → Nat
  | 0 => 0
  | n + 1 => ctN f n + (if f n = true then 1 else 0)
theorem ctN_le (f : Nat → Bool) : ∀ n, ctN f n ≤ n := by
  intro n
  induction n with
  | zero => exact Nat.le_refl 0
  | succ n ih =>
    unfold ctN
    split <;> omega
def smN (f : Nat → Nat) : Nat → Nat
  | 0 => 0
  | n + 1 => smN f n + f n
theorem smN_le {f : Nat → Nat} {c : Nat} : ∀ n, (∀ k, k < n → f k ≤ c) → smN f n ≤ n * c := by
  intro n
  induction n with
  | zero => intro _; simp [smN]
  | succ n ih =>
    intro h
    unfold smN
    have h1 := ih (fun k hk => h k (by omega))
    have h2 := h n (by omega)
    rw [Nat.succ_mul]
    omega
section
variable {S : Nat → Nat → Nat} {I : Nat → Nat → Int32} {P : Nat → Txt} {σ τ : Sg}
def mdS (S : Nat → Nat → Nat) (p h : Nat) : Nat := S 0 (24 * p + h)
def fitA (S : Nat → Nat → Nat) (P : Nat → Txt) (p h c : Nat) : Bool := fitS S P c (mdS S p h) h
/-- RIGHT -/
def rigS (S : Nat → Nat → Nat) (P : Nat → Txt) (p h : Nat) : Nat := bsN (fitA S P p h) (S 5 0)
theorem mdS_lt (hV : SV S) {p h : Nat} (hp : p < 3) (hh : h < 24) : mdS S p h < 100 := hV.2.1 _ (by omega)
theorem x_right (hX : RX S I P σ) (hV : SV S) (hP : ∀ i, i < S 5 2 → TP (P i)) {p h : Nat} (hp : p < 3) (hh : h < 24) : wp (X_rightAt (nI p) (nI h) σ) (fun r => r.1 = nI (rigS S P p h) ∧ Fr EX σ r.2) := by
  obtain ⟨v1, v2, v3, v4⟩ := hV.1
  unfold X_rightAt
  refine loopW (fun n (s : Int32 × Sg) i => X_rightAt_L5 n (nI p) (nI h) s.1 (nI i) s.2) (fun i s => s.1 = nI (bsN (fitA S P p h) i) ∧ Fr EX σ s.2) (S 5 0) _ ?_ ?_ 0 ((0 : Int32), σ) FU (Nat.zero_le _) ⟨rfl, Fr.rf⟩ (FU_big (by omega))
  · rintro n i ⟨acc, σ1⟩ hi ⟨e, f⟩ k
    have e : acc = nI (bsN (fitA S P p h) i) := e
    subst e
    have f : Fr EX σ σ1 := f
    have hX1 : RX S I P σ1 := hX.fr hV (f.mo fun g a j h => EX.nx h)
    show wp (X_rightAt_L5 (n + 1) (nI p) (nI h) (nI (bsN (fitA S P p h) i)) (nI i) σ1) _
    unfold X_rightAt_L5
    rw [hX1.1.1, if_pos (nI_lt hi (by omega)), hX1.1.2.1, if_neg (nI_pos (by omega)), na_cl (by omega), if_neg (by omega), if_neg (nI_pos (by omega)), na_cl (by omega), if_neg (by omega), x_mood hX1 hp hh]
    simp only [Option.bind_some]
    obtain ⟨σ2, e2, f2⟩ := x_fits (m := mdS S p h) hX1 hV hP hi (by have := mdS_lt hV hp hh; omega) h
    rw [show X_fitsAt (S 5 1) i (nI (S 0 (24 * p + h))) (nI h) σ1 = _ from e2]
    simp only [Option.bind_some, b2_0]
    rw [show nI i + 1 = nI (i + 1) from (nI_succ i).symm]
    by_cases q : fitS S P i (mdS S p h) h = false
    · rw [if_pos q]
      refine k (_, σ2) ⟨?_, f.tr f2⟩
      show nI _ = nI (bsN (fitA S P p h) i + (if fitA S P p h i = true then 2 ^ i else 0))
      rw [if_neg (by unfold fitA; rw [q]; decide), Nat.add_zero]
    · rw [if_neg q, bsN_or _ (by omega)]
      refine k (_, σ2) ⟨?_, f.tr f2⟩
      show nI _ = nI (bsN (fitA S P p h) i + (if fitA S P p h i = true then 2 ^ i else 0))
      rw [if_pos (by unfold fitA; simpa using q)]
  · rintro n ⟨acc, σ1⟩ ⟨e, f⟩
    have f : Fr EX σ σ1 := f
    show wp (X_rightAt_L5 (n + 1) (nI p) (nI h) acc (nI (S 5 0)) σ1) _
    unfold X_rightAt_L5
    rw [(hX.fr hV (f.mo fun g a j h => EX.nx h)).1.1, if_neg (nI_nlt (Nat.le_refl _) (by omega))]
    exact wp_some ⟨e, f⟩
theorem m_mood (hM : RM S I P τ) {p h : Nat} (hp : p < 3) (hh : h < 24) : ((24 : Int32) * nI p + nI h) = nI (24 * p + h) ∧ τ 34 0 (24 * p + h) = nI (mdS S p h) := ⟨by rw [show (24 : Int32) = nI 24 from rfl, na_mul, na_add], hM.2.1 _ (by omega)⟩
theorem m_right (hM : RM S I P τ) (hV : SV S) {p h : Nat} (hp : p < 3) (hh : h < 24) : wp (M_rightAt (nI p) (nI h) τ) (fun r => r.1 = nI (rigS S P p h) ∧ Fr SF τ r.2) := by
  obtain ⟨v1, v2, v3, v4⟩ := hV.1
  unfold M_rightAt
  refine loopW (fun n (s : Int32 × Sg) i => M_rightAt_L5 n (nI p) (nI h) s.1 (nI i) s.2) (fun i s => s.1 = nI (bsN (fitA S P p h) i) ∧ Fr SF τ s.2) (S 5 0) _ ?_ ?_ 0 ((0 : Int32), τ) FU (Nat.zero_le _) ⟨rfl, Fr.rf⟩ (FU_big (by omega))
  · rintro n i ⟨acc, σ1⟩ hi ⟨e, f⟩ k
    have e : acc = nI (bsN (fitA S P p h) i) := e
    subst e
    have f : Fr SF τ σ1 := f
    have hM1 : RM S I P σ1 := hM.fr (f.mo fun g a j h => SF.nm h)
    show wp (M_rightAt_L5 (n + 1) (nI p) (nI h) (nI (bsN (fitA S P p h) i)) (nI i) σ1) _
    unfold M_rightAt_L5
    obtain ⟨ma, mb⟩ := m_mood hM1 hp hh
    rw [hM1.1.1, if_pos (nI_lt hi (by omega)), ma, if_neg (nI_pos (by omega)), na_cl (by omega), if_neg (by omega), mb]
    obtain ⟨σ2, e2, f2⟩ := m_fits (m := mdS S p h) hM1 hV hi (by have := mdS_lt hV hp hh; omega) h
    rw [e2]
    simp only [Option.bind_some, b2_0]
    rw [show nI i + 1 = nI (i + 1) from (nI_succ i).symm]
    by_cases q : fitS S P i (mdS S p h) h = false
    · rw [if_pos q, zero_shl i (by omega), or_0]
      refine k (_, σ2) ⟨?_, f.tr f2⟩
      show nI _ = nI (bsN (fitA S P p h) i + (if fitA S P p h i = true then 2 ^ i else 0))
      rw [if_neg (by unfold fitA; rw [q]; decide), Nat.add_zero]
    · rw [if_neg q, bsN_or _ (by omega)]
      refine k (_, σ2) ⟨?_, f.tr f2⟩
      show nI _ = nI (bsN (fitA S P p h) i + (if fitA S P p h i = true then 2 ^ i else 0))
      rw [if_pos (by unfold fitA; simpa using q)]
  · rintro n ⟨acc, σ1⟩ ⟨e, f⟩
    have f : Fr SF τ σ1 := f
    show wp (M_rightAt_L5 (n + 1) (nI p) (nI h) acc (nI (S 5 0)) σ1) _
    unfold M_rightAt_L5
    rw [(hM.fr (f.mo fun g a j h => SF.nm h)).1.1, if_neg (nI_nlt (Nat.le_refl _) (by omega))]
    exact wp_some ⟨e, f⟩
/-- at how many hours of one a coat of such traits fits -/
def hrsN (S : Nat → Nat → Nat) (Q : Txt) (kd nb ct wn p : Nat) : Nat := ctN (fun h => fitN Q kd nb ct wn (mdS S p h) h) 24
/-- a coat of any place c of the class (also the one that is tried) -/
theorem x_hours (hX : RX S I P σ) (hV : SV S) (hP : ∀ i, i < S 5 2 → TP (P i)) {kd nb ct wn c p : Nat} (hC : CT kd nb ct wn c σ) (hB : CB kd nb ct wn) (hp : p < 3) : wp (X_hoursOf c (nI p) σ) (fun r => r.1 = nI (hrsN S (P (S 5 1)) kd nb ct wn p) ∧ Fr EX σ r.2) := by
  obtain ⟨v1, v2, v3, v4⟩ := hV.1
  unfold X_hoursOf
  refine loopW (fun n (s : Int32 × Sg) i => X_hoursOf_L5 n c (nI p) s.1 (nI i) s.2) (fun i s => s.1 = nI (ctN (fun h => fitN (P (S 5 1)) kd nb ct wn (mdS S p h) h) i) ∧ Fr EX σ s.2) 24 _ ?_ ?_ 0 ((0 : Int32), σ) FU (Nat.zero_le _) ⟨rfl, Fr.rf⟩ (FU_big (by omega))
  · rintro n i ⟨acc, σ1⟩ hi ⟨e, f⟩ k
    have e : acc = nI (ctN (fun h => fitN (P (S 5 1)) kd nb ct wn (mdS S p h) h) i) := e
    subst e
    have f : Fr EX σ σ1 := f
    have hX1 : RX S I P σ1 := hX.fr hV (f.mo fun g a j h => EX.nx h)
    show wp (X_hoursOf_L5 (n + 1) c (nI p) (nI _) (nI i) σ1) _
    unfold X_hoursOf_L5
    rw [if_pos (show nI i < 24 from nI_lt (b := 24) hi (by decide)), hX1.1.2.1, if_neg (nI_pos (by omega)), na_cl (by omega), if_neg (by omega), x_mood hX1 hp hi]
    simp only [Option.bind_some]
    obtain ⟨σ2, e2, u2⟩ := s_fitsAt (m := mdS S p i) (h := i) (hX1.2.2.2.2.2.2 (S 5 1) v2) (hP _ v2) (hC.fr f (fun j => by unfold EX; omega)) hB (by have := mdS_lt hV hp hi; omega)
    rw [show X_fitsAt (S 5 1) c (nI (S 0 (24 * p + i))) (nI i) σ1 = _ from e2]
    simp only [Option.bind_some, b2_0]
    rw [show nI i + 1 = nI (i + 1) from (nI_succ i).symm]
    by_cases q : fitN (P (S 5 1)) kd nb ct wn (mdS S p i) i = false
    · rw [if_pos q]
      refine k (_, σ2) ⟨?_, f.tr u2.ex⟩
      show nI _ = nI (ctN (fun h => fitN (P (S 5 1)) kd nb ct wn (mdS S p h) h) i + (if fitN (P (S 5 1)) kd nb ct wn (mdS S p i) i = true then 1 else 0))
      rw [if_neg (by rw [q]; decide), Nat.add_zero]
    · rw [if_neg q]
      refine k (_, σ2) ⟨?_, f.tr u2.ex⟩
      show nI _ + 1 = nI (ctN (fun h => fitN (P (S 5 1)) kd nb ct wn (mdS S p h) h) i + (if fitN (P (S 5 1)) kd nb ct wn (mdS S p i) i = true then 1 else 0))
      rw [if_pos (by simpa using q), nI_succ]
  · rintro n ⟨acc, σ1⟩ ⟨e, f⟩
    show wp (X_hoursOf_L5 (n + 1) c (nI p) acc (nI 24) σ1) _
    unfold X_hoursOf_L5
    rw [if_neg (by decide)]
    exact wp_some ⟨e, f⟩
theorem m_hours (hM : RM S I P τ) (hV : SV S) {c p : Nat} (hc : c < S 5 0) (hp : p < 3) : wp (M_hoursBy (nI c) (nI p) τ) (fun r => r.1 = nI (hrsN S (P (S 5 1)) (S 1 c) (S 2 c) (S 3 c) (S 4 c) p) ∧ Fr SF τ r.2) := by
  obtain ⟨v1, v2, v3, v4⟩ := hV.1
  unfold M_hoursBy
  refine loopW (fun n (s : Int32 × Sg) i => M_hoursBy_L5 n (nI c) (nI p) s.1 (nI i) s.2) (fun i s => s.1 = nI (ctN (fun h => fitS S P c (mdS S p h) h) i) ∧ Fr SF τ s.2) 24 _ ?_ ?_ 0 ((0 : Int32), τ) FU (Nat.zero_le _) ⟨rfl, Fr.rf⟩ (FU_big (by omega))
  · rintro n i ⟨acc, σ1⟩ hi ⟨e, f⟩ k
    have e : acc = nI (ctN (fun h => fitS S P c (mdS S p h) h) i) := e
    subst e
    have f : Fr SF τ σ1 := f
    have hM1 : RM S I P σ1 := hM.fr (f.mo fun g a j h => SF.nm h)
    show wp (M_hoursBy_L5 (n + 1) (nI c) (nI p) (nI _) (nI i) σ1) _
    unfold M_hoursBy_L5
    obtain ⟨ma, mb⟩ := m_mood hM1 hp hi
    rw [if_pos (show nI i < 24 from nI_lt (b := 24) hi (by decide)), ma, if_neg (nI_pos (by omega)), na_cl (by omega), if_neg (by omega), mb]
    obtain ⟨σ2, e2, f2⟩ := m_fits (m := mdS S p i) hM1 hV hc (by have := mdS_lt hV hp hi; omega) i
    rw [e2]
    simp only [Option.bind_some, b2_0]
    rw [show nI i + 1 = nI (i + 1) from (nI_succ i).symm]
    by_cases q : fitS S P c (mdS S p i) i = false
    · rw [if_pos q]
      refine k (_, σ2) ⟨?_, f.tr f2⟩
      show nI _ + nI 0 = nI (ctN (fun h => fitS S P c (mdS S p h) h) i + (if fitS S P c (mdS S p i) i = true then 1 else 0))
      rw [if_neg (by rw [q]; decide), na_add]
    · rw [if_neg q]
      refine k (_, σ2) ⟨?_, f.tr f2⟩
      show nI _ + nI 1 = nI (ctN (fun h => fitS S P c (mdS S p h) h) i + (if fitS S P c (mdS S p i) i = true then 1 else 0))
      rw [if_pos (by simpa using q), na_add]
  · rintro n ⟨acc, σ1⟩ ⟨e, f⟩
    show wp (M_hoursBy_L5 (n + 1) (nI c) (nI p) acc (nI 24) σ1) _
    unfold M_hoursBy_L5
    rw [if_neg (by decide)]
    exact wp_some ⟨e, f⟩
/-- all three together -/
def hraS (S : Nat → Nat → Nat) (P : Nat → Txt) (c : Nat) : Nat := smN (fun p => hrsN S (P (S 5 1)) (S 1 c) (S 2 c) (S 3 c) (S 4 c) p) 3
theorem x_hoursAll (hX : RX S I P σ) (hV : SV S) (hP : ∀ i, i < S 5 2 → TP (P i)) {c : Nat} (hc : c < S 5 0) : wp (X_hoursOfEverybody c σ) (fun r => r.1 = nI (hraS S P c) ∧ Fr EX σ r.2) := by
  unfold X_hoursOfEverybody
  refine loopW (fun n (s : Int32 × Sg) i => X_hoursOfEverybody_L4 n c s.1 (nI i) s.2) (fun i s => s.1 = nI (smN (fun p => hrsN S (P (S 5 1)) (S 1 c) (S 2 c) (S 3 c) (S 4 c) p) i) ∧ Fr EX σ s.2) 3 _ ?_ ?_ 0 ((0 : Int32), σ) FU (Nat.zero_le _) ⟨rfl, Fr.rf⟩ (FU_big (by omega))
  · rintro n i ⟨acc, σ1⟩ hi ⟨e, f⟩ k
    have e : acc = nI (smN (fun p => hrsN S (P (S 5 1)) (S 1 c) (S 2 c) (S 3 c) (S 4 c) p) i) := e
    subst e
    have f : Fr EX σ σ1 := f
    have hX1 : RX S I P σ1 := hX.fr hV (f.mo fun g a j h => EX.nx h)
    show wp (X_hoursOfEverybody_L4 (n + 1) c (nI _) (nI i) σ1) _
    unfold X_hoursOfEverybody_L4
    rw [if_pos (show nI i < 3 from nI_lt (b := 3) hi (by decide))]
    refine wp_bind (x_hours hX1 hV hP (hX1.2.2.1 c hc) (hV.2.2.1 c hc) hi) ?_
    rintro ⟨r, σ2⟩ ⟨e2, f2⟩
    rw [show nI i + 1 = nI (i + 1) from (nI_succ i).symm]
    refine k (_, σ2) ⟨?_, f.tr f2⟩
    show nI _ + r = nI (smN (fun p => hrsN S (P (S 5 1)) (S 1 c) (S 2 c) (S 3 c) (S 4 c) p) i + hrsN S (P (S 5 1)) (S 1 c) (S 2 c) (S 3 c) (S 4 c) i)
    rw [show r = _ from e2, na_add]
  · rintro n ⟨acc, σ1⟩ ⟨e, f⟩
    show wp (X_hoursOfEverybody_L4 (n + 1) c acc (nI 3) σ1) _
    unfold X_hoursOfEverybody_L4
    rw [if_neg (by decide)]
    exact wp_some ⟨e, f⟩
theorem m_hoursAll (hM : RM S I P τ) (hV : SV S) {c : Nat} (hc : c < S 5 0) : wp (M_hoursOf (nI c) τ) (fun r => r.1 = nI (hraS S P c) ∧ Fr SF τ r.2) := by
  unfold M_hoursOf
  refine loopW (fun n (s : Int32 × Sg) i => M_hoursOf_L4 n (nI c) s.1 (nI i) s.2) (fun i s => s.1 = nI (smN (fun p => hrsN S (P (S 5 1)) (S 1 c) (S 2 c) (S 3 c) (S 4 c) p) i) ∧ Fr SF τ s.2) 3 _ ?_ ?_ 0 ((0 : Int32), τ) FU (Nat.zero_le _) ⟨rfl, Fr.rf⟩ (FU_big (by omega))
  · rintro n i ⟨acc, σ1⟩ hi ⟨e, f⟩ k
    have e : acc = nI (smN (fun p => hrsN S (P (S 5 1)) (S 1 c) (S 2 c) (S 3 c) (S 4 c) p) i) := e
    subst e
    have f : Fr SF τ σ1 := f
    have hM1 : RM S I P σ1 := hM.fr (f.mo fun g a j h => SF.nm h)
    show wp (M_hoursOf_L4 (n + 1) (nI c) (nI _) (nI i) σ1) _
    unfold M_hoursOf_L4
    rw [if_pos (show nI i < 3 from nI_lt (b := 3) hi (by decide))]
    refine wp_bind (m_hours hM1 hV hc hi) ?_
    rintro ⟨r, σ2⟩ ⟨e2, f2⟩
    rw [show nI i + 1 = nI (i + 1) from (nI_succ i).symm]
    refine k (_, σ2) ⟨?_, f.tr f2⟩
    show nI _ + r = nI (smN (fun p => hrsN S (P (S 5 1)) (S 1 c) (S 2 c) (S 3 c) (S 4 c) p) i + hrsN S (P (S 5 1)) (S 1 c) (S 2 c) (S 3 c) (S 4 c) i)
    rw [show r = _ from e2, na_add]
  · rintro n ⟨acc, σ1⟩ ⟨e, f⟩
    show wp (M_hoursOf_L4 (n + 1) (nI c) acc (nI 3) σ1) _
    unfold M_hoursOf_L4
    rw [if_neg (by decide)]
    exact wp_some ⟨e, f⟩
end
