/-! the cheapest day in the reference -/
/-- the fine, the cost of a choice at an hour: none first, then the coats -/
def cfN (S : Nat → Nat → Nat) (P : Nat → Txt) (md : Nat → Nat) (h k : Nat) : Nat := if k = 0 then 99 else if fitS S P (k - 1) (md h) h = true then 0 else fineS S P (k - 1) (md h) h
def ccN (S : Nat → Nat → Nat) (P : Nat → Txt) (md : Nat → Nat) (h k : Nat) : Nat := if k = 0 then 0 else costS S P (k - 1) (md h) h
theorem cF {S : Nat → Nat → Nat} {P : Nat → Txt} (hV : SV S) (md : Nat → Nat) : FG (cfN S P md) (ccN S P md) (S 5 0) := fun h k hh hk => by
  constructor
  · unfold cfN
    split
    · omega
    · rename_i c
      split
      · omega
      · exact fineS_le (by have := (hV.2.2.1 (k - 1) (by omega)).2.1; omega)
  · unfold ccN
    split
    · omega
    · exact costS_le
def SC : Nat → Nat → Nat → Prop := fun g _ j => (g = 30 ∧ 11 ≤ j ∧ j ≤ 25) ∨ (40 ≤ g ∧ g ≤ 43)
theorem SC.nm {g a j : Nat} (h : SC g a j) : NM g a j := by unfold SC at h; unfold NM; omega
theorem SF.sc {g a j : Nat} (h : SF g a j) : SC g a j := Or.inl h
section
variable {S : Nat → Nat → Nat} {I : Nat → Nat → Int32} {P : Nat → Txt} {τ : Sg}
/-- the reference's tables of fines and costs, hours below h, and k choices of hour h -/
def TM (f g : Nat → Nat → Nat) (n h k : Nat) (τ : Sg) : Prop := ∀ h' k', h' < 24 → k' ≤ n → h' < h ∨ (h' = h ∧ k' < k) → τ 41 0 (9 * h' + k') = nI (f h' k') ∧ τ 42 0 (9 * h' + k') = nI (g h' k')
theorem m_L23 (hV : SV S) {p h : Nat} (hh : h < 24) {md : Nat → Nat} (hmd : md h < 100) {k2 : Int32 → Int32 → Sg → Option (Int32 × Sg)} {Q : Int32 × Sg → Prop} {τ0 : Sg} (hM0 : RM S I P τ0) (hfr : Fr SC τ0 τ) (hT : TM (cfN S P md) (ccN S P md) (S 5 0) h 0 τ)
    (k : ∀ τ', Fr SC τ0 τ' → TM (cfN S P md) (ccN S P md) (S 5 0) (h + 1) 0 τ' → wp (k2 (nI p) (nI (h + 1)) τ') Q) : wp (M_cheapOf_L23 k2 FU (nI p) (nI h) (nI (md h)) 0 τ) Q := by
  obtain ⟨v1, v2, v3, v4⟩ := hV.1
  refine loopW (fun m (z : Sg) i => M_cheapOf_L23 k2 m (nI p) (nI h) (nI (md h)) (nI i) z) (fun i z => Fr SC τ0 z ∧ TM (cfN S P md) (ccN S P md) (S 5 0) h i z) (S 5 0 + 1) Q ?_ ?_ 0 τ FU (Nat.zero_le _) ⟨hfr, hT⟩ (FU_big (by omega))
  · rintro m i z hi ⟨f1, t1⟩ kk
    have hM : RM S I P z := hM0.fr (f1.mo fun g a j q => q.nm)
    show wp (M_cheapOf_L23 k2 (m + 1) (nI p) (nI h) (nI (md h)) (nI i) z) Q
    rw [M_cheapOf_L23, hM.1.1, if_neg (nI_nlt (by omega) (by omega))]
    have e9 : (9 : Int32) * nI h + nI i = nI (9 * h + i) := by rw [show (9 : Int32) = nI 9 from rfl, na_mul, na_add]
    -- behind the fine
    have j70 : ∀ (z2 : Sg) (w : Nat), Fr SF z z2 → w = cfN S P md h i → wp (M_cheapOf_J70 k2 (fun y0 y1 y2 y3 τ => M_cheapOf_L23 k2 m y0 y1 y2 y3 τ) (nI p) (nI h) (nI (md h)) (nI i) (nI (9 * h + i)) (nI w) z2) Q := by
      intro z2 w f2 hw
      subst hw
      unfold M_cheapOf_J70
      rw [if_neg (nI_pos (by omega)), na_cl (by omega), if_neg (by omega)]
      simp only []
      have f3 : Fr SC τ0 (upd3 z2 41 0 (9 * h + i) (nI (cfN S P md h i))) := (f1.tr (f2.mo fun g a j q => SF.sc q)).up (by unfold SC; omega)
      have hM3 : RM S I P (upd3 z2 41 0 (9 * h + i) (nI (cfN S P md h i))) := hM0.fr (f3.mo fun g a j q => q.nm)
      have fin : ∀ z4, Fr SF (upd3 z2 41 0 (9 * h + i) (nI (cfN S P md h i))) z4 → wp (M_cheapOf_L23 k2 m (nI p) (nI h) (nI (md h)) (nI i + 1) (upd3 z4 42 0 (9 * h + i) (nI (ccN S P md h i)))) Q := by
        intro z4 f4
        rw [show nI i + 1 = nI (i + 1) from (nI_succ i).symm]
        refine kk _ ⟨(f3.tr (f4.mo fun g a j q => SF.sc q)).up (by unfold SC; omega), fun h' k' q1 q2 q3 => ?_⟩
        by_cases e : h' = h ∧ k' = i
        · obtain ⟨e1, e2⟩ := e
          subst e1; subst e2
          refine ⟨?_, u3s _ _ _ _ _⟩
          rw [u3n _ _ _ _ _ (by omega), f4 41 0 _ (by unfold SF; omega), u3s]
        · have := t1 h' k' q1 q2 (by omega)
          have ne : 9 * h' + k' ≠ 9 * h + i := by omega
          rw [u3n _ _ _ _ _ (by omega), u3n _ _ _ _ _ (by omega), f4 41 0 _ (by unfold SF; omega), f4 42 0 _ (by unfold SF; omega), u3n _ _ _ _ _ (by omega), u3n _ _ _ _ _ (by omega), f2 41 0 _ (by unfold SF; omega), f2 42 0 _ (by unfold SF; omega)]
          exact this
      rw [e9]
      by_cases c : i = 0
      · subst c
        rw [show M_costOf (nI 0 - 1) (nI (md h)) (nI h) (upd3 z2 41 0 (9 * h + 0) (nI (cfN S P md h 0))) = some (0, upd3 z2 41 0 (9 * h + 0) (nI (cfN S P md h 0))) from rfl]
        simp only [Option.bind_some]
        rw [if_neg (nI_pos (by omega)), na_cl (by omega), if_neg (by omega)]
        exact fin _ Fr.rf
      · obtain ⟨z4, e4, f4⟩ := m_cost (m := md h) hM3 hV (show i - 1 < S 5 0 by omega) (by omega) h
        rw [show nI i - 1 = nI (i - 1) from na_sub (b := 1) (by omega), e4]
        simp only [Option.bind_some]
        rw [if_neg (nI_pos (by omega)), na_cl (by omega), if_neg (by omega)]
        have := fin z4 f4
        rw [show ccN S P md h i = costS S P (i - 1) (md h) h by unfold ccN; rw [if_neg c]] at this
        exact this
    rw [e9]
    by_cases c : i = 0
    · subst c
      rw [show M_fits (nI 0 - 1) (nI (md h)) (nI h) z = some (0, z) from rfl]
      simp only [Option.bind_some, if_true]
      rw [show M_fineOf (nI 0 - 1) (nI (md h)) (nI h) z = some (nI 99, z) from rfl]
      simp only [Option.bind_some]
      exact j70 z 99 Fr.rf rfl
    · obtain ⟨z2, e2, f2⟩ := m_fits (m := md h) hM hV (show i - 1 < S 5 0 by omega) (by omega) h
      rw [show nI i - 1 = nI (i - 1) from na_sub (b := 1) (by omega), e2]
      simp only [Option.bind_some, b2_0]
      by_cases q : fitS S P (i - 1) (md h) h = false
      · rw [if_pos q]
        have hM2 : RM S I P z2 := hM.fr (f2.mo fun g a j q => q.nm)
        obtain ⟨z3, e3, f3⟩ := m_fine (m := md h) hM2 hV (show i - 1 < S 5 0 by omega) (by omega) h
        rw [e3]
        simp only [Option.bind_some]
        exact j70 z3 _ (f2.tr f3) (by unfold cfN; rw [if_neg c, if_neg (by rw [q]; decide)])
      · rw [if_neg q]
        exact j70 z2 0 f2 (by unfold cfN; rw [if_neg c, if_pos (by simpa using q)])
  · rintro m z ⟨f1, t1⟩
    have hM : RM S I P z := hM0.fr (f1.mo fun g a j q => q.nm)
    show wp (M_cheapOf_L23 k2 (m + 1) (nI p) (nI h) (nI (md h)) (nI (S 5 0 + 1)) z) Q
    rw [M_cheapOf_L23, hM.1.1, if_pos (nI_lt (by omega) (by omega)), show nI h + 1 = nI (h + 1) from (nI_succ h).symm]
    exact k z f1 (fun h' k' q1 q2 q3 => t1 h' k' q1 q2 (by omega))
end
section
variable {f g : Nat → Nat → Nat} {n : Nat} {τ0 τ : Sg}
/-- all told -/
def Tm (f g : Nat → Nat → Nat) (n : Nat) (τ : Sg) : Prop := τ 30 0 10 = nI n ∧ ∀ h k, h < 24 → k ≤ n → τ 41 0 (9 * h + k) = nI (f h k) ∧ τ 42 0 (9 * h + k) = nI (g h k)
def SE : Nat → Nat → Nat → Prop := fun g _ _ => g = 40 ∨ g = 43
theorem Tm.fr {τ τ' : Sg} (h : Tm f g n τ) (fr : Fr SE τ τ') : Tm f g n τ' := ⟨by rw [fr _ _ _ (by unfold SE; omega)]; exact h.1, fun a k ha hk => by rw [fr _ _ _ (by unfold SE; omega), fr _ _ _ (by unfold SE; omega)]; exact h.2 a k ha hk⟩
/-- the least from an hour on -/
def Lm (f g : Nat → Nat → Nat) (n h0 : Nat) (τ : Sg) : Prop := ∀ h k, h0 ≤ h → h ≤ 24 → k ≤ n → τ 40 0 (9 * h + k) = nI (LH f g n h k)
theorem m_byCoat (hF : FG f g n) (hn : n ≤ 8) {h k a : Nat} (hh : h < 24) (hk : k ≤ n) (hT : Tm f g n τ) (hL : τ 40 0 (9 * (h + 1) + k) = nI (LH f g n (h + 1) k)) (ha : a ≤ n) : M_byCoat (nI h) (nI k) (nI a) τ = some (nI (f h k + LH f g n (h + 1) k + (if k = a then 0 else g h k)), τ) := by
  have b1 := (hF h k hh hk).1
  have b2 := LH_le hF (24 - (h + 1)) (h + 1) k (by omega) hk
  have b4 := (hF h k hh hk).2
  have t1 := hT.2 h k hh hk
  have e9 : (9 : Int32) * nI h + nI k = nI (9 * h + k) := by rw [show (9 : Int32) = nI 9 from rfl, na_mul, na_add]
  have e91 : (9 : Int32) * (nI h + 1) + nI k = nI (9 * (h + 1) + k) := by rw [show nI h + 1 = nI (h + 1) from (nI_succ h).symm, show (9 : Int32) = nI 9 from rfl, na_mul, na_add]
  unfold M_byCoat M_byCoat_J31
  rw [e9, e91, if_neg (nI_pos (by omega)), na_cl (by omega), if_neg (by omega), t1.1, t1.2, if_neg (nI_pos (by omega)), na_cl (show 9 * (h + 1) + k < 2147483648 by omega), if_neg (show ¬ 225 ≤ 9 * (h + 1) + k by omega), hL]
  by_cases e : k = a
  · rw [if_pos (by rw [e]), if_pos e, show nI (f h k) + 0 = nI (f h k) from Int32.add_zero _, na_add]
    rfl
  · rw [if_neg (na_ne (by omega) (by omega) e), if_neg (nI_pos (by omega)), if_neg (by omega), if_neg e, if_neg (nI_pos (by omega)), if_neg (by omega), na_add, na_add]
    congr 2
    congr 1
    omega
/-- a row of the least, from the end on -/
theorem m_L135 (hF : FG f g n) (hn : n ≤ 8) {Q : Int32 × Sg → Prop} (k : ∀ τ', Tm f g n τ' → Lm f g n 0 τ' → Fr SE τ0 τ' → wp (M_cheapOf_L233 FU 0 0 τ') Q) : ∀ h m τ, h ≤ 24 → h < m → Tm f g n τ → Lm f g n h τ → Fr SE τ0 τ → wp (M_cheapOf_L135 m (nI h + (-1)) τ) Q := by
  intro h
  induction h with
  | zero =>
    intro m τ h1 h2 h3 h4 h5
    obtain ⟨m, rfl⟩ : ∃ m', m = m' + 1 := ⟨m - 1, by omega⟩
    rw [M_cheapOf_L135, if_pos (by decide)]
    exact k τ h3 h4 h5
  | succ h ih =>
    intro m τ h1 h2 h3 h4 h5
    obtain ⟨m, rfl⟩ : ∃ m', m = m' + 1 := ⟨m - 1, by omega⟩
    rw [M_cheapOf_L135, pk_m1, if_neg (nI_pos (by omega))]
    -- each choice that was on ahead
    refine loopW (fun N (z : Sg) a => M_cheapOf_L141 (fun y0 τ => M_cheapOf_L135 m y0 τ) N (nI h) (nI a) z) (fun a z => Tm f g n z ∧ Lm f g n (h + 1) z ∧ Fr SE τ0 z ∧ ∀ k, k < a → z 40 0 (9 * h + k) = nI (LH f g n h k)) (n + 1) Q ?_ ?_ 0 τ FU (Nat.zero_le _) ⟨h3, h4, h5, fun k hk => absurd hk (Nat.not_lt_zero _)⟩ (FU_big (by omega))
    · rintro N a z ha ⟨z1, z2, z3, z4⟩ kk
      show wp (M_cheapOf_L141 (fun y0 τ => M_cheapOf_L135 m y0 τ) (N + 1) (nI h) (nI a) z) Q
      have bc : ∀ k, k ≤ n → M_byCoat (nI h) (nI k) (nI a) z = some (nI (f h k + LH f g n (h + 1) k + (if k = a then 0 else g h k)), z) := fun k hk => m_byCoat hF hn (by omega) hk z1 (z2 (h + 1) k (Nat.le_refl _) (by omega) hk) (by omega)
      have bnd : ∀ k, k ≤ n → f h k + LH f g n (h + 1) k + (if k = a then 0 else g h k) ≤ 99 * 26 := fun k hk => by
        have b1 := (hF h k (by omega) hk).1
        have b2 := LH_le hF (24 - (h + 1)) (h + 1) k (by omega) hk
        have b4 := (hF h k (by omega) hk).2
        split <;> omega
      rw [M_cheapOf_L141, z1.1, if_neg (nI_nlt (by omega) (by omega)), show (0 : Int32) = nI 0 from rfl, bc 0 (Nat.zero_le _)]
      simp only [Option.bind_some]
      rw [show (1 : Int32) = nI 1 from rfl]
      refine loopW (fun N2 (v : Nat) k => M_cheapOf_L161 (fun y0 τ => M_cheapOf_L135 m y0 τ) (fun y0 y1 τ => M_cheapOf_L141 (fun y0 τ => M_cheapOf_L135 m y0 τ) N y0 y1 τ) N2 (nI h) (nI a) (nI v) (nI k) z) (fun k v => 1 ≤ k ∧ v = minN (fun k => f h k + LH f g n (h + 1) k + (if k = a then 0 else g h k)) (k - 1)) (n + 1) Q ?_ ?_ 1 _ FU (by omega) ⟨Nat.le_refl _, rfl⟩ (FU_big (by omega))
      · rintro N2 k v hk ⟨q0, q⟩ k3
        obtain ⟨k, rfl⟩ : ∃ k', k = k' + 1 := ⟨k - 1, by omega⟩
        rw [Nat.add_sub_cancel] at q
        show wp (M_cheapOf_L161 _ _ (N2 + 1) (nI h) (nI a) (nI v) (nI (k + 1)) z) Q
        have bv : v ≤ 99 * 26 := by rw [q]; exact Nat.le_trans (minN_le _ k 0 (Nat.zero_le _)) (bnd 0 (Nat.zero_le _))
        have bk := bnd (k + 1) (by omega)
        rw [M_cheapOf_L161, z1.1, if_neg (nI_nlt (by omega) (by omega)), bc (k + 1) (by omega)]
        simp only [Option.bind_some]
        rw [show nI (k + 1) + 1 = nI (k + 1 + 1) from (nI_succ _).symm]
        by_cases c : f h (k + 1) + LH f g n (h + 1) (k + 1) + (if k + 1 = a then 0 else g h (k + 1)) < v
        · rw [if_pos (nI_lt c (by omega)), bc (k + 1) (by omega)]
          simp only [Option.bind_some]
          refine k3 _ ⟨by omega, ?_⟩
          rw [Nat.add_sub_cancel]
          show _ = min (minN (fun k => f h k + LH f g n (h + 1) k + (if k = a then 0 else g h k)) k) (f h (k + 1) + LH f g n (h + 1) (k + 1) + (if k + 1 = a then 0 else g h (k + 1)))
          rw [← q, Nat.min_eq_right (by omega)]
        · rw [if_neg (nI_nlt (by omega) (by omega))]
          refine k3 _ ⟨by omega, ?_⟩
          rw [Nat.add_sub_cancel]
          show _ = min (minN (fun k => f h k + LH f g n (h + 1) k + (if k = a then 0 else g h k)) k) (f h (k + 1) + LH f g n (h + 1) (k + 1) + (if k + 1 = a then 0 else g h (k + 1)))
          rw [← q, Nat.min_eq_left (by omega)]
      · rintro N2 v ⟨q0, q⟩
        rw [Nat.add_sub_cancel] at q
        rw [← LH_s (by omega)] at q
        subst q
        show wp (M_cheapOf_L161 _ _ (N2 + 1) (nI h) (nI a) _ (nI (n + 1)) z) Q
        rw [M_cheapOf_L161, z1.1, if_pos (nI_lt (by omega) (by omega)), show (9 : Int32) * nI h + nI a = nI (9 * h + a) by rw [show (9 : Int32) = nI 9 from rfl, na_mul, na_add], if_neg (nI_pos (by omega)), na_cl (by omega), if_neg (by omega), show nI a + 1 = nI (a + 1) from (nI_succ a).symm]
        have fS : Fr SE z (upd3 z 40 0 (9 * h + a) (nI (LH f g n h a))) := Fr.rf.up (Or.inl rfl)
        refine kk _ ⟨z1.fr fS, fun h' k' q1 q2 q3 => ?_, z3.tr fS, fun k hk => ?_⟩
        · rw [u3n _ _ _ _ _ (by omega)]; exact z2 h' k' q1 q2 q3
        · by_cases e : k = a
          · subst e; exact u3s _ _ _ _ _
          · rw [u3n _ _ _ _ _ (by omega)]; exact z4 k (by omega)
    · rintro N z ⟨z1, z2, z3, z4⟩
      show wp (M_cheapOf_L141 (fun y0 τ => M_cheapOf_L135 m y0 τ) (N + 1) (nI h) (nI (n + 1)) z) Q
      rw [M_cheapOf_L141, z1.1, if_pos (nI_lt (by omega) (by omega))]
      refine ih m z (by omega) (by omega) z1 (fun h' k' q1 q2 q3 => ?_) z3
      by_cases e : h' = h
      · subst e; exact z4 k' (by omega)
      · exact z2 h' k' (by omega) q2 q3
/-- what is worn, hour by hour -/
theorem m_L233 (hF : FG f g n) (hn : n ≤ 8) (hT : Tm f g n τ) (hL : Lm f g n 0 τ) (hfr : Fr SE τ0 τ) : wp (M_cheapOf_L233 FU 0 0 τ) (fun r => r.1 = nI (LH f g n 0 0) ∧ (∀ h, h < 24 → r.2 43 0 h = nI (cwN f g n (h + 1)) - 1) ∧ Fr SE τ0 r.2) := by
  refine loopW (fun N (z : Sg) h => M_cheapOf_L233 N (nI (cwN f g n h)) (nI h) z) (fun h z => Tm f g n z ∧ Lm f g n 0 z ∧ Fr SE τ0 z ∧ ∀ h', h' < h → z 43 0 h' = nI (cwN f g n (h' + 1)) - 1) 24 _ ?_ ?_ 0 τ FU (Nat.zero_le _) ⟨hT, hL, hfr, fun h hh => absurd hh (Nat.not_lt_zero _)⟩ (FU_big (by omega))
  · rintro N h z hh ⟨z1, z2, z3, z4⟩ kk
    have ha := cwN_le (f := f) (g := g) (n := n) (h := h)
    show wp (M_cheapOf_L233 (N + 1) (nI (cwN f g n h)) (nI h) z) _
    rw [M_cheapOf_L233, if_pos (show nI h < 24 from nI_lt (b := 24) hh (by decide))]
    obtain ⟨kx, x2, x3⟩ : ∃ k, k ≤ n ∧ LH f g n h (cwN f g n h) = f h k + LH f g n (h + 1) k + (if k = cwN f g n h then 0 else g h k) := by
      rw [LH_s hh]
      exact minN_at _ n
    have bl := LH_le hF (24 - h) h (cwN f g n h) (by omega) ha
    -- one step of the search
    have st : ∀ N2 i, i ≤ n → M_cheapOf_L242 (fun y0 y1 τ => M_cheapOf_L233 N y0 y1 τ) (N2 + 1) (nI (cwN f g n h)) (nI h) (nI i) z = if f h i + LH f g n (h + 1) i + (if i = cwN f g n h then 0 else g h i) = LH f g n h (cwN f g n h) then M_cheapOf_L233 N (nI i) (nI (h + 1)) (upd3 z 43 0 h (nI i - 1)) else M_cheapOf_L242 (fun y0 y1 τ => M_cheapOf_L233 N y0 y1 τ) N2 (nI (cwN f g n h)) (nI h) (nI (i + 1)) z := by
      intro N2 i hi
      have b1 := (hF h i hh hi).1
      have b2 := LH_le hF (24 - (h + 1)) (h + 1) i (by omega) hi
      have b4 := (hF h i hh hi).2
      rw [M_cheapOf_L242, m_byCoat hF hn hh hi z1 (z2 (h + 1) i (Nat.zero_le _) (by omega) hi) ha]
      simp only [Option.bind_some]
      rw [show (9 : Int32) * nI h + nI (cwN f g n h) = nI (9 * h + cwN f g n h) by rw [show (9 : Int32) = nI 9 from rfl, na_mul, na_add], if_neg (nI_pos (by omega)), na_cl (by omega), if_neg (by omega), z2 h _ (Nat.zero_le _) (by omega) ha]
      simp only [if_neg (nI_pos (show h < 2147483648 by omega)), na_cl (show h < 2147483648 by omega), if_neg (show ¬ 24 ≤ h by omega)]
      rw [show nI h + 1 = nI (h + 1) from (nI_succ h).symm, show nI i + 1 = nI (i + 1) from (nI_succ i).symm]
      by_cases c : f h i + LH f g n (h + 1) i + (if i = cwN f g n h then 0 else g h i) = LH f g n h (cwN f g n h)
      · rw [if_pos (by rw [c]), if_pos c]
      · rw [if_neg (na_ne (by split <;> omega) (by omega) c), if_neg c]
    have key : ∀ m i N2, i + m = n → m + 1 < N2 → i ≤ kx → M_cheapOf_L242 (fun y0 y1 τ => M_cheapOf_L233 N y0 y1 τ) N2 (nI (cwN f g n h)) (nI h) (nI i) z = M_cheapOf_L233 N (nI (fsN (fun k => f h k + LH f g n (h + 1) k + (if k = cwN f g n h then 0 else g h k)) (LH f g n h (cwN f g n h)) m i)) (nI (h + 1)) (upd3 z 43 0 h (nI (fsN (fun k => f h k + LH f g n (h + 1) k + (if k = cwN f g n h then 0 else g h k)) (LH f g n h (cwN f g n h)) m i) - 1)) := by
      intro m
      induction m with
      | zero =>
        intro i N2 hi hN hx
        obtain ⟨N2, rfl⟩ : ∃ m', N2 = m' + 1 := ⟨N2 - 1, by omega⟩
        have : i = kx := by omega
        subst this
        rw [st N2 i (by omega), if_pos x3.symm]
        rfl
      | succ m ih =>
        intro i N2 hi hN hx
        obtain ⟨N2, rfl⟩ : ∃ m', N2 = m' + 1 := ⟨N2 - 1, by omega⟩
        rw [st N2 i (by omega)]
        by_cases q : f h i + LH f g n (h + 1) i + (if i = cwN f g n h then 0 else g h i) = LH f g n h (cwN f g n h)
        · rw [if_pos q]
          have : fsN (fun k => f h k + LH f g n (h + 1) k + (if k = cwN f g n h then 0 else g h k)) (LH f g n h (cwN f g n h)) (m + 1) i = i := if_pos q
          rw [this]
        · rw [if_neg q]
          have : fsN (fun k => f h k + LH f g n (h + 1) k + (if k = cwN f g n h then 0 else g h k)) (LH f g n h (cwN f g n h)) (m + 1) i = fsN (fun k => f h k + LH f g n (h + 1) k + (if k = cwN f g n h then 0 else g h k)) (LH f g n h (cwN f g n h)) m (i + 1) := if_neg q
          rw [this]
          refine ih (i + 1) N2 (by omega) (by omega) ?_
          by_cases e : kx = i
          · subst e; exact absurd x3.symm q
          · omega
    have e0 := key n 0 FU (by omega) (FU_big (by omega)) (Nat.zero_le _)
    rw [show (0 : Int32) = nI 0 from rfl, e0]
    have fS : Fr SE z (upd3 z 43 0 h (nI (cwN f g n (h + 1)) - 1)) := Fr.rf.up (Or.inr rfl)
    refine kk (upd3 z 43 0 h (nI (cwN f g n (h + 1)) - 1)) ⟨z1.fr fS, fun h' k' q1 q2 q3 => ?_, z3.tr fS, fun h' hh' => ?_⟩
    · rw [u3n _ _ _ _ _ (by omega)]; exact z2 h' k' q1 q2 q3
    · by_cases e : h' = h
      · subst e; exact u3s _ _ _ _ _
      · rw [u3n _ _ _ _ _ (by omega)]; exact z4 h' (by omega)
  · rintro N z ⟨z1, z2, z3, z4⟩
    show wp (M_cheapOf_L233 (N + 1) (nI (cwN f g n 24)) (nI 24) z) _
    rw [M_cheapOf_L233, if_neg (by decide)]
    have := z2 0 0 (Nat.le_refl _) (by omega) (Nat.zero_le _)
    exact wp_some ⟨this, z4, z3⟩
end
section
variable {S : Nat → Nat → Nat} {I : Nat → Nat → Int32} {P : Nat → Txt} {τ : Sg}
theorem SE.sc {g a j : Nat} (h : SE g a j) : SC g a j := by unfold SE at h; unfold SC; omega
theorem m_cheapOf (hM : RM S I P τ) (hV : SV S) {p : Nat} (hp : p < 3) : wp (M_cheapOf (nI p) τ) (fun r => r.1 = nI (LH (cfN S P (mdS S p)) (ccN S P (mdS S p)) (S 5 0) 0 0) ∧ (∀ h, h < 24 → r.2 43 0 h = nI (cwN (cfN S P (mdS S p)) (ccN S P (mdS S p)) (S 5 0) (h + 1)) - 1) ∧ Fr SC τ r.2) := by
  obtain ⟨v1, v2, v3, v4⟩ := hV.1
  have hF := cF (P := P) hV (mdS S p)
  unfold M_cheapOf
  refine loopW (fun N (z : Sg) h => M_cheapOf_L2 N (nI p) (nI h) z) (fun h z => Fr SC τ z ∧ TM (cfN S P (mdS S p)) (ccN S P (mdS S p)) (S 5 0) h 0 z) 24 _ ?_ ?_ 0 τ FU (Nat.zero_le _) ⟨Fr.rf, fun h' k' q1 q2 q3 => absurd q3 (by omega)⟩ (FU_big (by omega))
  · rintro N h z hh ⟨z1, z2⟩ kk
    have hMz : RM S I P z := hM.fr (z1.mo fun g a j q => q.nm)
    obtain ⟨ma, mb⟩ := m_mood hMz hp hh
    show wp (M_cheapOf_L2 (N + 1) (nI p) (nI h) z) _
    rw [M_cheapOf_L2, if_pos (show nI h < 24 from nI_lt (b := 24) hh (by decide)), ma, if_neg (nI_pos (by omega)), na_cl (by omega), if_neg (by omega), mb]
    exact m_L23 hV hh (md := mdS S p) (mdS_lt hV hp hh) hM z1 z2 (fun τ' q1 q2 => kk τ' ⟨q1, q2⟩)
  · rintro N z ⟨z1, z2⟩
    have hMz : RM S I P z := hM.fr (z1.mo fun g a j q => q.nm)
    show wp (M_cheapOf_L2 (N + 1) (nI p) (nI 24) z) _
    rw [M_cheapOf_L2, if_neg (by decide)]
    have hT : Tm (cfN S P (mdS S p)) (ccN S P (mdS S p)) (S 5 0) z := ⟨hMz.1.1, fun h k hh hk => z2 h k hh hk (Or.inl hh)⟩
    -- behind the last hour
    refine loopW (fun N (z' : Sg) k => M_cheapOf_L107 N (nI k) z') (fun k z' => Tm (cfN S P (mdS S p)) (ccN S P (mdS S p)) (S 5 0) z' ∧ Fr SE z z' ∧ ∀ j, j < k → z' 40 0 (216 + j) = 0) (S 5 0 + 1) _ ?_ ?_ 0 z FU (Nat.zero_le _) ⟨hT, Fr.rf, fun j hj => absurd hj (Nat.not_lt_zero _)⟩ (FU_big (by omega))
    · rintro N k z' hk ⟨y1, y2, y3⟩ kk
      show wp (M_cheapOf_L107 (N + 1) (nI k) z') _
      rw [M_cheapOf_L107, y1.1, if_neg (nI_nlt (by omega) (by omega)), show (216 : Int32) + nI k = nI (216 + k) from na_add 216 k, if_neg (nI_pos (by omega)), na_cl (by omega), if_neg (by omega), show nI k + 1 = nI (k + 1) from (nI_succ k).symm]
      have fS : Fr SE z' (upd3 z' 40 0 (216 + k) 0) := Fr.rf.up (Or.inl rfl)
      refine kk _ ⟨y1.fr fS, y2.tr fS, fun j hj => ?_⟩
      by_cases e : j = k
      · subst e; exact u3s _ _ _ _ _
      · rw [u3n _ _ _ _ _ (by omega)]; exact y3 j (by omega)
    · rintro N z' ⟨y1, y2, y3⟩
      show wp (M_cheapOf_L107 (N + 1) (nI (S 5 0 + 1)) z') _
      rw [M_cheapOf_L107, y1.1, if_pos (nI_lt (by omega) (by omega))]
      refine wp_mono (m_L135 (τ0 := z) hF v1 (fun τ' q1 q2 q3 => m_L233 hF v1 q1 q2 q3) 24 FU z' (Nat.le_refl _) (FU_big (by omega)) y1 (fun h k q1 q2 q3 => ?_) y2) ?_
      · have : h = 24 := by omega
        subst this
        rw [LH_24, show 9 * 24 + k = 216 + k by omega, y3 k (by omega)]
        rfl
      · rintro ⟨r, z3⟩ ⟨r1, r2, r3⟩
        exact ⟨r1, r2, z1.tr (r3.mo fun g a j q => q.sc)⟩
end
