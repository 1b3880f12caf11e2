/-! the calls: tells, the class -/
section
variable {S : Nat → Nat → Nat} {I : Nat → Nat → Int32} {P : Nat → Txt} {σ τ : Sg}
/-- the first place from i on, of m, that f names -/
def foF (f : Nat → Bool) : Nat → Nat → Int32
  | 0, _ => -1
  | m + 1, i => if f i = true then nI i else foF f m (i + 1)
/-- a sheet tells of a mood otherwise -/
def otB (I : Nat → Nat → Int32) (s : Nat) (Q : Txt) (kd nb ct wn h : Nat) : Nat → Bool := fun j => !decide (I s j = b2 (fitN Q kd nb ct wn j h))
theorem x_first {Q : Txt} {t s c kd nb ct wn m h : Nat} (hT : TX Q t σ) (hP : TP Q) (hC : CT kd nb ct wn c σ) (hB : CB kd nb ct wn) (hm : m ≤ 40) (hz : σ 12 s 2 = nI m) (hi : ∀ j, j < m → σ 13 s j = I s j) : wp (X_firstOtherwise s t c (nI h) σ) (fun r => r.1 = foF (otB I s Q kd nb ct wn h) m 0 ∧ Fr EX σ r.2) := by
  unfold X_firstOtherwise
  refine loopW (fun n (y : Sg) i => X_firstOtherwise_L3 n s t c (nI h) (nI i) y) (fun i y => foF (otB I s Q kd nb ct wn h) (m - i) i = foF (otB I s Q kd nb ct wn h) m 0 ∧ Fr EX σ y) m _ ?_ ?_ 0 σ FU (by omega) ⟨rfl, Fr.rf⟩ (FU_big (by omega))
  · rintro n i y hi' ⟨e, f⟩ k
    show wp (X_firstOtherwise_L3 (n + 1) s t c (nI h) (nI i) y) _
    rw [X_firstOtherwise_L3, f 12 s 2 (by unfold EX; omega), hz, if_pos (nI_lt hi' (by omega))]
    obtain ⟨y2, e2, u2⟩ := s_fitsAt (m := i) (h := h) (hT.fr f (fun j => by unfold EX; omega)) hP (hC.fr f (fun j => by unfold EX; omega)) hB (by omega)
    rw [e2]
    simp only [Option.bind_some, b2_0]
    have f2 : Fr EX σ y2 := f.tr u2.ex
    have fin : ∀ b : Bool, fitN Q kd nb ct wn i h = b → wp (X_firstOtherwise_J28 (fun y0 y1 y2 y3 y4 τ => X_firstOtherwise_L3 n y0 y1 y2 y3 y4 τ) s t c (nI h) (nI i) (b2 b) y2) (fun r => r.1 = foF (otB I s Q kd nb ct wn h) m 0 ∧ Fr EX σ r.2) := by
      intro b hb
      unfold X_firstOtherwise_J28
      rw [s_item (by rw [f2 12 s 2 (by unfold EX; omega)]; exact hz) hm hi', f2 13 s i (by unfold EX; omega), hi i hi']
      simp only [Option.bind_some]
      rw [show m - i = (m - (i + 1)) + 1 by omega, foF] at e
      have oe : otB I s Q kd nb ct wn h i = !decide (I s i = b2 b) := by unfold otB; rw [hb]
      rw [oe] at e
      by_cases d : I s i = b2 b
      · rw [if_pos d, show nI i + 1 = nI (i + 1) from (nI_succ i).symm]
        refine k y2 ⟨?_, f2⟩
        rw [decide_eq_true d, if_neg (by decide)] at e
        exact e
      · rw [if_neg d]
        rw [decide_eq_false d, if_pos (by decide)] at e
        exact wp_some ⟨e, f2⟩
    cases hb : fitN Q kd nb ct wn i h with
    | false => exact fin false hb
    | true => exact fin true hb
  · rintro n y ⟨e, f⟩
    show wp (X_firstOtherwise_L3 (n + 1) s t c (nI h) (nI m) y) _
    rw [X_firstOtherwise_L3, f 12 s 2 (by unfold EX; omega), hz, if_neg (nI_nlt (Nat.le_refl _) (by omega))]
    rw [Nat.sub_self, foF] at e
    exact wp_some ⟨e, f⟩
theorem m_first (hM : RM S I P τ) (hV : SV S) {s c h : Nat} (hs : s < 4) (h7 : S 7 s ≠ 0) (hc : c < S 5 0) : wp (M_firstOther (nI s) (nI c) (nI h) τ) (fun r => r.1 = foF (otB I s (P (S 5 1)) (S 1 c) (S 2 c) (S 3 c) (S 4 c) h) (S 8 s) 0 ∧ Fr SF τ r.2) := by
  have w2 := (hV.2.2.2.2.1 s hs).2
  obtain ⟨n1, n2, n3⟩ := (hM.2.2.2.2.1 s hs).2 h7
  unfold M_firstOther
  refine loopW (fun n (y : Sg) i => M_firstOther_L3 n (nI s) (nI c) (nI h) (nI i) y) (fun i y => foF (otB I s (P (S 5 1)) (S 1 c) (S 2 c) (S 3 c) (S 4 c) h) (S 8 s - i) i = foF (otB I s (P (S 5 1)) (S 1 c) (S 2 c) (S 3 c) (S 4 c) h) (S 8 s) 0 ∧ Fr SF τ y) (S 8 s) _ ?_ ?_ 0 τ FU (by omega) ⟨rfl, Fr.rf⟩ (FU_big (by omega))
  · rintro n i y hi' ⟨e, f⟩ k
    show wp (M_firstOther_L3 (n + 1) (nI s) (nI c) (nI h) (nI i) y) _
    have hM1 : RM S I P y := hM.fr (f.mo fun g a j q => q.nm)
    rw [M_firstOther_L3, if_neg (nI_pos (by omega)), na_cl (by omega), if_neg (by omega), f 49 0 s (by unfold SF; omega), n2, if_pos (nI_lt hi' (by omega))]
    obtain ⟨y2, e2, f2'⟩ := m_fits (m := i) hM1 hV hc (by omega) h
    rw [e2]
    simp only [Option.bind_some, b2_0]
    have f2 : Fr SF τ y2 := f.tr f2'
    have fin : ∀ b : Bool, fitS S P c i h = b → wp (M_firstOther_J30 (fun y0 y1 y2 y3 τ => M_firstOther_L3 n y0 y1 y2 y3 τ) (nI s) (nI c) (nI h) (nI i) (b2 b) y2) (fun r => r.1 = foF (otB I s (P (S 5 1)) (S 1 c) (S 2 c) (S 3 c) (S 4 c) h) (S 8 s) 0 ∧ Fr SF τ r.2) := by
      intro b hb
      unfold M_firstOther_J30
      rw [show (40 : Int32) * nI s + nI i = nI (40 * s + i) by rw [show (40 : Int32) = nI 40 from rfl, na_mul, na_add], if_neg (nI_pos (by omega)), na_cl (by omega), if_neg (by omega), f2 50 0 _ (by unfold SF; omega), n3 i hi']
      rw [show S 8 s - i = (S 8 s - (i + 1)) + 1 by omega, foF] at e
      have oe : otB I s (P (S 5 1)) (S 1 c) (S 2 c) (S 3 c) (S 4 c) h i = !decide (I s i = b2 b) := by
        rw [← hb]; rfl
      rw [oe] at e
      by_cases d : I s i = b2 b
      · rw [if_pos d.symm, show nI i + 1 = nI (i + 1) from (nI_succ i).symm]
        refine k y2 ⟨?_, f2⟩
        rw [decide_eq_true d, if_neg (by decide)] at e
        exact e
      · rw [if_neg (fun q => d q.symm)]
        rw [decide_eq_false d, if_pos (by decide)] at e
        exact wp_some ⟨e, f2⟩
    cases hb : fitS S P c i h with
    | false => exact fin false hb
    | true => exact fin true hb
  · rintro n y ⟨e, f⟩
    show wp (M_firstOther_L3 (n + 1) (nI s) (nI c) (nI h) (nI (S 8 s)) y) _
    rw [M_firstOther_L3, if_neg (nI_pos (by omega)), na_cl (by omega), if_neg (by omega), f 49 0 s (by unfold SF; omega), n2, if_neg (nI_nlt (Nat.le_refl _) (by omega))]
    rw [Nat.sub_self, foF] at e
    exact wp_some ⟨e, f⟩
/-- were aspect a of coat c at hour h just v, all would be so -/
def wsN (S : Nat → Nat → Nat) (I : Nat → Nat → Int32) (P : Nat → Txt) (s c h a v : Nat) : Bool := decide (foF (otB I s (P (if a = 5 then v else S 5 1)) (if a = 4 then v else S 1 c) (if a = 1 then v else S 2 c) (if a = 2 then v else S 3 c) (if a = 3 then v else S 4 c) (if a = 6 then v else h)) (S 8 s) 0 = -1)
/-- v may be told of aspect a -/
def wsK (S : Nat → Nat → Nat) (a v : Nat) : Prop := 1 ≤ a ∧ a ≤ 6 ∧ v < 900 ∧ (a = 4 → v < 6) ∧ (a = 1 → v < 10) ∧ (a = 2 → v < 100) ∧ (a = 5 → v < S 5 2)
theorem wsK.cb {a v kd nb ct wn : Nat} (hk : wsK S a v) (hB : CB kd nb ct wn) : CB (if a = 4 then v else kd) (if a = 1 then v else nb) (if a = 2 then v else ct) (if a = 3 then v else wn) := by
  obtain ⟨k1, k2, k3, k4, k5, k6, k7⟩ := hk
  obtain ⟨b1, b2, b3, b4⟩ := hB
  refine ⟨?_, ?_, ?_, ?_⟩
  · split
    · rename_i q; exact k4 q
    · exact b1
  · split
    · rename_i q; exact k5 q
    · exact b2
  · split
    · rename_i q; exact k6 q
    · exact b3
  · split
    · omega
    · exact b4
theorem x_give {a v kd nb ct wn : Nat} {y : Sg} (h1 : 1 ≤ a) (h2 : a ≤ 6) (hC : CT kd nb ct wn 8 y) : ∃ y', Coat_giveTrait 8 (nI a) (nI v) y = some y' ∧ CT (if a = 4 then v else kd) (if a = 1 then v else nb) (if a = 2 then v else ct) (if a = 3 then v else wn) 8 y' ∧ Fr (fun g b _ => g = 1 ∧ b = 8) y y' := by
  have h3 : a = 1 ∨ a = 2 ∨ a = 3 ∨ a = 4 ∨ a = 5 ∨ a = 6 := by omega
  rcases h3 with q | q | q | q | q | q <;> subst q
  · exact ⟨upd3 y 1 8 1 (nI v), rfl, ⟨hC.1, rfl, hC.2.2.1, hC.2.2.2⟩, Fr.rf.up ⟨rfl, rfl⟩⟩
  · exact ⟨upd3 y 1 8 2 (nI v), rfl, ⟨hC.1, hC.2.1, rfl, hC.2.2.2⟩, Fr.rf.up ⟨rfl, rfl⟩⟩
  · exact ⟨upd3 y 1 8 3 (nI v), rfl, ⟨hC.1, hC.2.1, hC.2.2.1, rfl⟩, Fr.rf.up ⟨rfl, rfl⟩⟩
  · exact ⟨upd3 y 1 8 0 (nI v), rfl, ⟨rfl, hC.2.1, hC.2.2.1, hC.2.2.2⟩, Fr.rf.up ⟨rfl, rfl⟩⟩
  · exact ⟨y, rfl, hC, Fr.rf⟩
  · exact ⟨y, rfl, hC, Fr.rf⟩
theorem x_would (hX : RX S I P σ) (hV : SV S) (hP : ∀ i, i < S 5 2 → TP (P i)) {s c h a v : Nat} (hs : s < 4) (h7 : S 7 s ≠ 0) (hc : c < S 5 0) (hk : wsK S a v) : wp (X_wouldBeSo s (nI c) (nI h) (nI a) (nI v) σ) (fun r => r.1 = b2 (wsN S I P s c h a v) ∧ RX S I P r.2) := by
  obtain ⟨v1, v2, v3, v4⟩ := hV.1
  obtain ⟨k1, k2, k3, k4, k5, k6, k7⟩ := id hk
  have w2 := (hV.2.2.2.2.1 s hs).2
  have hC := hX.2.2.1 c hc
  unfold X_wouldBeSo
  rw [if_neg (nI_pos (by omega)), na_cl (by omega), if_neg (by omega)]
  obtain ⟨σ3, e3, m3, f3⟩ := s_become (a := 8) (c := c) (by omega) σ
  rw [e3]
  simp only [Option.bind_some]
  obtain ⟨σ4, e4, c4, f4⟩ := x_give (a := a) (v := v) k1 k2 (show CT (S 1 c) (S 2 c) (S 3 c) (S 4 c) 8 σ3 from ⟨(m3 0 (by omega)).trans hC.1, (m3 1 (by omega)).trans hC.2.1, (m3 2 (by omega)).trans hC.2.2.1, (m3 3 (by omega)).trans hC.2.2.2⟩)
  rw [e4]
  simp only [Option.bind_some]
  have hX4 : RX S I P σ4 := hX.fr hV ((f3.tr f4).mo fun g a j q => by unfold NX; omega)
  have hB := hk.cb (hV.2.2.1 c hc)
  obtain ⟨x1, x2⟩ := hX4.2.2.2.2.1 s hs
  have last : ∀ t, t < S 5 2 → t = (if a = 5 then v else S 5 1) → wp (X_wouldBeSo_J61 s (nI h) (nI a) (nI v) t σ4) (fun r => r.1 = b2 (wsN S I P s c h a v) ∧ RX S I P r.2) := by
    intro t ht et
    have go : ∀ h', h' = (if a = 6 then v else h) → wp ((X_firstOtherwise s t 8 (nI h') σ4).bind fun q2 => if q2.1 = (-1 : Int32) then some ((1 : Int32), q2.2) else some ((0 : Int32), q2.2)) (fun r => r.1 = b2 (wsN S I P s c h a v) ∧ RX S I P r.2) := by
      intro h' eh
      refine wp_bind (x_first (h := h') (hX4.2.2.2.2.2.2 t ht) (hP t ht) c4 hB w2 (x2 h7).1 (x2 h7).2) ?_
      rintro ⟨r, y⟩ ⟨e1, f1⟩
      have f1 : Fr EX σ4 y := f1
      have hY : RX S I P y := hX4.fr hV (f1.mo fun g a j q => q.nx)
      have hr : wsN S I P s c h a v = decide (r = -1) := by
        unfold wsN
        rw [show r = _ from e1, et, eh]
      rw [hr]
      by_cases d : r = -1
      · rw [if_pos (show (r, y).1 = -1 from d), decide_eq_true d]; exact wp_some ⟨rfl, hY⟩
      · rw [if_neg (show ¬ (r, y).1 = -1 from d), decide_eq_false d]; exact wp_some ⟨rfl, hY⟩
    unfold X_wouldBeSo_J61
    by_cases d : a = 6
    · subst d
      rw [if_pos (show nI 6 = (6 : Int32) from rfl)]
      exact go v (if_pos rfl).symm
    · rw [if_neg (show ¬ nI a = (6 : Int32) from na_ne (by omega) (m := 6) (by omega) d)]
      exact go h (if_neg d).symm
  have mid : ¬ a = 5 → wp (X_wouldBeSo_J52 s (nI h) (nI a) (nI v) σ4) (fun r => r.1 = b2 (wsN S I P s c h a v) ∧ RX S I P r.2) := by
    intro d
    unfold X_wouldBeSo_J52
    rw [hX4.1.2.1, if_neg (nI_pos (by omega)), na_cl (by omega), if_neg (by omega)]
    exact last (S 5 1) v2 (if_neg d).symm
  by_cases d : a = 5
  · subst d
    have := k7 rfl
    rw [if_pos (show nI 5 = (5 : Int32) from rfl), if_neg (nI_pos (by omega)), if_pos (show nI v < 6 from nI_lt (b := 6) (by omega) (by decide)), if_neg (nI_pos (by omega)), na_cl (by omega), if_neg (by omega)]
    exact last v this (if_pos rfl).symm
  · rw [if_neg (show ¬ nI a = (5 : Int32) from na_ne (by omega) (m := 5) (by omega) d)]
    exact mid d
theorem x_bitsBy (hX : RX S I P σ) (hV : SV S) (hP : ∀ i, i < S 5 2 → TP (P i)) {s c h a n : Nat} (hs : s < 4) (h7 : S 7 s ≠ 0) (hc : c < S 5 0) (hn : n ≤ 24) (hk : ∀ v, v < n → wsK S a v) : wp (X_bitsBy s (nI c) (nI h) (nI a) (nI n) σ) (fun r => r.1 = nI (bsN (wsN S I P s c h a) n) ∧ RX S I P r.2) := by
  unfold X_bitsBy
  refine loopW (fun m (y : Int32 × Sg) i => X_bitsBy_L6 m s (nI c) (nI h) (nI a) (nI n) y.1 (nI i) y.2) (fun i y => y.1 = nI (bsN (wsN S I P s c h a) i) ∧ RX S I P y.2) n _ ?_ ?_ 0 ((0 : Int32), σ) FU (by omega) ⟨rfl, hX⟩ (FU_big (by omega))
  · rintro m i ⟨acc, y⟩ hi ⟨e, h1⟩ k
    have e : acc = nI (bsN (wsN S I P s c h a) i) := e
    subst e
    have h1 : RX S I P y := h1
    show wp (X_bitsBy_L6 (m + 1) s (nI c) (nI h) (nI a) (nI n) (nI _) (nI i) y) _
    rw [X_bitsBy_L6, if_pos (nI_lt hi (by omega))]
    refine wp_bind (x_would h1 hV hP hs h7 hc (hk i hi)) ?_
    rintro ⟨r, y2⟩ ⟨e2, h2⟩
    have e2 : r = b2 (wsN S I P s c h a i) := e2
    subst e2
    simp only [b2_0]
    rw [show nI i + 1 = nI (i + 1) from (nI_succ i).symm]
    by_cases q : wsN S I P s c h a i = false
    · rw [if_pos q]
      refine k (_, y2) ⟨?_, h2⟩
      show nI _ = nI (bsN (wsN S I P s c h a) i + (if wsN S I P s c h a i = true then 2 ^ i else 0))
      rw [if_neg (by rw [q]; decide), Nat.add_zero]
    · rw [if_neg q, bsN_or _ (by omega)]
      refine k (_, y2) ⟨?_, h2⟩
      show nI _ = nI (bsN (wsN S I P s c h a) i + (if wsN S I P s c h a i = true then 2 ^ i else 0))
      rw [if_pos (by simpa using q)]
  · rintro m ⟨acc, y⟩ ⟨e, h1⟩
    show wp (X_bitsBy_L6 (m + 1) s (nI c) (nI h) (nI a) (nI n) acc (nI n) y) _
    rw [X_bitsBy_L6, if_neg (nI_nlt (Nat.le_refl _) (by omega))]
    exact wp_some ⟨e, h1⟩
theorem x_manyBy (hX : RX S I P σ) (hV : SV S) (hP : ∀ i, i < S 5 2 → TP (P i)) {s c h a n : Nat} (hs : s < 4) (h7 : S 7 s ≠ 0) (hc : c < S 5 0) (hn : n ≤ 100) (hk : ∀ v, v < n → wsK S a v) : wp (X_manyBy s (nI c) (nI h) (nI a) (nI n) σ) (fun r => r.1 = nI (ctN (wsN S I P s c h a) n) ∧ RX S I P r.2) := by
  unfold X_manyBy
  refine loopW (fun m (y : Int32 × Sg) i => X_manyBy_L6 m s (nI c) (nI h) (nI a) (nI n) y.1 (nI i) y.2) (fun i y => y.1 = nI (ctN (wsN S I P s c h a) i) ∧ RX S I P y.2) n _ ?_ ?_ 0 ((0 : Int32), σ) FU (by omega) ⟨rfl, hX⟩ (FU_big (by omega))
  · rintro m i ⟨acc, y⟩ hi ⟨e, h1⟩ k
    have e : acc = nI (ctN (wsN S I P s c h a) i) := e
    subst e
    have h1 : RX S I P y := h1
    show wp (X_manyBy_L6 (m + 1) s (nI c) (nI h) (nI a) (nI n) (nI _) (nI i) y) _
    rw [X_manyBy_L6, if_pos (nI_lt hi (by omega))]
    refine wp_bind (x_would h1 hV hP hs h7 hc (hk i hi)) ?_
    rintro ⟨r, y2⟩ ⟨e2, h2⟩
    have e2 : r = b2 (wsN S I P s c h a i) := e2
    subst e2
    simp only [b2_0]
    rw [show nI i + 1 = nI (i + 1) from (nI_succ i).symm]
    by_cases q : wsN S I P s c h a i = false
    · rw [if_pos q]
      refine k (_, y2) ⟨?_, h2⟩
      show nI _ = nI (ctN (wsN S I P s c h a) i + (if wsN S I P s c h a i = true then 1 else 0))
      rw [if_neg (by rw [q]; decide), Nat.add_zero]
    · rw [if_neg q]
      refine k (_, y2) ⟨?_, h2⟩
      show nI _ + 1 = nI (ctN (wsN S I P s c h a) i + (if wsN S I P s c h a i = true then 1 else 0))
      rw [if_pos (by simpa using q), nI_succ]
  · rintro m ⟨acc, y⟩ ⟨e, h1⟩
    show wp (X_manyBy_L6 (m + 1) s (nI c) (nI h) (nI a) (nI n) acc (nI n) y) _
    rw [X_manyBy_L6, if_neg (nI_nlt (Nat.le_refl _) (by omega))]
    exact wp_some ⟨e, h1⟩
theorem x_leastBy (hX : RX S I P σ) (hV : SV S) (hP : ∀ i, i < S 5 2 → TP (P i)) {s c h a n : Nat} (hs : s < 4) (h7 : S 7 s ≠ 0) (hc : c < S 5 0) (hn : n ≤ 100) (hk : ∀ v, v < n → wsK S a v) : wp (X_leastBy s (nI c) (nI h) (nI a) (nI n) σ) (fun r => r.1 = foF (wsN S I P s c h a) n 0 ∧ RX S I P r.2) := by
  unfold X_leastBy
  refine loopW (fun m (y : Sg) i => X_leastBy_L3 m s (nI c) (nI h) (nI a) (nI n) (nI i) y) (fun i y => foF (wsN S I P s c h a) (n - i) i = foF (wsN S I P s c h a) n 0 ∧ RX S I P y) n _ ?_ ?_ 0 σ FU (by omega) ⟨rfl, hX⟩ (FU_big (by omega))
  · rintro m i y hi ⟨e, h1⟩ k
    show wp (X_leastBy_L3 (m + 1) s (nI c) (nI h) (nI a) (nI n) (nI i) y) _
    rw [X_leastBy_L3, if_pos (nI_lt hi (by omega))]
    refine wp_bind (x_would h1 hV hP hs h7 hc (hk i hi)) ?_
    rintro ⟨r, y2⟩ ⟨e2, h2⟩
    have e2 : r = b2 (wsN S I P s c h a i) := e2
    subst e2
    simp only [b2_0]
    rw [show n - i = (n - (i + 1)) + 1 by omega, foF] at e
    by_cases q : wsN S I P s c h a i = false
    · rw [if_pos q, show nI i + 1 = nI (i + 1) from (nI_succ i).symm]
      rw [if_neg (by rw [q]; decide)] at e
      exact k y2 ⟨e, h2⟩
    · rw [if_neg q]
      rw [if_pos (by simpa using q)] at e
      exact wp_some ⟨e, h2⟩
  · rintro m y ⟨e, h1⟩
    show wp (X_leastBy_L3 (m + 1) s (nI c) (nI h) (nI a) (nI n) (nI n) y) _
    rw [X_leastBy_L3, if_neg (nI_nlt (Nat.le_refl _) (by omega))]
    rw [Nat.sub_self, foF] at e
    exact wp_some ⟨e, h1⟩
end
