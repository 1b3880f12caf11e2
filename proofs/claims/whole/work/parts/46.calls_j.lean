/-! the calls: plan, wear -/
section
variable {S : Nat → Nat → Nat} {I : Nat → Nat → Int32} {P : Nat → Txt} {σ τ : Sg}
/-- none, or a coat that is -/
def okI (S : Nat → Nat → Nat) (x : Int32) : Bool := decide (x = -1) || irB x (S 5 0)
theorem okI_t (hV : SV S) {x : Int32} (h : okI S x = true) : x = -1 ∨ ∃ c, c < S 5 0 ∧ x = nI c := by
  unfold okI at h
  simp only [Bool.or_eq_true, decide_eq_true_eq] at h
  rcases h with h | h
  · exact Or.inl h
  · exact Or.inr (irB_t (by have := hV.1.1; omega) h)
/-- what a sheet is refused for as a plan -/
def plR (S : Nat → Nat → Nat) (I : Nat → Nat → Int32) (s : Nat) : Int32 := if S 7 s = 0 then -11 else if 24 < S 8 s then -2 else if ∀ j, j < S 8 s → okI S (I s j) = true then 0 else -2
theorem plR_0 {s : Nat} (h : plR S I s = 0) : S 7 s ≠ 0 ∧ S 8 s ≤ 24 ∧ ∀ j, j < S 8 s → okI S (I s j) = true := by
  unfold plR at h
  split at h
  · exact absurd h (by decide)
  · split at h
    · exact absurd h (by decide)
    · split at h
      · rename_i a b c
        exact ⟨a, by omega, c⟩
      · exact absurd h (by decide)
theorem x_planRefusal (hX : RX S I P σ) (hV : SV S) {s : Nat} (hs : s < 4) : X_planRefusal s σ = some (plR S I s, σ) := by
  obtain ⟨v1, v2, v3, v4⟩ := hV.1
  obtain ⟨x1, x2⟩ := hX.2.2.2.2.1 s hs
  obtain ⟨w1, w2⟩ := hV.2.2.2.2.1 s hs
  unfold X_planRefusal plR
  rw [x1]
  by_cases c : S 7 s = 0
  · simp only [if_pos c, if_true]
  simp only [if_neg c]
  obtain ⟨y1, y2⟩ := x2 c
  rw [if_neg (srI_n1 c w1), y1]
  by_cases d : 24 < S 8 s
  · rw [if_pos (show 24 < nI (S 8 s) from nI_lt (a := 24) d (by omega)), if_pos d]
  rw [if_neg (show ¬ 24 < nI (S 8 s) from nI_nlt (a := 24) (by omega) (by decide)), if_neg d]
  have key : ∀ m n i, i + m = S 8 s → m < n → (∀ j, j < i → okI S (I s j) = true) → X_planRefusal_L25 n s (nI i) σ = some (if ∀ j, j < S 8 s → okI S (I s j) = true then 0 else -2, σ) := by
    intro m
    induction m with
    | zero =>
      intro n i hi hn ho
      obtain ⟨n, rfl⟩ : ∃ n', n = n' + 1 := ⟨n - 1, by omega⟩
      have : i = S 8 s := by omega
      subst this
      rw [X_planRefusal_L25, y1, if_neg (nI_nlt (Nat.le_refl _) (by omega)), if_pos ho]
    | succ m ih =>
      intro n i hi hn ho
      obtain ⟨n, rfl⟩ : ∃ n', n = n' + 1 := ⟨n - 1, by omega⟩
      rw [X_planRefusal_L25, y1, if_pos (nI_lt (by omega) (by omega)), s_item y1 w2 (by omega), y2 i (by omega)]
      simp only [Option.bind_some]
      rw [show nI i + 1 = nI (i + 1) from (nI_succ i).symm]
      have go : okI S (I s i) = true → X_planRefusal_L25 n s (nI (i + 1)) σ = some (if ∀ j, j < S 8 s → okI S (I s j) = true then 0 else -2, σ) := fun q => ih n (i + 1) (by omega) (by omega) (fun j hj => by
        by_cases e : j = i
        · rw [e]; exact q
        · exact ho j (by omega))
      by_cases e : I s i = -1
      · rw [if_pos e]
        exact go (by unfold okI; rw [decide_eq_true e]; rfl)
      · rw [if_neg e, s_X_isCoat hX.1.1 v1]
        simp only [Option.bind_some, b2_0]
        cases q : irB (I s i) (S 5 0) with
        | false =>
          rw [if_pos rfl, if_neg]
          intro h
          have := h i (by omega)
          unfold okI at this
          rw [decide_eq_false e, q] at this
          cases this
        | true =>
          rw [if_neg (by decide)]
          exact go (by unfold okI; rw [q, Bool.or_true])
  exact key (S 8 s) FU 0 (by omega) (FU_big (by omega)) (fun j h => absurd h (Nat.not_lt_zero _))
theorem m_planBad (hM : RM S I P τ) (hV : SV S) {s : Nat} (hs : s < 4) : M_planBad (nI s) τ = some (plR S I s, τ) := by
  obtain ⟨v1, v2, v3, v4⟩ := hV.1
  obtain ⟨m1, m2⟩ := hM.2.2.2.2.1 s hs
  obtain ⟨w1, w2⟩ := hV.2.2.2.2.1 s hs
  unfold M_planBad plR
  simp only [if_neg (nI_pos (show s < 2147483648 by omega)), na_cl (show s < 2147483648 by omega), if_neg (show ¬ 4 ≤ s by omega)]
  rw [m1]
  by_cases c : S 7 s = 0
  · simp only [if_pos c, if_true]
  simp only [if_neg c]
  obtain ⟨n1, n2, n3⟩ := m2 c
  rw [if_neg (show ¬ (1 : Int32) = 0 by decide), n2]
  by_cases d : 24 < S 8 s
  · rw [if_pos (show 24 < nI (S 8 s) from nI_lt (a := 24) d (by omega)), if_pos d]
  rw [if_neg (show ¬ 24 < nI (S 8 s) from nI_nlt (a := 24) (by omega) (by decide)), if_neg d]
  have key : ∀ m n i, i + m = S 8 s → m < n → (∀ j, j < i → okI S (I s j) = true) → M_planBad_L28 n (nI s) (nI i) τ = some (if ∀ j, j < S 8 s → okI S (I s j) = true then 0 else -2, τ) := by
    intro m
    induction m with
    | zero =>
      intro n i hi hn ho
      obtain ⟨n, rfl⟩ : ∃ n', n = n' + 1 := ⟨n - 1, by omega⟩
      have : i = S 8 s := by omega
      subst this
      rw [M_planBad_L28]
      simp only [if_neg (nI_pos (show s < 2147483648 by omega)), na_cl (show s < 2147483648 by omega), if_neg (show ¬ 4 ≤ s by omega), n2]
      rw [if_neg (nI_nlt (Nat.le_refl _) (by omega)), if_pos ho]
    | succ m ih =>
      intro n i hi hn ho
      obtain ⟨n, rfl⟩ : ∃ n', n = n' + 1 := ⟨n - 1, by omega⟩
      rw [M_planBad_L28]
      simp only [if_neg (nI_pos (show s < 2147483648 by omega)), na_cl (show s < 2147483648 by omega), if_neg (show ¬ 4 ≤ s by omega), n2]
      rw [if_pos (nI_lt (by omega) (by omega)), show (40 : Int32) * nI s + nI i = nI (40 * s + i) by rw [show (40 : Int32) = nI 40 from rfl, na_mul, na_add], if_neg (nI_pos (by omega)), na_cl (by omega), if_neg (by omega), n3 i (by omega), show nI i + 1 = nI (i + 1) from (nI_succ i).symm]
      have go : okI S (I s i) = true → M_planBad_L28 n (nI s) (nI (i + 1)) τ = some (if ∀ j, j < S 8 s → okI S (I s j) = true then 0 else -2, τ) := fun q => ih n (i + 1) (by omega) (by omega) (fun j hj => by
        by_cases e : j = i
        · rw [e]; exact q
        · exact ho j (by omega))
      by_cases e : I s i = -1
      · rw [if_pos e]
        exact go (by unfold okI; rw [decide_eq_true e]; rfl)
      · rw [if_neg e, s_M_isCoat hM.1.1 v1]
        simp only [Option.bind_some, b2_0]
        cases q : irB (I s i) (S 5 0) with
        | false =>
          rw [if_pos rfl, if_neg]
          intro h
          have := h i (by omega)
          unfold okI at this
          rw [decide_eq_false e, q] at this
          cases this
        | true =>
          rw [if_neg (by decide)]
          exact go (by unfold okI; rw [q, Bool.or_true])
  exact key (S 8 s) FU 0 (by omega) (FU_big (by omega)) (fun j h => absurd h (Nat.not_lt_zero _))
/-- what one wears at an hour by a sheet -/
def itS (S : Nat → Nat → Nat) (I : Nat → Nat → Int32) (s h : Nat) : Int32 := if h < S 8 s then I s h else -1
/-- ahead of an hour -/
def ahS (S : Nat → Nat → Nat) (I : Nat → Nat → Int32) (s h : Nat) : Int32 := match h with
  | 0 => -1
  | h + 1 => itS S I s h
/-- whether that fits; its fine, its cost -/
def pfB (S : Nat → Nat → Nat) (I : Nat → Nat → Int32) (P : Nat → Txt) (s p h : Nat) : Bool := irB (itS S I s h) (S 5 0) && fitS S P (itS S I s h).toNatClampNeg (mdS S p h) h
def pfN (S : Nat → Nat → Nat) (I : Nat → Nat → Int32) (P : Nat → Txt) (s p h : Nat) : Nat := if pfB S I P s p h = true then 0 else if irB (itS S I s h) (S 5 0) = true then fineS S P (itS S I s h).toNatClampNeg (mdS S p h) h else 99
def pcN (S : Nat → Nat → Nat) (I : Nat → Nat → Int32) (P : Nat → Txt) (s p h : Nat) : Nat := if itS S I s h = ahS S I s h then 0 else if irB (itS S I s h) (S 5 0) = true then costS S P (itS S I s h).toNatClampNeg (mdS S p h) h else 0
def pmN (S : Nat → Nat → Nat) (I : Nat → Nat → Int32) (P : Nat → Txt) (s p h : Nat) : Nat := if pfB S I P s p h = true then 0 else 1
/-- the plan's answer -/
def plA (S : Nat → Nat → Nat) (I : Nat → Nat → Int32) (P : Nat → Txt) (s p w : Nat) : Nat := if w = 2 then smN (pmN S I P s p) 24 else if w = 1 then smN (pfN S I P s p) 24 else smN (pfN S I P s p) 24 + smN (pcN S I P s p) 24
theorem x_fitsEx {c m h : Nat} (hX : RX S I P σ) (hV : SV S) (hP : ∀ i, i < S 5 2 → TP (P i)) (hc : c < S 5 0) (hm : m < 1000) : wp (X_fitsAt (S 5 1) c (nI m) (nI h) σ) (fun r => r.1 = b2 (fitS S P c m h) ∧ RX S I P r.2) := by
  obtain ⟨σ', e, f⟩ := x_fits hX hV hP hc hm h
  exact ⟨_, e, rfl, hX.fr hV (f.mo fun g a j h => EX.nx h)⟩
theorem x_fineEx {c m h : Nat} (hX : RX S I P σ) (hV : SV S) (hP : ∀ i, i < S 5 2 → TP (P i)) (hc : c < S 5 0) (hm : m < 1000) : wp (X_fineAt (nI c) (nI m) (nI h) σ) (fun r => r.1 = nI (fineS S P c m h) ∧ RX S I P r.2) := by
  obtain ⟨σ', e, f⟩ := x_fine hX hV hP hc hm h
  exact ⟨_, e, rfl, hX.fr hV (f.mo fun g a j h => EX.nx h)⟩
theorem x_costEx {c m h : Nat} (hX : RX S I P σ) (hV : SV S) (hP : ∀ i, i < S 5 2 → TP (P i)) (hc : c < S 5 0) (hm : m < 1000) : wp (X_costAt (nI c) (nI m) (nI h) σ) (fun r => r.1 = nI (costS S P c m h) ∧ RX S I P r.2) := by
  obtain ⟨σ', e, f⟩ := x_cost hX hV hP hc hm h
  exact ⟨_, e, rfl, hX.fr hV (f.mo fun g a j h => EX.nx h)⟩
theorem m_fitsEx {c m h : Nat} (hM : RM S I P τ) (hV : SV S) (hc : c < S 5 0) (hm : m < 1000) : wp (M_fits (nI c) (nI m) (nI h) τ) (fun r => r.1 = b2 (fitS S P c m h) ∧ RM S I P r.2) := by
  obtain ⟨σ', e, f⟩ := m_fits hM hV hc hm h
  exact ⟨_, e, rfl, hM.fr (f.mo fun g a j h => SF.nm h)⟩
theorem m_fineEx {c m h : Nat} (hM : RM S I P τ) (hV : SV S) (hc : c < S 5 0) (hm : m < 1000) : wp (M_fineOf (nI c) (nI m) (nI h) τ) (fun r => r.1 = nI (fineS S P c m h) ∧ RM S I P r.2) := by
  obtain ⟨σ', e, f⟩ := m_fine hM hV hc hm h
  exact ⟨_, e, rfl, hM.fr (f.mo fun g a j h => SF.nm h)⟩
theorem m_costEx {c m h : Nat} (hM : RM S I P τ) (hV : SV S) (hc : c < S 5 0) (hm : m < 1000) : wp (M_costOf (nI c) (nI m) (nI h) τ) (fun r => r.1 = nI (costS S P c m h) ∧ RM S I P r.2) := by
  obtain ⟨σ', e, f⟩ := m_cost hM hV hc hm h
  exact ⟨_, e, rfl, hM.fr (f.mo fun g a j h => SF.nm h)⟩
theorem itS_ok (hV : SV S) {s h : Nat} (hok : ∀ j, j < S 8 s → okI S (I s j) = true) : (itS S I s h = -1 ∧ irB (itS S I s h) (S 5 0) = false) ∨ ∃ c, c < S 5 0 ∧ itS S I s h = nI c ∧ irB (itS S I s h) (S 5 0) = true ∧ (itS S I s h).toNatClampNeg = c := by
  have v1 := hV.1.1
  have neg : (-1 : Int32) < 0 := by decide
  unfold itS
  by_cases d : h < S 8 s
  · rw [if_pos d]
    rcases okI_t hV (hok h d) with e | ⟨c, hc, e⟩
    · rw [e]
      exact Or.inl ⟨rfl, irB_neg neg⟩
    · rw [e]
      exact Or.inr ⟨c, hc, rfl, by rw [irB_n (by omega) (by omega), decide_eq_true hc], na_cl (by omega)⟩
  · rw [if_neg d]
    exact Or.inl ⟨rfl, irB_neg neg⟩
theorem x_planTold (hX : RX S I P σ) (hV : SV S) (hP : ∀ i, i < S 5 2 → TP (P i)) {s p w : Nat} (hs : s < 4) (hp : p < 3) (hw : w < 3) (h7 : S 7 s ≠ 0) (hok : ∀ j, j < S 8 s → okI S (I s j) = true) : wp (X_planTold s (nI p) (nI w) σ) (fun r => r.1 = nI (plA S I P s p w) ∧ RX S I P r.2) := by
  obtain ⟨v1, v2, v3, v4⟩ := hV.1
  obtain ⟨w1, w2⟩ := hV.2.2.2.2.1 s hs
  unfold X_planTold
  refine loopW (fun n (z : Int32 × Int32 × Int32 × Int32 × Sg) h => X_planTold_L15 n s (nI p) (nI w) z.1 z.2.1 z.2.2.1 z.2.2.2.1 (nI h) z.2.2.2.2) (fun h z => z.1 = nI (smN (pfN S I P s p) h) ∧ z.2.1 = nI (smN (pcN S I P s p) h) ∧ z.2.2.1 = nI (smN (pmN S I P s p) h) ∧ z.2.2.2.1 = ahS S I s h ∧ RX S I P z.2.2.2.2) 24 _ ?_ ?_ 0 ((0 : Int32), (0 : Int32), (0 : Int32), (-1 : Int32), σ) FU (Nat.zero_le _) ⟨rfl, rfl, rfl, rfl, hX⟩ (FU_big (by omega))
  · rintro n h ⟨z1, z2, z3, z4, σ1⟩ hh ⟨e1, e2, e3, e4, hX0⟩ k
    have e1 : z1 = nI (smN (pfN S I P s p) h) := e1
    have e2 : z2 = nI (smN (pcN S I P s p) h) := e2
    have e3 : z3 = nI (smN (pmN S I P s p) h) := e3
    have e4 : z4 = ahS S I s h := e4
    have hX1 : RX S I P σ1 := hX0
    clear hX0
    subst e1; subst e2; subst e3; subst e4
    have hm := mdS_lt hV hp hh
    show wp (X_planTold_L15 (n + 1) s (nI p) (nI w) _ _ _ _ (nI h) σ1) _
    rw [X_planTold_L15, if_pos (show nI h < 24 from nI_lt (b := 24) hh (by decide))]
    have hk : ∀ (σ2 : Sg), RX S I P σ2 → wp (X_planTold_L15 n s (nI p) (nI w) (nI (smN (pfN S I P s p) (h + 1))) (nI (smN (pcN S I P s p) (h + 1))) (nI (smN (pmN S I P s p) (h + 1))) (itS S I s h) (nI (h + 1)) σ2) (fun r => r.1 = nI (plA S I P s p w) ∧ RX S I P r.2) := fun σ2 h2 => k (_, _, _, _, σ2) ⟨rfl, rfl, rfl, rfl, h2⟩
    have sF : smN (pfN S I P s p) (h + 1) = smN (pfN S I P s p) h + pfN S I P s p h := rfl
    have sC : smN (pcN S I P s p) (h + 1) = smN (pcN S I P s p) h + pcN S I P s p h := rfl
    have sM : smN (pmN S I P s p) (h + 1) = smN (pmN S I P s p) h + pmN S I P s p h := rfl
    -- the cost, behind the fine
    have j105 : ∀ (F M : Nat) (σ2 : Sg), RX S I P σ2 → F = smN (pfN S I P s p) (h + 1) → M = smN (pmN S I P s p) (h + 1) → wp (X_planTold_J105 (fun y0 y1 y2 y3 y4 y5 y6 y7 τ => X_planTold_L15 n y0 y1 y2 y3 y4 y5 y6 y7 τ) s (nI p) (nI w) (nI F) (nI (smN (pcN S I P s p) h)) (nI M) (ahS S I s h) (nI h) (itS S I s h) (nI (mdS S p h)) σ2) (fun r => r.1 = nI (plA S I P s p w) ∧ RX S I P r.2) := by
      intro F M σ2 h2 hF hM
      subst hF; subst hM
      unfold X_planTold_J105
      rw [show nI h + 1 = nI (h + 1) from (nI_succ h).symm]
      by_cases e : itS S I s h = ahS S I s h
      · rw [if_pos e]
        have := hk σ2 h2
        rw [sC, show pcN S I P s p h = 0 by unfold pcN; rw [if_pos e], Nat.add_zero] at this
        exact this
      · rw [if_neg e]
        rcases itS_ok (h := h) hV hok with ⟨c1, c2⟩ | ⟨c, hc, c1, c2, c3⟩
        · rw [x_costNo h2 hV c2]
          simp only [Option.bind_some]
          have := hk σ2 h2
          rw [sC, show pcN S I P s p h = 0 by unfold pcN; rw [if_neg e, if_neg (by rw [c2]; decide)], Nat.add_zero] at this
          rw [show nI (smN (pcN S I P s p) h) + 0 = nI (smN (pcN S I P s p) h) from Int32.add_zero _]
          exact this
        · have goal := hk
          rw [sC, show pcN S I P s p h = costS S P c (mdS S p h) h by unfold pcN; rw [if_neg e, if_pos c2, c3]] at goal
          rw [c1] at goal ⊢
          refine wp_bind (x_costEx (h := h) h2 hV hP hc (by omega)) ?_
          rintro ⟨r, σ3⟩ ⟨r1, h3⟩
          simp only [show r = _ from r1, na_add]
          exact goal σ3 h3
    -- the middle
    have j41 : ∀ σ2, RX S I P σ2 → wp (X_planTold_J41 (fun y0 y1 y2 y3 y4 y5 y6 y7 τ => X_planTold_L15 n y0 y1 y2 y3 y4 y5 y6 y7 τ) s (nI p) (nI w) (nI (smN (pfN S I P s p) h)) (nI (smN (pcN S I P s p) h)) (nI (smN (pmN S I P s p) h)) (ahS S I s h) (nI h) (itS S I s h) σ2) (fun r => r.1 = nI (plA S I P s p w) ∧ RX S I P r.2) := by
      intro σ2 h2
      unfold X_planTold_J41
      rw [x_mood h2 hp hh]
      simp only [Option.bind_some]
      rw [s_X_isCoat h2.1.1 v1]
      simp only [Option.bind_some, b2_0]
      have j87 : ∀ σ3, RX S I P σ3 → pfB S I P s p h = false → wp (X_planTold_J87 (fun y0 y1 y2 y3 y4 y5 y6 y7 τ => X_planTold_L15 n y0 y1 y2 y3 y4 y5 y6 y7 τ) s (nI p) (nI w) (nI (smN (pfN S I P s p) h)) (nI (smN (pcN S I P s p) h)) (nI (smN (pmN S I P s p) h)) (ahS S I s h) (nI h) (itS S I s h) (nI (S 0 (24 * p + h))) σ3) (fun r => r.1 = nI (plA S I P s p w) ∧ RX S I P r.2) := by
        intro σ3 h3 hb
        unfold X_planTold_J87
        rw [show nI (smN (pmN S I P s p) h) + 1 = nI (smN (pmN S I P s p) h + 1) from (nI_succ _).symm]
        have eM : smN (pmN S I P s p) h + 1 = smN (pmN S I P s p) (h + 1) := by rw [sM]; unfold pmN; rw [if_neg (by rw [hb]; decide)]
        rcases itS_ok (h := h) hV hok with ⟨c1, c2⟩ | ⟨c, hc, c1, c2, c3⟩
        · rw [x_fineNo h3 hV c2]
          simp only [Option.bind_some]
          rw [show nI (smN (pfN S I P s p) h) + 99 = nI (smN (pfN S I P s p) h + 99) from na_add _ 99]
          exact j105 _ _ σ3 h3 (by rw [sF]; unfold pfN; rw [if_neg (by rw [hb]; decide), if_neg (by rw [c2]; decide)]) eM
        · have goal := j105
          rw [c1] at goal ⊢
          refine wp_bind (x_fineEx (m := mdS S p h) (h := h) h3 hV hP hc (by omega)) ?_
          rintro ⟨r, σ4⟩ ⟨r1, h4⟩
          simp only [show r = _ from r1, na_add]
          exact goal _ _ σ4 h4 (by rw [sF]; unfold pfN; rw [if_neg (by rw [hb]; decide), if_pos c2, c3]) eM
      rcases itS_ok (h := h) hV hok with ⟨c1, c2⟩ | ⟨c, hc, c1, c2, c3⟩
      · rw [c2, if_pos rfl]
        exact j87 σ2 h2 (by unfold pfB; rw [c2]; rfl)
      · rw [c2, if_neg (show ¬ true = false by decide), h2.1.2.1, if_neg (nI_pos (by omega)), na_cl (by omega), if_neg (by omega)]
        have hb : pfB S I P s p h = fitS S P c (mdS S p h) h := by unfold pfB; rw [c2, c3]; rfl
        have n1 : ¬ itS S I s h < 0 := by rw [c1]; exact nI_pos (by omega)
        rw [if_neg n1, c3, if_neg (show ¬ 8 ≤ c by omega)]
        refine wp_bind (x_fitsEx (m := mdS S p h) (h := h) h2 hV hP hc (by omega)) ?_
        rintro ⟨r, σ3⟩ ⟨r1, h3⟩
        simp only [show r = _ from r1, b2_0]
        by_cases q : fitS S P c (mdS S p h) h = false
        · rw [if_pos q]
          exact j87 σ3 h3 (by rw [hb]; exact q)
        · rw [if_neg q]
          have qt : pfB S I P s p h = true := by rw [hb]; simpa using q
          exact j105 _ _ σ3 h3 (by rw [sF]; unfold pfN; rw [if_pos qt, Nat.add_zero]) (by rw [sM]; unfold pmN; rw [if_pos qt, Nat.add_zero])
    obtain ⟨y1, y2⟩ := (hX1.2.2.2.2.1 s hs).2 h7
    rw [y1]
    by_cases d : h < S 8 s
    · rw [if_pos (nI_lt d (by omega)), s_item y1 w2 d, y2 h d]
      simp only [Option.bind_some]
      have : itS S I s h = I s h := by unfold itS; rw [if_pos d]
      rw [← this]
      exact j41 σ1 hX1
    · rw [if_neg (nI_nlt (by omega) (by omega))]
      have : itS S I s h = -1 := by unfold itS; rw [if_neg d]
      have j := j41 σ1 hX1
      rw [this] at j
      exact j
  · rintro n ⟨z1, z2, z3, z4, σ1⟩ ⟨e1, e2, e3, e4, hX1⟩
    have e1 : z1 = nI (smN (pfN S I P s p) 24) := e1
    have e2 : z2 = nI (smN (pcN S I P s p) 24) := e2
    have e3 : z3 = nI (smN (pmN S I P s p) 24) := e3
    subst e1; subst e2; subst e3
    show wp (X_planTold_L15 (n + 1) s (nI p) (nI w) _ _ _ _ (nI 24) σ1) _
    rw [X_planTold_L15, if_neg (by decide)]
    unfold plA
    have hq : w = 0 ∨ w = 1 ∨ w = 2 := by omega
    rcases hq with q | q | q <;> subst q
    · rw [if_neg (show ¬ nI 0 = 2 by decide), if_neg (show ¬ nI 0 = 1 by decide), na_add]
      exact wp_some ⟨rfl, hX1⟩
    · rw [if_neg (show ¬ nI 1 = 2 by decide), if_pos (show nI 1 = 1 by decide)]
      exact wp_some ⟨rfl, hX1⟩
    · rw [if_pos (show nI 2 = 2 by decide)]
      exact wp_some ⟨rfl, hX1⟩
theorem m_wornAt (hM : RM S I P τ) (hV : SV S) {s h : Nat} (hs : s < 4) (hh : h < 40) (h7 : S 7 s ≠ 0) : M_wornAt (nI s) (nI h) τ = some (itS S I s h, τ) := by
  obtain ⟨w1, w2⟩ := hV.2.2.2.2.1 s hs
  obtain ⟨n1, n2, n3⟩ := (hM.2.2.2.2.1 s hs).2 h7
  unfold M_wornAt itS
  rw [if_neg (nI_pos (by omega)), na_cl (by omega), if_neg (by omega), n2]
  by_cases d : h < S 8 s
  · rw [if_pos (nI_lt d (by omega)), if_pos d, show (40 : Int32) * nI s + nI h = nI (40 * s + h) by rw [show (40 : Int32) = nI 40 from rfl, na_mul, na_add], if_neg (nI_pos (by omega)), na_cl (by omega), if_neg (by omega), n3 h d]
  · rw [if_neg (nI_nlt (by omega) (by omega)), if_neg d]
theorem m_planned (hM : RM S I P τ) (hV : SV S) {s p w : Nat} (hs : s < 4) (hp : p < 3) (hw : w < 3) (h7 : S 7 s ≠ 0) (hok : ∀ j, j < S 8 s → okI S (I s j) = true) : wp (M_planned (nI s) (nI p) (nI w) τ) (fun r => r.1 = nI (plA S I P s p w) ∧ RM S I P r.2) := by
  obtain ⟨v1, v2, v3, v4⟩ := hV.1
  unfold M_planned
  refine loopW (fun n (z : Int32 × Int32 × Int32 × Int32 × Sg) h => M_planned_L15 n (nI s) (nI p) (nI w) z.1 z.2.1 z.2.2.1 z.2.2.2.1 (nI h) z.2.2.2.2) (fun h z => z.1 = nI (smN (pfN S I P s p) h) ∧ z.2.1 = nI (smN (pcN S I P s p) h) ∧ z.2.2.1 = nI (smN (pmN S I P s p) h) ∧ z.2.2.2.1 = ahS S I s h ∧ RM S I P z.2.2.2.2) 24 _ ?_ ?_ 0 ((0 : Int32), (0 : Int32), (0 : Int32), (-1 : Int32), τ) FU (Nat.zero_le _) ⟨rfl, rfl, rfl, rfl, hM⟩ (FU_big (by omega))
  · rintro n h ⟨z1, z2, z3, z4, σ1⟩ hh ⟨e1, e2, e3, e4, hM0⟩ k
    have e1 : z1 = nI (smN (pfN S I P s p) h) := e1
    have e2 : z2 = nI (smN (pcN S I P s p) h) := e2
    have e3 : z3 = nI (smN (pmN S I P s p) h) := e3
    have e4 : z4 = ahS S I s h := e4
    have hM1 : RM S I P σ1 := hM0
    clear hM0
    subst e1; subst e2; subst e3; subst e4
    have hm := mdS_lt hV hp hh
    obtain ⟨ma, mb⟩ := m_mood hM1 hp hh
    show wp (M_planned_L15 (n + 1) (nI s) (nI p) (nI w) _ _ _ _ (nI h) σ1) _
    rw [M_planned_L15, if_pos (show nI h < 24 from nI_lt (b := 24) hh (by decide)), m_wornAt hM1 hV hs (by omega) h7]
    simp only [Option.bind_some]
    rw [ma, if_neg (nI_pos (by omega)), na_cl (by omega), if_neg (by omega), mb]
    have hk : ∀ (σ2 : Sg), RM S I P σ2 → wp (M_planned_L15 n (nI s) (nI p) (nI w) (nI (smN (pfN S I P s p) (h + 1))) (nI (smN (pcN S I P s p) (h + 1))) (nI (smN (pmN S I P s p) (h + 1))) (itS S I s h) (nI (h + 1)) σ2) (fun r => r.1 = nI (plA S I P s p w) ∧ RM S I P r.2) := fun σ2 h2 => k (_, _, _, _, σ2) ⟨rfl, rfl, rfl, rfl, h2⟩
    have sF : smN (pfN S I P s p) (h + 1) = smN (pfN S I P s p) h + pfN S I P s p h := rfl
    have sC : smN (pcN S I P s p) (h + 1) = smN (pcN S I P s p) h + pcN S I P s p h := rfl
    have sM : smN (pmN S I P s p) (h + 1) = smN (pmN S I P s p) h + pmN S I P s p h := rfl
    have j76 : ∀ (F M : Nat) (σ2 : Sg), RM S I P σ2 → F = smN (pfN S I P s p) (h + 1) → M = smN (pmN S I P s p) (h + 1) → wp (M_planned_J76 (fun y0 y1 y2 y3 y4 y5 y6 y7 τ => M_planned_L15 n y0 y1 y2 y3 y4 y5 y6 y7 τ) (nI s) (nI p) (nI w) (nI F) (nI (smN (pcN S I P s p) h)) (nI M) (ahS S I s h) (nI h) (itS S I s h) (nI (mdS S p h)) σ2) (fun r => r.1 = nI (plA S I P s p w) ∧ RM S I P r.2) := by
      intro F M σ2 h2 hF hM
      subst hF; subst hM
      unfold M_planned_J76
      rw [show nI h + 1 = nI (h + 1) from (nI_succ h).symm]
      by_cases e : itS S I s h = ahS S I s h
      · rw [if_pos e, show nI (smN (pcN S I P s p) h) + 0 = nI (smN (pcN S I P s p) h) from Int32.add_zero _]
        have := hk σ2 h2
        rw [sC, show pcN S I P s p h = 0 by unfold pcN; rw [if_pos e], Nat.add_zero] at this
        exact this
      · rw [if_neg e]
        rcases itS_ok (h := h) hV hok with ⟨c1, c2⟩ | ⟨c, hc, c1, c2, c3⟩
        · have goal := hk σ2 h2
          rw [sC, show pcN S I P s p h = 0 by unfold pcN; rw [if_neg e, if_neg (by rw [c2]; decide)], Nat.add_zero] at goal
          rw [c1] at goal ⊢
          unfold M_costOf
          rw [if_pos rfl]
          simp only [Option.bind_some]
          rw [show nI (smN (pcN S I P s p) h) + 0 = nI (smN (pcN S I P s p) h) from Int32.add_zero _]
          exact goal
        · have goal := hk
          rw [sC, show pcN S I P s p h = costS S P c (mdS S p h) h by unfold pcN; rw [if_neg e, if_pos c2, c3]] at goal
          rw [c1] at goal ⊢
          refine wp_bind (m_costEx (h := h) h2 hV hc (by omega)) ?_
          rintro ⟨r, σ3⟩ ⟨r1, h3⟩
          simp only [show r = _ from r1, na_add]
          exact goal σ3 h3
    rcases itS_ok (h := h) hV hok with ⟨c1, c2⟩ | ⟨c, hc, c1, c2, c3⟩
    · have hb : pfB S I P s p h = false := by unfold pfB; rw [c2]; rfl
      have goal := j76 (smN (pfN S I P s p) h + 99) (smN (pmN S I P s p) h + 1) σ1 hM1 (by rw [sF]; unfold pfN; rw [if_neg (by rw [hb]; decide), if_neg (by rw [c2]; decide)]) (by rw [sM]; unfold pmN; rw [if_neg (by rw [hb]; decide)])
      rw [c1] at goal ⊢
      rw [show M_fits (-1) (nI (mdS S p h)) (nI h) σ1 = some (0, σ1) from rfl]
      simp only [Option.bind_some, if_true]
      rw [show M_fineOf (-1) (nI (mdS S p h)) (nI h) σ1 = some (99, σ1) from rfl]
      simp only [Option.bind_some]
      rw [show nI (smN (pfN S I P s p) h) + 99 = nI (smN (pfN S I P s p) h + 99) from na_add _ 99, show nI (smN (pmN S I P s p) h) + 1 = nI (smN (pmN S I P s p) h + 1) from (nI_succ _).symm]
      exact goal
    · have hb : pfB S I P s p h = fitS S P c (mdS S p h) h := by unfold pfB; rw [c2, c3]; rfl
      have goal := j76
      have pf : pfB S I P s p h = false → pfN S I P s p h = fineS S P c (mdS S p h) h := fun q => by unfold pfN; rw [if_neg (by rw [q]; decide), if_pos c2, c3]
      rw [c1] at goal ⊢
      refine wp_bind (m_fitsEx (m := mdS S p h) (h := h) hM1 hV hc (by omega)) ?_
      rintro ⟨r, σ3⟩ ⟨r1, h3⟩
      have h3 : RM S I P σ3 := h3
      simp only [show r = _ from r1, b2_0]
      by_cases q : fitS S P c (mdS S p h) h = false
      · rw [if_pos q]
        have qf : pfB S I P s p h = false := by rw [hb]; exact q
        refine wp_bind (m_fineEx (m := mdS S p h) (h := h) h3 hV hc (by omega)) ?_
        rintro ⟨r, σ4⟩ ⟨r1, h4⟩
        simp only [show r = _ from r1, na_add]
        rw [show nI (smN (pmN S I P s p) h) + 1 = nI (smN (pmN S I P s p) h + 1) from (nI_succ _).symm]
        exact goal _ _ σ4 h4 (by rw [sF, pf qf]) (by rw [sM]; unfold pmN; rw [if_neg (by rw [qf]; decide)])
      · rw [if_neg q]
        have qt : pfB S I P s p h = true := by rw [hb]; simpa using q
        exact goal _ _ σ3 h3 (by rw [sF]; unfold pfN; rw [if_pos qt, Nat.add_zero]) (by rw [sM]; unfold pmN; rw [if_pos qt, Nat.add_zero])
  · rintro n ⟨z1, z2, z3, z4, σ1⟩ ⟨e1, e2, e3, e4, hM1⟩
    have e1 : z1 = nI (smN (pfN S I P s p) 24) := e1
    have e2 : z2 = nI (smN (pcN S I P s p) 24) := e2
    have e3 : z3 = nI (smN (pmN S I P s p) 24) := e3
    subst e1; subst e2; subst e3
    show wp (M_planned_L15 (n + 1) (nI s) (nI p) (nI w) _ _ _ _ (nI 24) σ1) _
    rw [M_planned_L15, if_neg (by decide)]
    unfold plA
    have hq : w = 0 ∨ w = 1 ∨ w = 2 := by omega
    rcases hq with q | q | q <;> subst q
    · rw [if_pos (show nI 0 = 0 by decide), na_add]
      exact wp_some ⟨rfl, hM1⟩
    · rw [if_neg (show ¬ nI 1 = 0 by decide), if_pos (show nI 1 = 1 by decide)]
      exact wp_some ⟨rfl, hM1⟩
    · rw [if_neg (show ¬ nI 2 = 0 by decide), if_neg (show ¬ nI 2 = 1 by decide)]
      exact wp_some ⟨rfl, hM1⟩
theorem q_plan (hR : Rel σ τ) (p1 p2 p3 : Int32) : CP (X_plan p1 p2 p3 σ) (M_plan p1 p2 p3 τ) := by
  obtain ⟨S, I, P, hX, hM, hV⟩ := id hR
  unfold X_plan M_plan
  rw [s_X_isSheet, s_M_isSheet]
  simp only [Option.bind_some, b2_0]
  cases h1 : irB p1 4 with
  | false => exact CP_same hR (-2)
  | true =>
    obtain ⟨s, hs, rfl⟩ := irB_t (by omega) h1
    rw [if_neg (show ¬ true = false by decide), if_neg (show ¬ true = false by decide), s_X_isOne', s_M_isOne']
    simp only [Option.bind_some, b2_0]
    cases h2 : irB p2 3 with
    | false => exact CP_same hR (-2)
    | true =>
      obtain ⟨p, hp, rfl⟩ := irB_t (by omega) h2
      rw [if_neg (show ¬ true = false by decide), if_neg (show ¬ true = false by decide), M_in_l p3 2 (by omega)]
      simp only [Option.bind_some, b2_0]
      cases h3 : irB p3 3 with
      | false =>
        refine CP_eq (o1' := some (-2, σ)) (o2' := some (-2, τ)) ?_ (if_pos rfl) (CP_same hR _)
        rcases irB_f (by omega) h3 with q | ⟨k, hk, hk7, rfl⟩
        · rw [if_pos q]
        · rw [if_neg (nI_pos hk), if_pos (show 2 < nI k from nI_lt (a := 2) (by omega) hk)]
      | true =>
        obtain ⟨w, hw, rfl⟩ := irB_t (by omega) h3
        rw [if_neg (nI_pos (by omega)), if_neg (show ¬ 2 < nI w from nI_nlt (a := 2) (by omega) (by decide)), if_neg (nI_pos (by omega)), na_cl (by omega), if_neg (by omega), x_planRefusal hX hV hs, if_neg (show ¬ true = false by decide), m_planBad hM hV hs]
        simp only [Option.bind_some]
        by_cases z : plR S I s = 0
        · rw [if_pos z, if_pos z, if_neg (nI_pos (by omega)), if_neg (by omega), eta2, eta2]
          obtain ⟨z1, z2, z3⟩ := plR_0 z
          exact CP_mk (x_planTold hX hV hM.tp hs hp hw z1 z3) (m_planned hM hV hs hp hw z1 z3) hV
        · rw [if_neg z, if_neg z]
          exact CP_same hR _
/-- what is worn longer, hour by hour -/
def weN (S : Nat → Nat → Nat) (I : Nat → Nat → Int32) (s : Nat) : Nat → Nat → Nat → Nat
  | 0 => S
  | h + 1 => if I s h = -1 then weN S I s h else up2 (weN S I s h) 4 (I s h).toNatClampNeg (min 999 (weN S I s h 4 (I s h).toNatClampNeg + 1))
theorem weN_s1 {s h : Nat} (e : I s h = -1) : weN S I s (h + 1) = weN S I s h := if_pos e
theorem weN_s2 {s h c : Nat} (hc : c < 8) (e : I s h = nI c) : weN S I s (h + 1) = up2 (weN S I s h) 4 c (min 999 (weN S I s h 4 c + 1)) := by
  have : (I s h).toNatClampNeg = c := by rw [e, na_cl (by omega)]
  show (if I s h = -1 then weN S I s h else up2 (weN S I s h) 4 (I s h).toNatClampNeg (min 999 (weN S I s h 4 (I s h).toNatClampNeg + 1))) = _
  rw [if_neg (by rw [e]; exact nI_n1 (by omega)), this]
theorem weN_o {s g i : Nat} (hg : g ≠ 4) : ∀ h, weN S I s h g i = S g i := by
  intro h
  induction h with
  | zero => rfl
  | succ h ih =>
    unfold weN
    split
    · exact ih
    · rw [up2n _ _ _ _ (by omega)]; exact ih
theorem weN_V (hV : SV S) {s : Nat} : ∀ h, SV (weN S I s h) := by
  intro h
  induction h with
  | zero => exact hV
  | succ h ih =>
    unfold weN
    split
    · exact ih
    · exact ih.trait (by omega) (by omega) (by have : mostN 4 = 999 := rfl; omega)
theorem bd999 {n : Nat} (hn : n ≤ 999) (τ : Sg) : M_within (nI n + 1) 0 999 τ = some (nI (min 999 (n + 1)), τ) := by
  unfold M_within
  rw [show nI n + 1 = nI (n + 1) from (nI_succ n).symm, if_neg (nI_pos (by omega))]
  by_cases c : 999 < n + 1
  · rw [if_pos (show 999 < nI (n + 1) from nI_lt (a := 999) c (by omega)), Nat.min_eq_left (by omega)]; rfl
  · rw [if_neg (show ¬ 999 < nI (n + 1) from nI_nlt (a := 999) (by omega) (by decide)), Nat.min_eq_right (by omega)]
theorem x_wear_L (hX : RX S I P σ) (hV : SV S) {s : Nat} (hs : s < 4) (h7 : S 7 s ≠ 0) (hok : ∀ j, j < S 8 s → okI S (I s j) = true) (v : Int32) : wp (X_wear_L51 FU s v 0 σ) (fun r => r.1 = v ∧ RX (weN S I s (S 8 s)) I P r.2) := by
  obtain ⟨v1, v2, v3, v4⟩ := hV.1
  obtain ⟨w1, w2⟩ := hV.2.2.2.2.1 s hs
  refine loopW (fun n (z : Sg) h => X_wear_L51 n s v (nI h) z) (fun h z => RX (weN S I s h) I P z) (S 8 s) _ ?_ ?_ 0 σ FU (Nat.zero_le _) hX (FU_big (by omega))
  · intro n h z hh hz k
    show wp (X_wear_L51 (n + 1) s v (nI h) z) _
    have hVh := weN_V (I := I) (s := s) hV h
    obtain ⟨y1, y2⟩ := (hz.2.2.2.2.1 s hs).2 (by rw [weN_o (by omega)]; exact h7)
    rw [weN_o (by omega)] at y1 y2
    have hc0 : z 0 0 2 = nI (S 5 0) := by rw [hz.1.1, weN_o (by omega)]
    rw [X_wear_L51, y1, if_pos (nI_lt hh (by omega)), s_item y1 w2 hh, y2 h hh]
    simp only [Option.bind_some]
    rw [s_X_isCoat hc0 v1]
    simp only [Option.bind_some, b2_0]
    rw [show nI h + 1 = nI (h + 1) from (nI_succ h).symm]
    rcases okI_t hV (hok h hh) with e | ⟨c, hc, e⟩
    · have neg : (-1 : Int32) < 0 := by decide
      rw [e, irB_neg neg, if_pos rfl]
      refine k z ?_
      show RX (weN S I s (h + 1)) I P z
      rw [weN_s1 e]
      exact hz
    · rw [e, irB_n (by omega) (by omega), decide_eq_true hc, if_neg (show ¬ true = false by decide), if_neg (nI_pos (by omega)), na_cl (by omega), if_neg (by omega)]
      have hcc : c < weN S I s h 5 0 := by rw [weN_o (by omega)]; exact hc
      have cw := (hz.2.2.1 c hcc).2.2.2
      have cb := (hVh.2.2.1 c hcc).2.2.2
      have e2 : (if z 1 c 3 + 1 < 999 then z 1 c 3 + 1 else 999) = nI (min 999 (weN S I s h 4 c + 1)) := by
        rw [cw, show nI (weN S I s h 4 c) + 1 = nI (weN S I s h 4 c + 1) from (nI_succ _).symm]
        by_cases d : weN S I s h 4 c + 1 < 999
        · rw [if_pos (show nI (weN S I s h 4 c + 1) < 999 from nI_lt (b := 999) d (by decide)), Nat.min_eq_right (by omega)]
        · rw [if_neg (show ¬ nI (weN S I s h 4 c + 1) < 999 from nI_nlt (b := 999) (by omega) (by omega)), Nat.min_eq_left (by omega)]; rfl
      unfold Coat_wornLonger
      simp only [Option.bind_some]
      rw [e2]
      refine k _ ?_
      show RX (weN S I s (h + 1)) I P _
      rw [weN_s2 (by omega) e]
      exact hz.trait hVh (g := 4) (by omega) (by omega) hcc
  · intro n z hz
    show wp (X_wear_L51 (n + 1) s v (nI (S 8 s)) z) _
    obtain ⟨y1, y2⟩ := (hz.2.2.2.2.1 s hs).2 (by rw [weN_o (by omega)]; exact h7)
    rw [weN_o (by omega)] at y1
    rw [X_wear_L51, y1, if_neg (nI_nlt (Nat.le_refl _) (by omega))]
    exact wp_some ⟨rfl, hz⟩
theorem m_wear_L (hM : RM S I P τ) (hV : SV S) {s : Nat} (hs : s < 4) (h7 : S 7 s ≠ 0) (hok : ∀ j, j < S 8 s → okI S (I s j) = true) (v : Int32) : wp (M_wear_L41 FU (nI s) v 0 τ) (fun r => r.1 = v ∧ RM (weN S I s (S 8 s)) I P r.2) := by
  obtain ⟨v1, v2, v3, v4⟩ := hV.1
  obtain ⟨w1, w2⟩ := hV.2.2.2.2.1 s hs
  refine loopW (fun n (z : Sg) h => M_wear_L41 n (nI s) v (nI h) z) (fun h z => RM (weN S I s h) I P z) (S 8 s) _ ?_ ?_ 0 τ FU (Nat.zero_le _) hM (FU_big (by omega))
  · intro n h z hh hz k
    show wp (M_wear_L41 (n + 1) (nI s) v (nI h) z) _
    have hVh := weN_V (I := I) (s := s) hV h
    have h7' : weN S I s h 7 s ≠ 0 := by rw [weN_o (by omega)]; exact h7
    obtain ⟨n1, n2, n3⟩ := (hz.2.2.2.2.1 s hs).2 h7'
    rw [weN_o (by omega)] at n2
    have hit : itS (weN S I s h) I s h = I s h := by unfold itS; rw [weN_o (by omega), if_pos hh]
    rw [M_wear_L41, if_neg (nI_pos (by omega)), na_cl (by omega), if_neg (by omega), n2, if_pos (nI_lt hh (by omega)), m_wornAt hz hVh hs (by omega) h7', hit]
    simp only [Option.bind_some]
    rw [show nI h + 1 = nI (h + 1) from (nI_succ h).symm]
    rcases okI_t hV (hok h hh) with e | ⟨c, hc, e⟩
    · rw [if_pos e]
      refine k z ?_
      show RM (weN S I s (h + 1)) I P z
      rw [weN_s1 e]
      exact hz
    · have hcc : c < weN S I s h 5 0 := by rw [weN_o (by omega)]; exact hc
      have cw := (hz.2.2.1 c hcc).2.2.2
      have cb := (hVh.2.2.1 c hcc).2.2.2
      rw [if_neg (by rw [e]; exact nI_n1 (by omega)), e, show (3 : Int32) * nI c + 2 = nI (3 * c + 2) by rw [show (3 : Int32) = nI 3 from rfl, na_mul, show (2 : Int32) = nI 2 from rfl, na_add], if_neg (nI_pos (by omega)), na_cl (by omega), if_neg (by omega), cw, bd999 cb]
      simp only [Option.bind_some]
      rw [if_neg (nI_pos (by omega)), if_neg (by omega)]
      refine k _ ?_
      show RM (weN S I s (h + 1)) I P _
      rw [weN_s2 (by omega) e]
      exact hz.trait (g := 4) (by omega) (by omega) hcc
  · intro n z hz
    show wp (M_wear_L41 (n + 1) (nI s) v (nI (S 8 s)) z) _
    obtain ⟨n1, n2, n3⟩ := (hz.2.2.2.2.1 s hs).2 (by rw [weN_o (by omega)]; exact h7)
    rw [weN_o (by omega)] at n2
    rw [M_wear_L41, if_neg (nI_pos (by omega)), na_cl (by omega), if_neg (by omega), n2, if_neg (nI_nlt (Nat.le_refl _) (by omega))]
    exact wp_some ⟨rfl, hz⟩
theorem q_wear (hR : Rel σ τ) (p1 p2 : Int32) : CP (X_wear p1 p2 σ) (M_wear p1 p2 τ) := by
  obtain ⟨S, I, P, hX, hM, hV⟩ := id hR
  unfold X_wear M_wear
  rw [s_X_isSheet, s_M_isSheet]
  simp only [Option.bind_some, b2_0]
  cases h1 : irB p1 4 with
  | false => exact CP_same hR (-2)
  | true =>
    obtain ⟨s, hs, rfl⟩ := irB_t (by omega) h1
    rw [if_neg (show ¬ true = false by decide), if_neg (show ¬ true = false by decide), s_X_isOne', s_M_isOne']
    simp only [Option.bind_some, b2_0]
    cases h2 : irB p2 3 with
    | false => exact CP_same hR (-2)
    | true =>
      obtain ⟨p, hp, rfl⟩ := irB_t (by omega) h2
      rw [if_neg (show ¬ true = false by decide), if_neg (show ¬ true = false by decide), if_neg (nI_pos (by omega)), na_cl (by omega), if_neg (by omega), x_planRefusal hX hV hs, m_planBad hM hV hs]
      simp only [Option.bind_some]
      by_cases z : plR S I s = 0
      · rw [if_pos z, if_pos z]
        obtain ⟨z1, z2, z3⟩ := plR_0 z
        refine CP_mk (r := nI (plA S I P s p 0)) (S := weN S I s (S 8 s)) (I := I) (P := P) ?_ ?_ (weN_V hV _)
        · refine wp_bind (x_planTold hX hV hM.tp hs hp (w := 0) (by omega) z1 z3) ?_
          rintro ⟨r, σ7⟩ ⟨r1, hX7⟩
          simp only [show r = _ from r1]
          exact x_wear_L hX7 hV hs z1 z3 _
        · refine wp_bind (m_planned hM hV hs hp (w := 0) (by omega) z1 z3) ?_
          rintro ⟨r, σ7⟩ ⟨r1, hM7⟩
          simp only [show r = _ from r1]
          exact m_wear_L hM7 hV hs z1 z3 _
      · rw [if_neg z, if_neg z]
        exact CP_same hR _
end
