/-! the calls: pushes, drawn, chance -/
section
variable {S : Nat → Nat → Nat} {I : Nat → Nat → Int32} {P : Nat → Txt} {σ τ : Sg}
theorem ccost_le (hV : SV S) (md : Nat → Nat) : ccost S P md ≤ 2376 := LH_le (cF (P := P) hV md) 24 0 0 rfl (Nat.zero_le _)
/-- the first least of c, up to h -/
def amS (c : Nat → Nat) : Nat → Nat × Nat
  | 0 => (0, c 0)
  | h + 1 => if c (h + 1) < (amS c h).2 then (h + 1, c (h + 1)) else amS c h
theorem amS_le {c : Nat → Nat} {B : Nat} (hc : ∀ h, c h ≤ B) : ∀ h, (amS c h).1 ≤ h ∧ (amS c h).2 ≤ B := by
  intro h
  induction h with
  | zero => exact ⟨Nat.le_refl _, hc 0⟩
  | succ h ih =>
    unfold amS
    split
    · exact ⟨Nat.le_refl _, hc _⟩
    · exact ⟨by omega, ih.2⟩
theorem Tb.cong {f g f' g' : Nat → Nat → Nat} {n : Nat} (h : Tb f g n σ) (e : ∀ h k, h < 24 → k ≤ n → f' h k = f h k ∧ g' h k = g h k) : Tb f' g' n σ := ⟨h.1, fun a k ha hk => by rw [(e a k ha hk).1, (e a k ha hk).2]; exact h.2 a k ha hk⟩
theorem puM_lt (hV : SV S) {p : Nat} (hp : p < 3) (v : Int32) (h0 : Nat) {h : Nat} (hh : h < 24) : puM S p v h0 h < 100 := by
  unfold puM
  split
  · have := (bdS_N (nI (mdS S p h) + v)).2
    omega
  · exact mdS_lt hV hp hh
theorem x_pushes (hX : RX S I P σ) (hV : SV S) (hP : ∀ i, i < S 5 2 → TP (P i)) {p : Nat} (hp : p < 3) (v : Int32) {w : Nat} (hw : w < 2) : wp (X_pushes_L29 FU (nI p) v (nI w) 0 σ) (fun r => r.1 = nI (if w = 0 then (amS (fun h => ccost S P (puM S p v h)) 23).1 else (amS (fun h => ccost S P (puM S p v h)) 23).2) ∧ RX S I P r.2) := by
  obtain ⟨v1, v2, v3, v4⟩ := hV.1
  have hc : ∀ h, (fun h => ccost S P (puM S p v h)) h ≤ 2376 := fun h => ccost_le hV _
  -- the later hours
  have later : ∀ (z : Sg), RX S I P z → Tb (cfN S P (puM S p v 0)) (ccN S P (puM S p v 0)) (S 5 0) z → wp (X_pushes_L75 FU (nI p) (nI w) 0 (nI (ccost S P (puM S p v 0))) 1 z) (fun r => r.1 = nI (if w = 0 then (amS (fun h => ccost S P (puM S p v h)) 23).1 else (amS (fun h => ccost S P (puM S p v h)) 23).2) ∧ RX S I P r.2) := by
    intro z hz hT
    refine loopW (fun N (y : Sg) i => X_pushes_L75 N (nI p) (nI w) (nI (amS (fun h => ccost S P (puM S p v h)) (i - 1)).1) (nI (amS (fun h => ccost S P (puM S p v h)) (i - 1)).2) (nI i) y) (fun i y => 1 ≤ i ∧ RX S I P y ∧ Tb (cfN S P (puM S p v (i - 1))) (ccN S P (puM S p v (i - 1))) (S 5 0) y) 24 _ ?_ ?_ 1 z FU (by omega) ⟨Nat.le_refl _, hz, hT⟩ (FU_big (by omega))
    · rintro N i y hi ⟨y0, y1, y2⟩ kk
      obtain ⟨i, rfl⟩ : ∃ i', i = i' + 1 := ⟨i - 1, by omega⟩
      rw [Nat.add_sub_cancel] at y2
      have kk : ∀ s', RX S I P s' → Tb (cfN S P (puM S p v (i + 1))) (ccN S P (puM S p v (i + 1))) (S 5 0) s' → wp (X_pushes_L75 N (nI p) (nI w) (nI (amS (fun h => ccost S P (puM S p v h)) (i + 1)).1) (nI (amS (fun h => ccost S P (puM S p v h)) (i + 1)).2) (nI (i + 2)) s') (fun r => r.1 = nI (if w = 0 then (amS (fun h => ccost S P (puM S p v h)) 23).1 else (amS (fun h => ccost S P (puM S p v h)) 23).2) ∧ RX S I P r.2) := fun s' a b => kk s' ⟨by omega, a, b⟩
      have ha := amS_le hc i
      show wp (X_pushes_L75 (N + 1) (nI p) (nI w) (nI (amS (fun h => ccost S P (puM S p v h)) i).1) (nI (amS (fun h => ccost S P (puM S p v h)) i).2) (nI (i + 1)) y) _
      have em : puM S p v (i + 1) i = mdS S p i := by unfold puM; rw [if_neg (by omega)]
      rw [X_pushes_L75, if_pos (show nI (i + 1) < 24 from nI_lt (b := 24) hi (by decide)), nI_pred, x_mood y1 hp (by omega)]
      simp only [Option.bind_some]
      have th := x_tellHour y1 hV hP (h := i) (by omega) (puM S p v (i + 1)) (by rw [em]; have := mdS_lt hV hp (show i < 24 by omega); omega)
      rw [em] at th
      refine wp_bind th ?_
      rintro y' ⟨t1, t2, t3⟩
      have hX' := y1.fr hV (t3.mo fun g a j q => q.nx)
      have hT' : Tb (cfN S P (puM S p v (i + 1))) (ccN S P (puM S p v (i + 1))) (S 5 0) y' := by
        refine ⟨t1, fun h k hh hk => ?_⟩
        by_cases e : h = i
        · subst e; exact t2 k hk
        · have hm : puM S p v (i + 1) h = puM S p v i h := by
            unfold puM
            by_cases c : i ≤ h
            · rw [if_pos (by omega), if_pos c]
            · rw [if_neg (by omega), if_neg c]
          have e1 : cfN S P (puM S p v (i + 1)) h k = cfN S P (puM S p v i) h k := by unfold cfN; rw [hm]
          have e2 : ccN S P (puM S p v (i + 1)) h k = ccN S P (puM S p v i) h k := by unfold ccN; rw [hm]
          rw [t3 15 0 _ (by unfold SH EX; omega), t3 16 0 _ (by unfold SH EX; omega), e1, e2]
          exact y2.2 h k hh hk
      refine wp_bind (x_cheapest (cF hV _) v1 hT') ?_
      rintro ⟨r, y3⟩ ⟨r1, r2, r3⟩
      have r1 : r = nI (ccost S P (puM S p v (i + 1))) := r1
      have hc1 := hc (i + 1)
      subst r1
      simp only [] at hc1 ⊢
      have hX3 := hX'.fr hV (r3.mo fun g a j q => q.nx)
      have hT3 := hT'.fr r3
      have fin := kk y3 hX3 hT3
      have es : amS (fun h => ccost S P (puM S p v h)) (i + 1) = if ccost S P (puM S p v (i + 1)) < (amS (fun h => ccost S P (puM S p v h)) i).2 then (i + 1, ccost S P (puM S p v (i + 1))) else amS (fun h => ccost S P (puM S p v h)) i := rfl
      rw [es] at fin
      rw [show nI (i + 1) + 1 = nI (i + 2) from (nI_succ _).symm]
      by_cases c : ccost S P (puM S p v (i + 1)) < (amS (fun h => ccost S P (puM S p v h)) i).2
      · rw [if_pos c] at fin
        rw [if_pos (nI_lt c (by omega))]
        exact fin
      · rw [if_neg c] at fin
        rw [if_neg (nI_nlt (by omega) (by omega))]
        exact fin
    · rintro N y ⟨y0, y1, y2⟩
      show wp (X_pushes_L75 (N + 1) (nI p) (nI w) _ _ (nI 24) y) _
      rw [X_pushes_L75, if_neg (by decide)]
      have hq : w = 0 ∨ w = 1 := by omega
      rcases hq with q | q <;> subst q
      · rw [if_pos (by decide)]
        exact wp_some ⟨rfl, y1⟩
      · rw [if_neg (by decide)]
        exact wp_some ⟨rfl, y1⟩
  refine loopW (fun N (y : Sg) i => X_pushes_L29 N (nI p) v (nI w) (nI i) y) (fun i y => RX S I P y ∧ Th (cfN S P (puM S p v 0)) (ccN S P (puM S p v 0)) (S 5 0) i y) 24 _ ?_ ?_ 0 σ FU (Nat.zero_le _) ⟨hX, fun h => absurd h (by omega), fun h' k q => absurd q (by omega)⟩ (FU_big (by omega))
  · rintro N i y hi ⟨y1, y2⟩ kk
    show wp (X_pushes_L29 (N + 1) (nI p) v (nI w) (nI i) y) _
    have em : puM S p v 0 i = bdN (nI (mdS S p i) + v) := by unfold puM; rw [if_pos (Nat.zero_le _)]
    rw [X_pushes_L29, if_pos (show nI i < 24 from nI_lt (b := 24) hi (by decide)), x_mood y1 hp hi]
    simp only [Option.bind_some, s_bounded]
    have th := x_tellHour y1 hV hP (h := i) hi (puM S p v 0) (by have := puM_lt hV hp v 0 hi; omega)
    rw [em, ← (bdS_N _).1] at th
    refine wp_bind th ?_
    rintro y' ⟨t1, t2, t3⟩
    rw [show nI i + 1 = nI (i + 1) from (nI_succ i).symm]
    exact kk y' ⟨y1.fr hV (t3.mo fun g a j q => q.nx), y2.st v1 t1 t2 t3⟩
  · rintro N y ⟨y1, y2⟩
    show wp (X_pushes_L29 (N + 1) (nI p) v (nI w) (nI 24) y) _
    rw [X_pushes_L29, if_neg (by decide)]
    refine wp_bind (x_cheapest (cF hV _) v1 y2.tb) ?_
    rintro ⟨r, y3⟩ ⟨r1, r2, r3⟩
    have r1 : r = nI (ccost S P (puM S p v 0)) := r1
    subst r1
    exact later y3 (y1.fr hV (r3.mo fun g a j q => q.nx)) (y2.tb.fr r3)
theorem m_pushes (hM : RM S I P τ) (hV : SV S) {p : Nat} (hp : p < 3) (v : Int32) {w : Nat} (hw : w < 2) : wp ((M_laysAside (nI p) τ).bind fun σ7 => M_pushes_L50 FU (nI p) v (nI w) (-1) 1000000 0 σ7) (fun r => r.1 = nI (if w = 0 then (amS (fun h => ccost S P (puM S p v h)) 23).1 else (amS (fun h => ccost S P (puM S p v h)) 23).2) ∧ RM S I P r.2) := by
  obtain ⟨v1, v2, v3, v4⟩ := hV.1
  have hc : ∀ h, (fun h => ccost S P (puM S p v h)) h ≤ 2376 := fun h => ccost_le hV _
  refine wp_bind (m_laysAside hM hp) ?_
  rintro τ7 ⟨k1, k2⟩
  refine loopW (fun N (z : Int32 × Int32 × Sg) i => M_pushes_L50 N (nI p) v (nI w) z.1 z.2.1 (nI i) z.2.2) (fun i z => RM S I P z.2.2 ∧ (∀ h, h < 24 → z.2.2 44 0 h = nI (mdS S p h)) ∧ z.1 = (if i = 0 then -1 else nI (amS (fun h => ccost S P (puM S p v h)) (i - 1)).1) ∧ z.2.1 = (if i = 0 then 1000000 else nI (amS (fun h => ccost S P (puM S p v h)) (i - 1)).2)) 24 _ ?_ ?_ 0 ((-1 : Int32), (1000000 : Int32), τ7) FU (Nat.zero_le _) ⟨k1, k2, rfl, rfl⟩ (FU_big (by omega))
  · rintro N i ⟨b, l, z⟩ hi ⟨z1, z2, z3, z4⟩ kk
    have z1 : RM S I P z := z1
    have z2 : ∀ h, h < 24 → z 44 0 h = nI (mdS S p h) := z2
    have z3 : b = (if i = 0 then -1 else nI (amS (fun h => ccost S P (puM S p v h)) (i - 1)).1) := z3
    have z4 : l = (if i = 0 then 1000000 else nI (amS (fun h => ccost S P (puM S p v h)) (i - 1)).2) := z4
    show wp (M_pushes_L50 (N + 1) (nI p) v (nI w) b l (nI i) z) _
    rw [M_pushes_L50, if_pos (show nI i < 24 from nI_lt (b := 24) hi (by decide))]
    refine wp_bind (m_pushed z1 hp hi v) ?_
    rintro y ⟨y1, y2⟩
    have hV1 : SV (puN S p i 24 v) := puN_V hV 24 (by omega)
    refine wp_bind (m_cheapEx y1 hV1 hp) ?_
    rintro ⟨r, y3⟩ ⟨r1, r2, r3, r4⟩
    have ecost : LH (cfN (puN S p i 24 v) P (mdS (puN S p i 24 v) p)) (ccN (puN S p i 24 v) P (mdS (puN S p i 24 v) p)) (puN S p i 24 v 5 0) 0 0 = ccost S P (puM S p v i) := by
      refine ccost_cong (S := S) (S' := puN S p i 24 v) (md := puM S p v i) (md' := mdS (puN S p i 24 v) p) (fun g k hg => ?_) (fun h hh => ?_)
      · unfold puN
        rw [if_neg (fun q => hg q.1)]
      · unfold mdS puN puM
        by_cases c : i ≤ h
        · rw [if_pos (by omega), if_pos c]; rfl
        · rw [if_neg (by omega), if_neg c]; rfl
    have r1 : r = nI (ccost S P (puM S p v i)) := by rw [show r = _ from r1, ecost]
    subst r1
    refine wp_bind (m_laysBack (S := S) r2 hp ?_ (fun h hh => ?_)) ?_
    · funext g k
      unfold mvN puN mdS
      by_cases c : g = 0 ∧ 24 * p ≤ k ∧ k < 24 * p + 24
      · rw [if_pos c, c.1, show 24 * p + (k - 24 * p) = k by omega]
      · rw [if_neg c, if_neg (by omega)]
    · exact (r4 44 0 h (by unfold SC; omega)).trans ((y2 44 0 h (by omega)).trans (z2 h hh))
    · rintro y4 ⟨x1, x2⟩
      rw [show nI i + 1 = nI (i + 1) from (nI_succ i).symm]
      have hci := hc i
      simp only [] at hci ⊢
      have fin : ∀ b' l', b' = nI (amS (fun h => ccost S P (puM S p v h)) i).1 → l' = nI (amS (fun h => ccost S P (puM S p v h)) i).2 → wp (M_pushes_L50 N (nI p) v (nI w) b' l' (nI (i + 1)) y4) (fun r => r.1 = nI (if w = 0 then (amS (fun h => ccost S P (puM S p v h)) 23).1 else (amS (fun h => ccost S P (puM S p v h)) 23).2) ∧ RM S I P r.2) := fun b' l' e1 e2 => kk (b', l', y4) ⟨x1, x2, by rw [if_neg (by omega), Nat.add_sub_cancel]; exact e1, by rw [if_neg (by omega), Nat.add_sub_cancel]; exact e2⟩
      by_cases i0 : i = 0
      · subst i0
        rw [if_pos rfl] at z3 z4
        rw [z4, if_pos (show nI (ccost S P (puM S p v 0)) < 1000000 from nI_lt (b := 1000000) (by omega) (by decide))]
        exact fin _ _ rfl rfl
      · obtain ⟨j, rfl⟩ : ∃ j, i = j + 1 := ⟨i - 1, by omega⟩
        rw [if_neg i0, Nat.add_sub_cancel] at z3 z4
        have ha := amS_le hc j
        have es : amS (fun h => ccost S P (puM S p v h)) (j + 1) = if ccost S P (puM S p v (j + 1)) < (amS (fun h => ccost S P (puM S p v h)) j).2 then (j + 1, ccost S P (puM S p v (j + 1))) else amS (fun h => ccost S P (puM S p v h)) j := rfl
        rw [z3, z4]
        rw [es] at fin
        by_cases c : ccost S P (puM S p v (j + 1)) < (amS (fun h => ccost S P (puM S p v h)) j).2
        · rw [if_pos c] at fin
          rw [if_pos (nI_lt c (by omega))]
          exact fin _ _ rfl rfl
        · rw [if_neg c] at fin
          rw [if_neg (nI_nlt (by omega) (by omega))]
          exact fin _ _ rfl rfl
  · rintro N ⟨b, l, z⟩ ⟨z1, z2, z3, z4⟩
    have z3 : b = nI (amS (fun h => ccost S P (puM S p v h)) 23).1 := z3
    have z4 : l = nI (amS (fun h => ccost S P (puM S p v h)) 23).2 := z4
    show wp (M_pushes_L50 (N + 1) (nI p) v (nI w) b l (nI 24) z) _
    rw [M_pushes_L50, if_neg (by decide)]
    have hq : w = 0 ∨ w = 1 := by omega
    rcases hq with q | q <;> subst q
    · rw [if_pos (by decide)]
      exact wp_some ⟨z3, z1⟩
    · rw [if_neg (by decide)]
      exact wp_some ⟨z4, z1⟩
theorem q_pushes (hR : Rel σ τ) (p1 p2 p3 : Int32) : CP (X_pushes p1 p2 p3 σ) (M_pushes p1 p2 p3 τ) := by
  obtain ⟨S, I, P, hX, hM, hV⟩ := id hR
  unfold X_pushes M_pushes
  rw [s_X_isOne', s_M_isOne']
  simp only [Option.bind_some, b2_0]
  cases h1 : irB p1 3 with
  | false => exact CP_same hR (-2)
  | true =>
    obtain ⟨p, hp, rfl⟩ := irB_t (by omega) h1
    rw [if_neg (show ¬ true = false by decide), if_neg (show ¬ true = false by decide), s_X_isPush, s_M_push]
    simp only [Option.bind_some, b2_0]
    cases h2 : puB p2 with
    | false => exact CP_same hR (-2)
    | true =>
      rw [if_neg (show ¬ true = false by decide), if_neg (show ¬ true = false by decide), M_in_l p3 1 (by omega)]
      simp only [Option.bind_some, b2_0]
      cases h3 : irB p3 2 with
      | false =>
        refine CP_eq (o1' := some (-2, σ)) (o2' := some (-2, τ)) ?_ (if_pos rfl) (CP_same hR _)
        rcases irB_f (by omega) h3 with q | ⟨k, hk, hk7, rfl⟩
        · rw [if_pos q]
        · rw [if_neg (nI_pos hk), if_pos (show 1 < nI k from nI_lt (a := 1) (by omega) hk)]
      | true =>
        obtain ⟨w, hw, rfl⟩ := irB_t (by omega) h3
        rw [if_neg (nI_pos (by omega)), if_neg (show ¬ 1 < nI w from nI_nlt (a := 1) (by omega) (by decide)), if_neg (show ¬ true = false by decide)]
        exact CP_mk (x_pushes hX hV hM.tp hp p2 hw) (m_pushes hM hV hp p2 hw) hV
/-- a mood that is drawn -/
def dwI (z : Int32) : Int32 := ((z).toUInt32 >>> (((9 : Int32)).toUInt32 &&& 31)).toInt32 - ((z).toUInt32 >>> (((9 : Int32)).toUInt32 &&& 31)).toInt32 / (100 : Int32) * (100 : Int32)
theorem dwI_n (z : Int32) : ∃ d, d < 100 ∧ dwI z = nI d := by
  have h1 : ((z).toUInt32 >>> (((9 : Int32)).toUInt32 &&& 31)).toInt32.toBitVec.toNat = z.toBitVec.toNat / 2 ^ 9 := pk_ushr z 9 9 (by decide)
  have h2 := z.toBitVec.isLt
  have h3 : ((z).toUInt32 >>> (((9 : Int32)).toUInt32 &&& 31)).toInt32 = nI (z.toBitVec.toNat / 2 ^ 9) := by
    apply Int32.toBitVec_inj.mp
    apply BitVec.eq_of_toNat_eq
    rw [h1, pk_tn (by omega)]
  refine ⟨z.toBitVec.toNat / 2 ^ 9 % 100, Nat.mod_lt _ (by omega), ?_⟩
  unfold dwI
  rw [h3, show (100 : Int32) = nI 100 from rfl, pk_rem (by omega) (by omega) (by omega)]
def zsI (seed : Int32) : Nat → Int32
  | 0 => seed
  | h + 1 => zsI seed h * (1103515245 : Int32) + (12345 : Int32)
/-- the moods that a seed draws -/
def dwN (seed : Int32) (h : Nat) : Nat := (dwI (zsI seed (h + 1))).toNatClampNeg
theorem dwN_n (seed : Int32) (h : Nat) : dwI (zsI seed (h + 1)) = nI (dwN seed h) ∧ dwN seed h < 100 := by
  obtain ⟨d, hd, e⟩ := dwI_n (zsI seed (h + 1))
  unfold dwN
  rw [e, na_cl (by omega)]
  exact ⟨rfl, hd⟩
theorem x_drawnCost (hX : RX S I P σ) (hV : SV S) (hP : ∀ i, i < S 5 2 → TP (P i)) (seed : Int32) : wp (X_drawnCost seed σ) (fun r => r.1 = nI (ccost S P (dwN seed)) ∧ RX S I P r.2) := by
  obtain ⟨v1, v2, v3, v4⟩ := hV.1
  unfold X_drawnCost
  refine loopW (fun N (y : Sg) i => X_drawnCost_L4 N (zsI seed i) (nI i) y) (fun i y => RX S I P y ∧ Th (cfN S P (dwN seed)) (ccN S P (dwN seed)) (S 5 0) i y) 24 _ ?_ ?_ 0 σ FU (Nat.zero_le _) ⟨hX, fun h => absurd h (by omega), fun h' k q => absurd q (by omega)⟩ (FU_big (by omega))
  · rintro N i y hi ⟨y1, y2⟩ kk
    show wp (X_drawnCost_L4 (N + 1) (zsI seed i) (nI i) y) _
    obtain ⟨d1, d2⟩ := dwN_n seed i
    rw [X_drawnCost_L4, if_pos (show nI i < 24 from nI_lt (b := 24) hi (by decide))]
    show wp ((X_tellHour (nI i) (dwI (zsI seed (i + 1))) y).bind fun σ2 => X_drawnCost_L4 N (zsI seed (i + 1)) (nI i + 1) σ2) _
    rw [d1]
    refine wp_bind (x_tellHour y1 hV hP (h := i) hi (dwN seed) (by omega)) ?_
    rintro y' ⟨t1, t2, t3⟩
    rw [show nI i + 1 = nI (i + 1) from (nI_succ i).symm]
    exact kk y' ⟨y1.fr hV (t3.mo fun g a j q => q.nx), y2.st v1 t1 t2 t3⟩
  · rintro N y ⟨y1, y2⟩
    show wp (X_drawnCost_L4 (N + 1) (zsI seed 24) (nI 24) y) _
    rw [X_drawnCost_L4, if_neg (by decide)]
    refine wp_bind (x_cheapest (cF hV _) v1 y2.tb) ?_
    rintro ⟨r, y3⟩ ⟨r1, r2, r3⟩
    exact wp_some ⟨r1, y1.fr hV (r3.mo fun g a j q => q.nx)⟩
theorem m_cheapDrawn (hM : RM S I P τ) (hV : SV S) {p : Nat} (hp : p < 3) (seed : Int32) : wp (M_cheapDrawn seed (nI p) τ) (fun r => r.1 = nI (ccost S P (dwN seed)) ∧ RM S I P r.2) := by
  unfold M_cheapDrawn
  refine wp_bind (m_laysAside hM hp) ?_
  rintro τ7 ⟨k1, k2⟩
  refine loopW (fun N (z : Sg) i => M_cheapDrawn_L10 N (nI p) (zsI seed i) (nI i) z) (fun i z => RM (mvN S p i (dwN seed)) I P z ∧ ∀ h, h < 24 → z 44 0 h = nI (mdS S p h)) 24 _ ?_ ?_ 0 τ7 FU (Nat.zero_le _) ⟨by rw [mvN_0]; exact k1, k2⟩ (FU_big (by omega))
  · rintro N i z hi ⟨z1, z2⟩ kk
    show wp (M_cheapDrawn_L10 (N + 1) (nI p) (zsI seed i) (nI i) z) _
    obtain ⟨d1, d2⟩ := dwN_n seed i
    rw [M_cheapDrawn_L10, if_pos (show nI i < 24 from nI_lt (b := 24) hi (by decide)), show (24 : Int32) * nI p + nI i = nI (24 * p + i) by rw [show (24 : Int32) = nI 24 from rfl, na_mul, na_add], if_neg (nI_pos (by omega)), na_cl (by omega), if_neg (by omega), show nI i + 1 = nI (i + 1) from (nI_succ i).symm]
    show wp (M_cheapDrawn_L10 N (nI p) (zsI seed (i + 1)) (nI (i + 1)) (upd3 z 34 0 (24 * p + i) (dwI (zsI seed (i + 1))))) _
    rw [d1]
    refine kk _ ⟨by rw [mvN_s]; exact z1.mood, fun h hh => ?_⟩
    rw [u3n _ _ _ _ _ (by omega)]; exact z2 h hh
  · rintro N z ⟨z1, z2⟩
    show wp (M_cheapDrawn_L10 (N + 1) (nI p) (zsI seed 24) (nI 24) z) _
    rw [M_cheapDrawn_L10, if_neg (by decide)]
    have hV1 : SV (mvN S p 24 (dwN seed)) := mvN_V hV (fun h => (dwN_n seed h).2) 24
    refine wp_bind (m_cheapEx z1 hV1 hp) ?_
    rintro ⟨r, y3⟩ ⟨r1, r2, r3, r4⟩
    have ecost : LH (cfN (mvN S p 24 (dwN seed)) P (mdS (mvN S p 24 (dwN seed)) p)) (ccN (mvN S p 24 (dwN seed)) P (mdS (mvN S p 24 (dwN seed)) p)) (mvN S p 24 (dwN seed) 5 0) 0 0 = ccost S P (dwN seed) := by
      refine ccost_cong (S := S) (S' := mvN S p 24 (dwN seed)) (md := dwN seed) (md' := mdS (mvN S p 24 (dwN seed)) p) (fun g k hg => ?_) (fun h hh => mvN_md hh)
      unfold mvN
      rw [if_neg (fun q => hg q.1)]
    refine wp_bind (m_laysBack (S := S) r2 hp ?_ (fun h hh => ?_)) ?_
    · funext g k
      unfold mvN mdS
      by_cases c : g = 0 ∧ 24 * p ≤ k ∧ k < 24 * p + 24
      · rw [if_pos c, c.1, show 24 * p + (k - 24 * p) = k by omega]
      · rw [if_neg c, if_neg c]
    · exact (r4 44 0 h (by unfold SC; omega)).trans (z2 h hh)
    · rintro y4 ⟨x1, x2⟩
      refine wp_some ⟨?_, x1⟩
      show r = _
      rw [show r = _ from r1, ecost]
theorem q_drawn (hR : Rel σ τ) (p1 p2 : Int32) : CP (X_drawn p1 p2 σ) (M_drawn p1 p2 τ) := by
  obtain ⟨S, I, P, hX, hM, hV⟩ := id hR
  unfold X_drawn M_drawn
  rw [s_X_isOne', s_M_isOne']
  simp only [Option.bind_some, b2_0]
  cases h1 : irB p2 3 with
  | false => exact CP_same hR (-2)
  | true =>
    obtain ⟨p, hp, rfl⟩ := irB_t (by omega) h1
    rw [if_neg (show ¬ true = false by decide), if_neg (show ¬ true = false by decide), eta2, eta2]
    exact CP_mk (x_drawnCost hX hV hM.tp p1) (m_cheapDrawn hM hV hp p1) hV
/-- how many of the seeds are cheap enough -/
def gdN (S : Nat → Nat → Nat) (P : Nat → Txt) (seed : Int32) (k m : Nat) : Nat := ctN (fun i => decide (ccost S P (dwN (seed + nI i)) ≤ k)) m
end
