/-! the calls: sheet, cell, copy, coats -/
section
variable {S : Nat → Nat → Nat} {I : Nat → Nat → Int32} {P : Nat → Txt} {σ τ : Sg}
def shS (S : Nat → Nat → Nat) (s k m : Nat) : Nat → Nat → Nat := up2 (up2 S 7 s k) 8 s m
def shI (I : Nat → Nat → Int32) (s : Nat) : Nat → Nat → Int32 := fun s' j => if s' = s then 0 else I s' j
def upI (I : Nat → Nat → Int32) (s i : Nat) (v : Int32) : Nat → Nat → Int32 := fun s' j => if s' = s ∧ j = i then v else I s' j
theorem shS_o {s k m g i : Nat} (h : ¬ (g = 7 ∧ i = s)) (h2 : ¬ (g = 8 ∧ i = s)) : shS S s k m g i = S g i := by
  unfold shS
  rw [up2n _ _ _ _ h2, up2n _ _ _ _ h]
theorem shS_7 {s k m : Nat} : shS S s k m 7 s = k := by unfold shS; rw [up2n _ _ _ _ (by omega), up2s]
theorem shS_8 {s k m : Nat} : shS S s k m 8 s = m := by unfold shS; rw [up2s]
/-- the sort as it stands in a sheet's cell -/
def srI (k : Nat) : Int32 := if k = 0 then -1 else nI (k - 1)
theorem x_become (hX : RX S I P σ) {s k m : Nat} (hs : s < 4) {n : Int32} (hn : (if (0 : Int32) < (if n < (40 : Int32) then n else (40 : Int32)) then (if n < (40 : Int32) then n else (40 : Int32)) else (0 : Int32)) = nI m) (hm : m ≤ 40) : wp (Sheet_become s (srI k) n σ) (fun σ' => RX (shS S s k m) (shI I s) P σ' ∧ Fr (fun g a _ => (g = 12 ∨ g = 13) ∧ a = s) σ σ') := by
  unfold Sheet_become
  rw [hn]
  simp only []
  have f3 : Fr (fun g a _ => (g = 12 ∨ g = 13) ∧ a = s) σ (upd3 (upd3 σ 12 s 1 (srI k)) 12 s 2 (nI m)) := (Fr.rf.up ⟨Or.inl rfl, rfl⟩).up ⟨Or.inl rfl, rfl⟩
  have c1 : upd3 (upd3 σ 12 s 1 (srI k)) 12 s 2 (nI m) 12 s 1 = srI k := by rw [u3n _ _ _ _ _ (by omega), u3s]
  have c2 : upd3 (upd3 σ 12 s 1 (srI k)) 12 s 2 (nI m) 12 s 2 = nI m := u3s _ _ _ _ _
  revert f3 c1 c2
  generalize upd3 (upd3 σ 12 s 1 (srI k)) 12 s 2 (nI m) = σ3
  intro f3 c1 c2
  refine loopW (fun n (s' : Sg) i => Sheet_become_L21 n s (nI i) s') (fun i s' => (∀ j, j < i → s' 13 s j = 0) ∧ Fr (fun g a _ => g = 13 ∧ a = s) σ3 s') 40 _ ?_ ?_ 0 σ3 FU (Nat.zero_le _) ⟨fun j h => absurd h (Nat.not_lt_zero _), Fr.rf⟩ (FU_big (by omega))
  · rintro n i s' hi ⟨h1, h2⟩ k
    show wp (Sheet_become_L21 (n + 1) s (nI i) s') _
    rw [Sheet_become_L21, if_pos (show nI i < 40 from nI_lt (b := 40) hi (by decide)), if_neg (nI_pos (by omega)), na_cl (by omega), if_neg (by omega), show nI i + 1 = nI (i + 1) from (nI_succ i).symm]
    refine k _ ⟨fun j hj => ?_, h2.up ⟨rfl, rfl⟩⟩
    by_cases e : j = i
    · subst e; rw [u3s]
    · rw [u3n _ _ _ _ _ (by omega)]; exact h1 j (by omega)
  · rintro n s' ⟨h1, h2⟩
    show wp (Sheet_become_L21 (n + 1) s (nI 40) s') _
    rw [Sheet_become_L21, if_neg (by decide)]
    have f4 : Fr (fun g a _ => (g = 12 ∨ g = 13) ∧ a = s) σ s' := f3.tr (h2.mo fun g a j h => ⟨Or.inr h.1, h.2⟩)
    have d1 : s' 12 s 1 = srI k := (h2 12 s 1 (by omega)).trans c1
    have d2 : s' 12 s 2 = nI m := (h2 12 s 2 (by omega)).trans c2
    refine wp_some ⟨⟨hX.1.cg (fun i hi => shS_o (by omega) (by omega)) (fun j => f4 0 0 j (by omega)) (f4 6 0 4 (by omega)), hX.2.1.cg (fun i => shS_o (by omega) (by omega)) (fun j => f4 23 0 j (by omega)), hX.2.2.1.cg (shS_o (by omega) (by omega)) (fun g c h1 h2 => shS_o (by omega) (by omega)) (fun c j _ => f4 1 c j (by omega)), hX.2.2.2.1.cg (shS_o (by omega) (by omega)) (fun i => shS_o (by omega) (by omega)) (fun j => f4 7 0 j (by omega)), fun t ht => ?_, hX.2.2.2.2.2.1.cg (fun i hi => shS_o (by omega) (by omega)) (fun g c hg => shS_o (by omega) (by omega)) (fun _ c _ => shS_o (by omega) (by omega)) (fun j => f4 20 0 j (by omega)) (fun j => f4 21 0 j (by omega)) (fun c j => f4 1 (9 + c) j (by omega)), hX.2.2.2.2.2.2.cg (shS_o (by omega) (by omega)) (fun i j => f4 3 i j (by omega)) (fun i j => f4 4 i j (by omega))⟩, f4⟩
    by_cases e : t = s
    · subst e
      rw [shS_7, shS_8]
      refine ⟨d1, fun _ => ⟨d2, fun j hj => ?_⟩⟩
      rw [h1 j (by omega)]
      show 0 = shI I t t j
      unfold shI
      rw [if_pos rfl]
    · rw [shS_o (by omega) (by omega), shS_o (by omega) (by omega), f4 12 t 1 (by omega), f4 12 t 2 (by omega)]
      refine ⟨(hX.2.2.2.2.1 t ht).1, fun q => ⟨((hX.2.2.2.2.1 t ht).2 q).1, fun j hj => ?_⟩⟩
      rw [f4 13 t j (by omega)]
      show _ = shI I s t j
      unfold shI
      rw [if_neg e]
      exact ((hX.2.2.2.2.1 t ht).2 q).2 j hj
theorem SV.sheet (h : SV S) {s k m : Nat} (hk : k ≤ 3) (hm : m ≤ 40) : SV (shS S s k m) := by
  refine ⟨h.1.cg (fun i hi => shS_o (by omega) (by omega)), h.2.1.cg (fun i => shS_o (by omega) (by omega)), h.2.2.1.cg (shS_o (by omega) (by omega)) (fun g c h1 h2 => shS_o (by omega) (by omega)), h.2.2.2.1.cg (shS_o (by omega) (by omega)) (fun i => shS_o (by omega) (by omega)), fun t ht => ?_, h.2.2.2.2.2.cg (fun i => shS_o (by omega) (by omega)) (fun g c hg => shS_o (by omega) (by omega)) (fun _ c _ => shS_o (by omega) (by omega))⟩
  by_cases e : t = s
  · subst e
    rw [shS_7, shS_8]
    exact ⟨hk, hm⟩
  · rw [shS_o (by omega) (by omega), shS_o (by omega) (by omega)]
    exact h.2.2.2.2.1 t ht
/-- the cells of a sheet that begins anew, in the reference -/
theorem RM.sheet (hM : RM S I P τ) (hV : SV S) {s k m : Nat} (hs : s < 4) (hm : m ≤ 40) {τ' : Sg} (f : Fr (fun g _ j => ((g = 47 ∨ g = 48 ∨ g = 49) ∧ j = s) ∨ (g = 50 ∧ 40 * s ≤ j ∧ j < 40 * s + 40)) τ τ') (h1 : τ' 47 0 s = (if k = 0 then 0 else 1)) (h2 : k ≠ 0 → τ' 48 0 s = nI (k - 1) ∧ τ' 49 0 s = nI m ∧ ∀ j, j < m → τ' 50 0 (40 * s + j) = 0) : RM (shS S s k m) (shI I s) P τ' := by
  refine ⟨hM.1.cg (fun i hi => shS_o (by omega) (by omega)) (fun j hj => f 30 0 j (by omega)), hM.2.1.cg (fun i => shS_o (by omega) (by omega)) (fun j => f 34 0 j (by omega)), hM.2.2.1.cg (shS_o (by omega) (by omega)) (fun g c h1 h2 => shS_o (by omega) (by omega)) (fun j => f 35 0 j (by omega)) (fun j => f 36 0 j (by omega)), hM.2.2.2.1.cg (shS_o (by omega) (by omega)) (fun i => shS_o (by omega) (by omega)) (fun j => f 33 0 j (by omega)), fun t ht => ?_, hM.2.2.2.2.2.1.cg (fun i hi => shS_o (by omega) (by omega)) (fun g c hg => shS_o (by omega) (by omega)) (fun j hj => f 30 0 j (by omega)) (fun j => f 45 0 j (by omega)) (fun j => f 46 0 j (by omega)), hM.2.2.2.2.2.2.cg (shS_o (by omega) (by omega)) (fun j => f 31 0 j (by omega)) (fun j => f 32 0 j (by omega))⟩
  by_cases e : t = s
  · subst e
    rw [shS_7, shS_8]
    refine ⟨h1, fun q => ⟨(h2 q).1, (h2 q).2.1, fun j hj => ?_⟩⟩
    rw [(h2 q).2.2 j hj]
    show 0 = shI I t t j
    unfold shI
    rw [if_pos rfl]
  · rw [shS_o (by omega) (by omega), shS_o (by omega) (by omega), f 47 0 t (by omega), f 48 0 t (by omega), f 49 0 t (by omega)]
    obtain ⟨g1, g2⟩ := hM.2.2.2.2.1 t ht
    refine ⟨g1, fun q => ⟨(g2 q).1, (g2 q).2.1, fun j hj => ?_⟩⟩
    have hj40 := (hV.2.2.2.2.1 t ht).2
    rw [f 50 0 _ (by omega), (g2 q).2.2 j hj]
    show _ = shI I s t j
    unfold shI
    rw [if_neg e]
theorem m_sheet_L {s k m : Nat} (hs : s < 4) (hk : k < 2147483648) (hm : m ≤ 40) (τ : Sg) : wp (M_sheet_L77 FU (nI s) (nI k) (nI m) 0 τ) (fun r => r.1 = 1 ∧ (∀ j, j < m → r.2 50 0 (40 * s + j) = 0) ∧ Fr (fun g _ j => g = 50 ∧ 40 * s ≤ j ∧ j < 40 * s + 40) τ r.2) := by
  · refine loopW (fun n (s' : Sg) i => M_sheet_L77 n (nI s) (nI k) (nI m) (nI i) s') (fun i s' => (∀ j, j < i → s' 50 0 (40 * s + j) = 0) ∧ Fr (fun g _ j => g = 50 ∧ 40 * s ≤ j ∧ j < 40 * s + 40) τ s') m _ ?_ ?_ 0 τ FU (Nat.zero_le _) ⟨fun j h => absurd h (Nat.not_lt_zero _), Fr.rf⟩ (FU_big (by omega))
    · rintro n i s' hi ⟨h1, h2⟩ k'
      show wp (M_sheet_L77 (n + 1) (nI s) (nI k) (nI m) (nI i) s') _
      rw [M_sheet_L77, if_pos (nI_lt hi (by omega)), if_neg (nI_pos hk), show (40 : Int32) * nI s + nI i = nI (40 * s + i) by rw [show (40 : Int32) = nI 40 from rfl, na_mul, na_add], if_neg (nI_pos (by omega)), na_cl (by omega), if_neg (by omega), show nI i + 1 = nI (i + 1) from (nI_succ i).symm]
      refine k' _ ⟨fun j hj => ?_, h2.up ⟨rfl, by omega, by omega⟩⟩
      by_cases e : j = i
      · subst e; rw [u3s]
      · rw [u3n _ _ _ _ _ (by omega)]; exact h1 j (by omega)
    · rintro n s' ⟨h1, h2⟩
      show wp (M_sheet_L77 (n + 1) (nI s) (nI k) (nI m) (nI m) s') _
      rw [M_sheet_L77, if_neg (nI_nlt (Nat.le_refl _) (by omega))]
      exact wp_some ⟨rfl, h1, h2⟩
theorem m_sheetOn (hM : RM S I P τ) (hV : SV S) {s k m : Nat} (hs : s < 4) (hk : k < 3) (hm : m ≤ 40) : wp (M_sheet (nI s) (nI k) (nI m) τ) (fun r => r.1 = 1 ∧ RM (shS S s (k + 1) m) (shI I s) P r.2 ∧ Fr (fun g _ j => ((g = 47 ∨ g = 48 ∨ g = 49) ∧ j = s) ∨ (g = 50 ∧ 40 * s ≤ j ∧ j < 40 * s + 40)) τ r.2) := by
  have ms : M_isSheet (nI s) τ = some (1, τ) := by
    unfold M_isSheet
    rw [M_in_l (nI s) 3 (by omega), irB_n (by omega) (by omega), decide_eq_true (show s < 3 + 1 by omega)]
    simp only [Option.bind_some, b2_and]
    rfl
  have mi : M_in (nI k).toInt64 (-1) 2 τ = some (1, τ) := by
    rw [show (-1 : Int64) = (-1 : Int32).toInt64 from rfl, show (2 : Int64) = (2 : Int32).toInt64 from rfl, s_M_in, if_neg (show ¬ nI k < -1 from fun q => nI_pos (n := k) (by omega) (by
      rw [Int32.lt_iff_toInt_lt] at q ⊢
      have h1 : (-1 : Int32).toInt = -1 := rfl
      have h2 : (0 : Int32).toInt = 0 := rfl
      omega)), if_neg (show ¬ 2 < nI k from nI_nlt (a := 2) (by omega) (by decide))]
  unfold M_sheet
  rw [ms]
  simp only [Option.bind_some]
  rw [if_neg (show ¬ (1 : Int32) = 0 by decide), mi]
  simp only [Option.bind_some]
  rw [if_neg (show ¬ (1 : Int32) = 0 by decide), if_neg (nI_pos (by omega)), if_neg (show ¬ 40 < nI m from nI_nlt (a := 40) hm (by decide))]
  unfold M_sheet_J34
  rw [if_neg (nI_pos (by omega)), if_neg (nI_pos (by omega))]
  unfold M_sheet_J45
  rw [if_neg (nI_pos (by omega))]
  unfold M_sheet_J59
  rw [if_neg (nI_pos (by omega)), na_cl (by omega), if_neg (by omega), if_neg (nI_pos (by omega)), if_neg (by omega), if_neg (nI_pos (by omega)), if_neg (by omega), show (1 : Int32) &&& 1 = 1 from rfl]
  simp only []
  have f0 : Fr (fun g _ j => ((g = 47 ∨ g = 48 ∨ g = 49) ∧ j = s) ∨ (g = 50 ∧ 40 * s ≤ j ∧ j < 40 * s + 40)) τ (upd3 (upd3 (upd3 τ 47 0 s 1) 48 0 s (nI k)) 49 0 s (nI m)) := ((Fr.rf.up (Or.inl ⟨Or.inl rfl, rfl⟩)).up (Or.inl ⟨Or.inr (Or.inl rfl), rfl⟩)).up (Or.inl ⟨Or.inr (Or.inr rfl), rfl⟩)
  have c47 : upd3 (upd3 (upd3 τ 47 0 s 1) 48 0 s (nI k)) 49 0 s (nI m) 47 0 s = 1 := by rw [u3n _ _ _ _ _ (by omega), u3n _ _ _ _ _ (by omega), u3s]
  have c48 : upd3 (upd3 (upd3 τ 47 0 s 1) 48 0 s (nI k)) 49 0 s (nI m) 48 0 s = nI k := by rw [u3n _ _ _ _ _ (by omega), u3s]
  have c49 : upd3 (upd3 (upd3 τ 47 0 s 1) 48 0 s (nI k)) 49 0 s (nI m) 49 0 s = nI m := u3s _ _ _ _ _
  revert f0 c47 c48 c49
  generalize upd3 (upd3 (upd3 τ 47 0 s 1) 48 0 s (nI k)) 49 0 s (nI m) = τ4
  intro f0 c47 c48 c49
  refine wp_mono (m_sheet_L (k := k) hs (by omega) hm τ4) ?_
  rintro ⟨r, τ5⟩ ⟨k1, k2, k3⟩
  have k3 : Fr (fun g _ j => g = 50 ∧ 40 * s ≤ j ∧ j < 40 * s + 40) τ4 τ5 := k3
  have f5 : Fr (fun g _ j => ((g = 47 ∨ g = 48 ∨ g = 49) ∧ j = s) ∨ (g = 50 ∧ 40 * s ≤ j ∧ j < 40 * s + 40)) τ τ5 := f0.tr (k3.mo fun g a j h => Or.inr h)
  refine ⟨k1, hM.sheet hV hs hm f5 ?_ (fun _ => ⟨?_, ?_, k2⟩), f5⟩
  · rw [if_neg (by omega)]
    exact (k3 47 0 s (by omega)).trans c47
  · exact (k3 48 0 s (by omega)).trans c48
  · exact (k3 49 0 s (by omega)).trans c49
theorem m_sheetOff (hM : RM S I P τ) (hV : SV S) {s : Nat} (hs : s < 4) (n : Int32) : wp (M_sheet (nI s) (-1) n τ) (fun r => r.1 = 1 ∧ RM (shS S s 0 0) (shI I s) P r.2) := by
  obtain ⟨m0, hm0⟩ : ∃ m, FU = m + 1 := ⟨999, FU_eq⟩
  have ms : M_isSheet (nI s) τ = some (1, τ) := by
    unfold M_isSheet
    rw [M_in_l (nI s) 3 (by omega), irB_n (by omega) (by omega), decide_eq_true (show s < 3 + 1 by omega)]
    simp only [Option.bind_some, b2_and]
    rfl
  have mi : M_in (-1 : Int32).toInt64 (-1) 2 τ = some (1, τ) := by
    rw [show (-1 : Int64) = (-1 : Int32).toInt64 from rfl, show (2 : Int64) = (2 : Int32).toInt64 from rfl, s_M_in]
    rfl
  unfold M_sheet
  rw [ms]
  simp only [Option.bind_some]
  rw [if_neg (show ¬ (1 : Int32) = 0 by decide), mi]
  simp only [Option.bind_some]
  rw [if_neg (show ¬ (1 : Int32) = 0 by decide), if_pos (by decide)]
  unfold M_sheet_J34
  rw [if_pos (by decide)]
  unfold M_sheet_J45
  rw [if_pos (by decide)]
  unfold M_sheet_J59
  rw [if_neg (nI_pos (by omega)), na_cl (by omega), if_neg (by omega), if_neg (nI_pos (by omega)), if_neg (by omega), if_neg (nI_pos (by omega)), if_neg (by omega), show (0 : Int32) &&& 1 = 0 from rfl, hm0]
  simp only []
  have f0 : Fr (fun g _ j => ((g = 47 ∨ g = 48 ∨ g = 49) ∧ j = s) ∨ (g = 50 ∧ 40 * s ≤ j ∧ j < 40 * s + 40)) τ (upd3 (upd3 (upd3 τ 47 0 s 0) 48 0 s (-1)) 49 0 s n) := ((Fr.rf.up (Or.inl ⟨Or.inl rfl, rfl⟩)).up (Or.inl ⟨Or.inr (Or.inl rfl), rfl⟩)).up (Or.inl ⟨Or.inr (Or.inr rfl), rfl⟩)
  have c47 : upd3 (upd3 (upd3 τ 47 0 s 0) 48 0 s (-1)) 49 0 s n 47 0 s = 0 := by rw [u3n _ _ _ _ _ (by omega), u3n _ _ _ _ _ (by omega), u3s]
  have res := hM.sheet hV (k := 0) (m := 0) hs (by omega) f0 (by rw [if_pos rfl]; exact c47) (fun q => absurd rfl q)
  rw [M_sheet_L77]
  by_cases c : 0 < n
  · rw [if_pos c, if_pos (by decide)]
    exact wp_some ⟨rfl, res⟩
  · rw [if_neg c]
    exact wp_some ⟨rfl, res⟩
theorem clampN {m : Nat} (hm : m ≤ 40) : (if (0 : Int32) < (if nI m < (40 : Int32) then nI m else (40 : Int32)) then (if nI m < (40 : Int32) then nI m else (40 : Int32)) else (0 : Int32)) = nI m := by
  by_cases c : m < 40
  · rw [if_pos (show nI m < 40 from nI_lt (b := 40) c (by decide))]
    by_cases d : 0 < m
    · rw [if_pos (show 0 < nI m from nI_lt (a := 0) d (by omega))]
    · have : m = 0 := by omega
      subst this; rfl
  · have : m = 40 := by omega
    subst this; rfl
/-- a sort as told: -1 .. 2 -/
def soB (p : Int32) : Bool := decide (¬ p < -1 ∧ ¬ 2 < p)
theorem soB_t {p : Int32} (h : soB p = true) : p = -1 ∨ ∃ k, k < 3 ∧ p = nI k := by
  unfold soB at h
  simp only [decide_eq_true_eq] at h
  rcases na_or p with q | ⟨k, hk, rfl⟩
  · left
    obtain ⟨h1, h2⟩ := h
    rw [Int32.lt_iff_toInt_lt] at h1 q
    have e1 : (-1 : Int32).toInt = -1 := rfl
    have e2 : (0 : Int32).toInt = 0 := rfl
    apply Int32.toInt_inj.mp
    omega
  · right
    exact ⟨k, Nat.lt_of_not_le fun q => h.2 (nI_lt (a := 2) (by omega) hk), rfl⟩
theorem q_sheet (hR : Rel σ τ) (p1 p2 p3 : Int32) : CP (X_sheet p1 p2 p3 σ) (M_sheet p1 p2 p3 τ) := by
  obtain ⟨S, I, P, hX, hM, hV⟩ := id hR
  have ms : M_isSheet p1 τ = some (b2 (irB p1 4), τ) := by
    unfold M_isSheet
    rw [M_in_l p1 3 (by omega)]
    simp only [Option.bind_some, b2_and]
  have mi : M_in p2.toInt64 (-1) 2 τ = some (b2 (soB p2), τ) := by
    rw [show (-1 : Int64) = (-1 : Int32).toInt64 from rfl, show (2 : Int64) = (2 : Int32).toInt64 from rfl, s_M_in]
    unfold soB
    by_cases a : p2 < -1
    · simp [a, b2]
    · by_cases c : 2 < p2
      · simp [a, c, b2]
      · simp [a, c, b2]
  have xb : irB p1 4 = false ∨ soB p2 = false → X_sheet p1 p2 p3 σ = some (-2, σ) := by
    intro h
    unfold X_sheet
    rw [s_X_isSheet]
    simp only [Option.bind_some, b2_0]
    cases h1 : irB p1 4 with
    | false => rfl
    | true =>
      rw [if_neg (by decide)]
      have h2 := h.resolve_left (by rw [h1]; decide)
      unfold soB at h2
      by_cases a : p2 < -1
      · rw [if_pos a]
      · rw [if_neg a]
        by_cases c : 2 < p2
        · rw [if_pos c]
        · simp [a, c] at h2
  have mb : irB p1 4 = false ∨ soB p2 = false → M_sheet p1 p2 p3 τ = some (-2, τ) := by
    intro h
    unfold M_sheet
    rw [ms]
    simp only [Option.bind_some, b2_0]
    cases h1 : irB p1 4 with
    | false => rfl
    | true =>
      rw [if_neg (by decide), mi, h.resolve_left (by rw [h1]; decide)]
      rfl
  cases h1 : irB p1 4 with
  | false => exact CP_eq (xb (Or.inl h1)) (mb (Or.inl h1)) (CP_same hR _)
  | true =>
    cases h2 : soB p2 with
    | false => exact CP_eq (xb (Or.inr h2)) (mb (Or.inr h2)) (CP_same hR _)
    | true =>
      obtain ⟨s, hs, rfl⟩ := irB_t (by omega) h1
      have xs : X_sheet (nI s) p2 p3 σ = if p2 = -1 then (if nI s < 0 then none else if 4 ≤ (nI s).toNatClampNeg then none else (Sheet_become (nI s).toNatClampNeg (-1) 0 σ).bind fun σ3 => some (1, σ3)) else if 40 < p3 then some (-2, σ) else if p3 < 0 then some (-14, σ) else if nI s < 0 then none else if 4 ≤ (nI s).toNatClampNeg then none else (Sheet_become (nI s).toNatClampNeg p2 p3 σ).bind fun σ2 => some (1, σ2) := by
        unfold X_sheet
        rw [s_X_isSheet, h1]
        simp only [Option.bind_some]
        unfold soB at h2
        simp only [decide_eq_true_eq] at h2
        rw [if_neg (show ¬ b2 true = 0 by decide), if_neg h2.1, if_neg h2.2]
      rcases soB_t h2 with e | ⟨k, hk, rfl⟩
      · subst e
        refine CP_mk (r := 1) (S := shS S s 0 0) (I := shI I s) (P := P) ?_ (m_sheetOff hM hV hs p3) (hV.sheet (by omega) (by omega))
        rw [xs, if_pos rfl, if_neg (nI_pos (by omega)), na_cl (by omega), if_neg (by omega)]
        refine wp_bind (x_become (k := 0) (m := 0) hX hs rfl (by omega)) ?_
        rintro σ' ⟨k1, k2⟩
        exact wp_some ⟨rfl, k1⟩
      · rw [if_neg (nI_n1 (by omega))] at xs
        have mm : irB p3 41 = false → M_sheet (nI s) (nI k) p3 τ = some (if p3 < 0 then -14 else -2, τ) := by
          intro h3
          unfold M_sheet
          rw [ms, h1]
          simp only [Option.bind_some]
          rw [if_neg (show ¬ b2 true = 0 by decide), mi, h2]
          simp only [Option.bind_some]
          rw [if_neg (show ¬ b2 true = 0 by decide), if_neg (nI_pos (by omega))]
          rcases irB_f (by omega) h3 with q | ⟨j, hj, hj7, rfl⟩
          · have : ¬ 40 < p3 := fun c => na_neg_nlt q (n := 40) (by omega) c
            rw [if_neg this]
            unfold M_sheet_J34
            rw [if_neg (nI_pos (by omega)), if_pos q, if_pos q]
          · rw [if_pos (show 40 < nI j from nI_lt (a := 40) (by omega) hj), if_neg (nI_pos hj)]
        cases h3 : irB p3 41 with
        | false =>
          refine CP_eq (o1' := some (if p3 < 0 then -14 else -2, σ)) (o2' := some (if p3 < 0 then -14 else -2, τ)) ?_ (mm h3) (CP_same hR _)
          rw [xs]
          rcases irB_f (by omega) h3 with q | ⟨j, hj, hj7, rfl⟩
          · have : ¬ 40 < p3 := fun c => na_neg_nlt q (n := 40) (by omega) c
            rw [if_neg this, if_pos q, if_pos q]
          · rw [if_pos (show 40 < nI j from nI_lt (a := 40) (by omega) hj), if_neg (nI_pos hj)]
        | true =>
          obtain ⟨m, hm, rfl⟩ := irB_t (by omega) h3
          refine CP_mk (r := 1) (S := shS S s (k + 1) m) (I := shI I s) (P := P) ?_ (wp_mono (m_sheetOn hM hV hs hk (by omega)) fun q h => ⟨h.1, h.2.1⟩) (hV.sheet (by omega) (by omega))
          rw [xs, if_neg (show ¬ 40 < nI m from nI_nlt (a := 40) (by omega) (by decide)), if_neg (nI_pos (by omega)), if_neg (nI_pos (by omega)), na_cl (by omega), if_neg (by omega)]
          refine wp_bind (x_become (k := k + 1) (m := m) hX hs (clampN (by omega)) (by omega)) ?_
          rintro σ' ⟨k1, k2⟩
          exact wp_some ⟨rfl, k1⟩
end
