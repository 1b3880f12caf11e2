/-! the calls: dress, pushes, drawn, chance -/
/-- what telling an hour writes in the class -/
def SH (h n : Nat) : Nat → Nat → Nat → Prop := fun g _ j => EX g 0 j ∨ (g = 14 ∧ j = 4) ∨ ((g = 15 ∨ g = 16) ∧ 9 * h ≤ j ∧ j ≤ 9 * h + n)
theorem EX.sh {h n g a j : Nat} (q : EX g a j) : SH h n g a j := Or.inl q
theorem SH.nx {h n g a j : Nat} (q : SH h n g a j) : NX g a j := by unfold SH EX at q; unfold NX; omega
section
variable {S : Nat → Nat → Nat} {I : Nat → Nat → Int32} {P : Nat → Txt} {σ τ : Sg}
theorem s_Day_tell {h k : Nat} (hh : h < 24) (hk : k < 9) (x y : Int32) (σ : Sg) : Day_tell (nI h) (nI k) x y σ = some (upd3 (upd3 σ 15 0 (9 * h + k) x) 16 0 (9 * h + k) y) := by
  unfold Day_tell
  rw [s_X_isHour', irB_n (by omega) (by omega), decide_eq_true hh]
  simp only [Option.bind_some]
  rw [if_neg (show ¬ b2 true = 0 by decide), if_neg (nI_pos (by omega)), if_pos (show nI k < 9 from nI_lt (b := 9) hk (by decide)), ix9, if_neg (nI_pos (by omega)), na_cl (by omega), if_neg (by omega), if_neg (nI_pos (by omega)), if_neg (by omega)]
theorem x_tellHour (hX : RX S I P σ) (hV : SV S) (hP : ∀ i, i < S 5 2 → TP (P i)) {h : Nat} (hh : h < 24) (md : Nat → Nat) (hm : md h < 1000) : wp (X_tellHour (nI h) (nI (md h)) σ) (fun σ' => σ' 14 0 4 = nI (S 5 0 + 1) ∧ (∀ k, k ≤ S 5 0 → σ' 15 0 (9 * h + k) = nI (cfN S P md h k) ∧ σ' 16 0 (9 * h + k) = nI (ccN S P md h k)) ∧ Fr (SH h (S 5 0)) σ σ') := by
  obtain ⟨v1, v2, v3, v4⟩ := hV.1
  unfold X_tellHour
  rw [show Day_tell (nI h) 0 99 0 σ = _ from s_Day_tell hh (k := 0) (by omega) 99 0 σ]
  simp only [Option.bind_some]
  have f0 : Fr (SH h (S 5 0)) σ (upd3 (upd3 σ 15 0 (9 * h + 0) 99) 16 0 (9 * h + 0) 0) := (Fr.rf.up (by unfold SH EX; omega)).up (by unfold SH EX; omega)
  have c0 : upd3 (upd3 σ 15 0 (9 * h + 0) 99) 16 0 (9 * h + 0) 0 15 0 (9 * h + 0) = nI (cfN S P md h 0) ∧ upd3 (upd3 σ 15 0 (9 * h + 0) 99) 16 0 (9 * h + 0) 0 16 0 (9 * h + 0) = nI (ccN S P md h 0) := ⟨by rw [u3n _ _ _ _ _ (by omega), u3s]; rfl, by rw [u3s]; rfl⟩
  revert f0 c0
  generalize upd3 (upd3 σ 15 0 (9 * h + 0) 99) 16 0 (9 * h + 0) 0 = σ8
  intro f0 c0
  refine loopW (fun N (z : Sg) i => X_tellHour_L14 N (nI h) (nI (md h)) (nI i) z) (fun i z => Fr (SH h (S 5 0)) σ z ∧ ∀ k, k ≤ i → z 15 0 (9 * h + k) = nI (cfN S P md h k) ∧ z 16 0 (9 * h + k) = nI (ccN S P md h k)) (S 5 0) _ ?_ ?_ 0 σ8 FU (Nat.zero_le _) ⟨f0, fun k hk => (show k = 0 by omega) ▸ c0⟩ (FU_big (by omega))
  · rintro N i z hi ⟨f1, t1⟩ kk
    have hXz := hX.fr hV (f1.mo fun g a j q => q.nx)
    show wp (X_tellHour_L14 (N + 1) (nI h) (nI (md h)) (nI i) z) _
    rw [X_tellHour_L14, hXz.1.1, if_pos (nI_lt hi (by omega)), hXz.1.2.1, if_neg (nI_pos (by omega)), na_cl (by omega), if_neg (by omega), if_neg (nI_pos (by omega)), na_cl (by omega), if_neg (by omega)]
    obtain ⟨z2, e2, f2⟩ := x_fits (m := md h) hXz hV hP hi hm h
    have hX2 := hXz.fr hV (f2.mo fun g a j q => q.nx)
    rw [e2]
    simp only [Option.bind_some, b2_0]
    have fin : ∀ z3 (w : Nat), Fr EX z z3 → RX S I P z3 → w = cfN S P md h (i + 1) → wp ((X_costAt (nI i) (nI (md h)) (nI h) z3).bind fun q4 => (Day_tell (nI h) (nI i + 1) (nI w) q4.1 q4.2).bind fun σ5 => X_tellHour_L14 N (nI h) (nI (md h)) (nI i + 1) σ5) (fun σ' => σ' 14 0 4 = nI (S 5 0 + 1) ∧ (∀ k, k ≤ S 5 0 → σ' 15 0 (9 * h + k) = nI (cfN S P md h k) ∧ σ' 16 0 (9 * h + k) = nI (ccN S P md h k)) ∧ Fr (SH h (S 5 0)) σ σ') := by
      intro z3 w f3 hX3 hw
      obtain ⟨z4, e4, f4⟩ := x_cost (m := md h) hX3 hV hP hi hm h
      rw [e4]
      simp only [Option.bind_some]
      rw [show nI i + 1 = nI (i + 1) from (nI_succ i).symm, s_Day_tell hh (by omega)]
      simp only [Option.bind_some]
      have f5 := f1.tr ((f3.tr f4).mo fun g a j q => EX.sh (h := h) (n := S 5 0) q)
      refine kk _ ⟨(f5.up (by unfold SH EX; omega)).up (by unfold SH EX; omega), fun k hk => ?_⟩
      by_cases e : k = i + 1
      · subst e
        refine ⟨by rw [u3n _ _ _ _ _ (by omega), u3s, hw], by rw [u3s]; unfold ccN; rw [if_neg (by omega), Nat.add_sub_cancel]⟩
      · have ne : 9 * h + k ≠ 9 * h + (i + 1) := by omega
        have fz := (f3.tr f4)
        rw [u3n _ _ _ _ _ (by omega), u3n _ _ _ _ _ (by omega), u3n _ _ _ _ _ (by omega), u3n _ _ _ _ _ (by omega), fz 15 0 _ (by unfold EX; omega), fz 16 0 _ (by unfold EX; omega)]
        exact t1 k (by omega)
    have cfi : cfN S P md h (i + 1) = if fitS S P i (md h) h = true then 0 else fineS S P i (md h) h := by unfold cfN; rw [if_neg (by omega), Nat.add_sub_cancel]
    by_cases q : fitS S P i (md h) h = false
    · rw [if_pos q]
      obtain ⟨z3, e3, f3⟩ := x_fine (m := md h) hX2 hV hP hi hm h
      rw [e3]
      simp only [Option.bind_some]
      exact fin z3 _ (f2.tr f3) (hX2.fr hV (f3.mo fun g a j q => q.nx)) (by rw [cfi, if_neg (by rw [q]; decide)])
    · rw [if_neg q]
      exact fin z2 0 f2 hX2 (by rw [cfi, if_pos (by simpa using q)])
  · rintro N z ⟨f1, t1⟩
    have hXz := hX.fr hV (f1.mo fun g a j q => q.nx)
    show wp (X_tellHour_L14 (N + 1) (nI h) (nI (md h)) (nI (S 5 0)) z) _
    rw [X_tellHour_L14, hXz.1.1, if_neg (nI_nlt (Nat.le_refl _) (by omega)), show nI (S 5 0) + 1 = nI (S 5 0 + 1) from (nI_succ _).symm]
    refine wp_some ⟨u3s _ _ _ _ _, fun k hk => ?_, f1.up (by unfold SH EX; omega)⟩
    rw [u3n _ _ _ _ _ (by omega), u3n _ _ _ _ _ (by omega)]
    exact t1 k hk
/-- hours below h are told -/
def Th (f g : Nat → Nat → Nat) (n h : Nat) (σ : Sg) : Prop := (0 < h → σ 14 0 4 = nI (n + 1)) ∧ ∀ h' k, h' < h → k ≤ n → σ 15 0 (9 * h' + k) = nI (f h' k) ∧ σ 16 0 (9 * h' + k) = nI (g h' k)
theorem Th.tb {f g : Nat → Nat → Nat} {n : Nat} (h : Th f g n 24 σ) : Tb f g n σ := ⟨h.1 (by omega), fun a k ha hk => h.2 a k ha hk⟩
/-- one more hour is told -/
theorem Th.st {f g : Nat → Nat → Nat} {n h : Nat} {σ' : Sg} (t : Th f g n h σ) (hn : n ≤ 8) (e : σ' 14 0 4 = nI (n + 1)) (c : ∀ k, k ≤ n → σ' 15 0 (9 * h + k) = nI (f h k) ∧ σ' 16 0 (9 * h + k) = nI (g h k)) (fr : Fr (SH h n) σ σ') : Th f g n (h + 1) σ' := ⟨fun _ => e, fun h' k q1 q2 => by
  by_cases q : h' = h
  · subst q; exact c k q2
  · rw [fr 15 0 _ (by unfold SH EX; omega), fr 16 0 _ (by unfold SH EX; omega)]
    exact t.2 h' k (by omega) q2⟩
theorem x_tellDay (hX : RX S I P σ) (hV : SV S) (hP : ∀ i, i < S 5 2 → TP (P i)) {p : Nat} (hp : p < 3) : wp (X_tellDay (nI p) σ) (fun σ' => RX S I P σ' ∧ Tb (cfN S P (mdS S p)) (ccN S P (mdS S p)) (S 5 0) σ') := by
  unfold X_tellDay
  refine loopW (fun N (z : Sg) h => X_tellDay_L2 N (nI p) (nI h) z) (fun h z => RX S I P z ∧ Th (cfN S P (mdS S p)) (ccN S P (mdS S p)) (S 5 0) h z) 24 _ ?_ ?_ 0 σ FU (Nat.zero_le _) ⟨hX, fun h => absurd h (by omega), fun h' k q => absurd q (by omega)⟩ (FU_big (by omega))
  · rintro N h z hh ⟨z1, z2⟩ kk
    show wp (X_tellDay_L2 (N + 1) (nI p) (nI h) z) _
    rw [X_tellDay_L2, if_pos (show nI h < 24 from nI_lt (b := 24) hh (by decide)), x_mood z1 hp hh]
    simp only [Option.bind_some]
    rw [show nI h + 1 = nI (h + 1) from (nI_succ h).symm]
    refine wp_bind (x_tellHour z1 hV hP hh (mdS S p) (by have := mdS_lt hV hp hh; omega)) ?_
    rintro z' ⟨y1, y2, y3⟩
    exact kk z' ⟨z1.fr hV (y3.mo fun g a j q => q.nx), z2.st hV.1.1 y1 y2 y3⟩
  · rintro N z ⟨z1, z2⟩
    show wp (X_tellDay_L2 (N + 1) (nI p) (nI 24) z) _
    rw [X_tellDay_L2, if_neg (by decide)]
    exact wp_some ⟨z1, z2.tb⟩
theorem SD.nx {g a j : Nat} (q : SD g a j) : NX g a j := by unfold SD at q; unfold NX; omega
theorem x_cheapCost (hX : RX S I P σ) (hV : SV S) (hP : ∀ i, i < S 5 2 → TP (P i)) {p : Nat} (hp : p < 3) : wp (X_cheapCost (nI p) σ) (fun r => r.1 = nI (LH (cfN S P (mdS S p)) (ccN S P (mdS S p)) (S 5 0) 0 0) ∧ RX S I P r.2 ∧ Tb (cfN S P (mdS S p)) (ccN S P (mdS S p)) (S 5 0) r.2 ∧ Dn (cfN S P (mdS S p)) (ccN S P (mdS S p)) (S 5 0) 0 r.2) := by
  unfold X_cheapCost
  refine wp_bind (x_tellDay hX hV hP hp) ?_
  rintro σ1 ⟨k1, k2⟩
  refine wp_bind (x_cheapest (cF hV _) hV.1.1 k2) ?_
  rintro ⟨r, σ2⟩ ⟨r1, r2, r3⟩
  exact wp_some ⟨r1, k1.fr hV (r3.mo fun g a j q => q.nx), k2.fr r3, r2⟩
theorem m_cheapEx (hM : RM S I P τ) (hV : SV S) {p : Nat} (hp : p < 3) : wp (M_cheapOf (nI p) τ) (fun r => r.1 = nI (LH (cfN S P (mdS S p)) (ccN S P (mdS S p)) (S 5 0) 0 0) ∧ RM S I P r.2 ∧ (∀ h, h < 24 → r.2 43 0 h = nI (cwN (cfN S P (mdS S p)) (ccN S P (mdS S p)) (S 5 0) (h + 1)) - 1) ∧ Fr SC τ r.2) :=
  wp_mono (m_cheapOf hM hV hp) fun _ h => ⟨h.1, hM.fr (h.2.2.mo fun g a j q => q.nm), h.2.1, h.2.2⟩
/-- what dress() leaves -/
def drI (I : Nat → Nat → Int32) (s n : Nat) (w : Nat → Int32) : Nat → Nat → Int32 := fun s' j => if s' = s ∧ j < n then w j else shI I s s' j
theorem drI_s {s n : Nat} {w : Nat → Int32} : drI I s (n + 1) w = upI (drI I s n w) s n (w n) := by
  funext s' j
  unfold upI drI
  by_cases e : s' = s ∧ j = n
  · obtain ⟨e1, e2⟩ := e
    subst e1; subst e2
    rw [if_pos ⟨rfl, by omega⟩, if_pos ⟨rfl, rfl⟩]
  · rw [if_neg e]
    by_cases d : s' = s ∧ j < n
    · rw [if_pos d, if_pos (by omega)]
    · rw [if_neg d, if_neg (by omega)]
theorem drI_0 {s : Nat} {w : Nat → Int32} : drI I s 0 w = shI I s := by
  funext s' j
  unfold drI
  rw [if_neg (by omega)]
theorem cv_w : ∀ c, c < 9 → cvI 1 (nI c - 1) = nI c - 1 := by decide
theorem q_dress (hR : Rel σ τ) (p1 p2 : Int32) : CP (X_dress p1 p2 σ) (M_dress p1 p2 τ) := by
  obtain ⟨S, I, P, hX, hM, hV⟩ := id hR
  obtain ⟨v1, v2, v3, v4⟩ := hV.1
  unfold X_dress M_dress
  rw [s_X_isSheet, s_M_isSheet]
  simp only [Option.bind_some, b2_0]
  cases h1 : irB p1 4 with
  | false => exact CP_same hR (-2)
  | true =>
    obtain ⟨s, hs, rfl⟩ := irB_t (by omega) h1
    rw [if_neg (show ¬ true = false by decide), if_neg (show ¬ true = false by decide), s_X_isOne', s_M_isOne']
    simp only [Option.bind_some, b2_0]
    cases h2 : irB p2 3 with
    | false => exact CP_same hR (-2)
    | true =>
      obtain ⟨p, hp, rfl⟩ := irB_t (by omega) h2
      rw [if_neg (show ¬ true = false by decide), if_neg (show ¬ true = false by decide)]
      have hV' : SV (shS S s 1 24) := hV.sheet (by omega) (by omega)
      have hF := cF (P := P) hV (mdS S p)
      refine CP_mk (r := nI (LH (cfN S P (mdS S p)) (ccN S P (mdS S p)) (S 5 0) 0 0)) (S := shS S s 1 24) (I := drI I s 24 (fun h => nI (cwN (cfN S P (mdS S p)) (ccN S P (mdS S p)) (S 5 0) (h + 1)) - 1)) (P := P) ?_ ?_ hV'
      · refine wp_bind (x_cheapCost hX hV hM.tp hp) ?_
        rintro ⟨r, σ5⟩ ⟨r1, r2, r3, r4⟩
        have r1 : r = nI (LH (cfN S P (mdS S p)) (ccN S P (mdS S p)) (S 5 0) 0 0) := r1
        subst r1
        rw [if_neg (nI_pos (by omega)), na_cl (by omega), if_neg (by omega)]
        refine wp_bind (x_become (k := 1) (m := 24) r2 hs (clampN (m := 24) (by omega)) (by omega)) ?_
        rintro σ6 ⟨k1, k2⟩
        have tb6 : Tb (cfN S P (mdS S p)) (ccN S P (mdS S p)) (S 5 0) σ6 := ⟨(k2 14 0 4 (by omega)).trans r3.1, fun h k hh hk => ⟨(k2 15 0 _ (by omega)).trans (r3.2 h k hh hk).1, (k2 16 0 _ (by omega)).trans (r3.2 h k hh hk).2⟩⟩
        have dn6 : Dn (cfN S P (mdS S p)) (ccN S P (mdS S p)) (S 5 0) 0 σ6 := fun h k q1 q2 q3 => ⟨(k2 17 0 _ (by omega)).trans (r4 h k q1 q2 q3).1, (k2 18 0 _ (by omega)).trans (r4 h k q1 q2 q3).2⟩
        refine loopW (fun N (z : Sg) h => X_dress_L38 N (nI s) (nI (LH (cfN S P (mdS S p)) (ccN S P (mdS S p)) (S 5 0) 0 0)) (nI h) z) (fun h z => RX (shS S s 1 24) (drI I s h (fun h => nI (cwN (cfN S P (mdS S p)) (ccN S P (mdS S p)) (S 5 0) (h + 1)) - 1)) P z ∧ Tb (cfN S P (mdS S p)) (ccN S P (mdS S p)) (S 5 0) z ∧ Dn (cfN S P (mdS S p)) (ccN S P (mdS S p)) (S 5 0) 0 z) 24 _ ?_ ?_ 0 σ6 FU (Nat.zero_le _) ⟨by rw [drI_0]; exact k1, tb6, dn6⟩ (FU_big (by omega))
        · rintro N h z hh ⟨z1, z2, z3⟩ kk
          show wp (X_dress_L38 (N + 1) (nI s) _ (nI h) z) _
          obtain ⟨g1, g2⟩ := z1.2.2.2.2.1 s hs
          rw [shS_7] at g1 g2
          have g3 := (g2 (by omega)).1
          rw [shS_8] at g3
          have cw := cwN_le (f := cfN S P (mdS S p)) (g := ccN S P (mdS S p)) (n := S 5 0) (h := h + 1)
          rw [X_dress_L38, if_pos (show nI h < 24 from nI_lt (b := 24) hh (by decide)), if_neg (nI_pos (by omega)), na_cl (by omega), if_neg (by omega), x_wornAt hF v1 hh z2 z3]
          simp only [Option.bind_some]
          rw [s_put g3 (by omega) hh (k := 1) g1 (by omega) (by omega), cv_w _ (by omega)]
          simp only [Option.bind_some]
          rw [show nI h + 1 = nI (h + 1) from (nI_succ h).symm]
          refine kk _ ⟨?_, ?_, ?_⟩
          · rw [drI_s]; exact z1.item
          · exact ⟨(u3n _ _ _ _ _ (by omega)).trans z2.1, fun h k hh hk => ⟨(u3n _ _ _ _ _ (by omega)).trans (z2.2 h k hh hk).1, (u3n _ _ _ _ _ (by omega)).trans (z2.2 h k hh hk).2⟩⟩
          · exact fun h k q1 q2 q3 => ⟨(u3n _ _ _ _ _ (by omega)).trans (z3 h k q1 q2 q3).1, (u3n _ _ _ _ _ (by omega)).trans (z3 h k q1 q2 q3).2⟩
        · rintro N z ⟨z1, z2, z3⟩
          show wp (X_dress_L38 (N + 1) (nI s) _ (nI 24) z) _
          rw [X_dress_L38, if_neg (by decide)]
          exact wp_some ⟨rfl, z1⟩
      · refine wp_bind (m_cheapEx hM hV hp) ?_
        rintro ⟨r, τ4⟩ ⟨r1, r2, r3, r4⟩
        have r1 : r = nI (LH (cfN S P (mdS S p)) (ccN S P (mdS S p)) (S 5 0) 0 0) := r1
        subst r1
        refine wp_bind (m_sheetOn (k := 0) (m := 24) r2 hV hs (by omega) (by omega)) ?_
        rintro ⟨r5, τ5⟩ ⟨_, k1, k2⟩
        have w5 : ∀ h, h < 24 → τ5 43 0 h = nI (cwN (cfN S P (mdS S p)) (ccN S P (mdS S p)) (S 5 0) (h + 1)) - 1 := fun h hh => (k2 43 0 h (by omega)).trans (r3 h hh)
        refine loopW (fun N (z : Sg) h => M_dress_L35 N (nI s) (nI (LH (cfN S P (mdS S p)) (ccN S P (mdS S p)) (S 5 0) 0 0)) (nI h) z) (fun h z => RM (shS S s 1 24) (drI I s h (fun h => nI (cwN (cfN S P (mdS S p)) (ccN S P (mdS S p)) (S 5 0) (h + 1)) - 1)) P z ∧ ∀ h, h < 24 → z 43 0 h = nI (cwN (cfN S P (mdS S p)) (ccN S P (mdS S p)) (S 5 0) (h + 1)) - 1) 24 _ ?_ ?_ 0 τ5 FU (Nat.zero_le _) ⟨by rw [drI_0]; exact k1, w5⟩ (FU_big (by omega))
        · rintro N h z hh ⟨z1, z2⟩ kk
          show wp (M_dress_L35 (N + 1) (nI s) _ (nI h) z) _
          rw [M_dress_L35, if_pos (show nI h < 24 from nI_lt (b := 24) hh (by decide)), if_neg (nI_pos (by omega)), na_cl (by omega), if_neg (by omega), show (40 : Int32) * nI s + nI h = nI (40 * s + h) by rw [show (40 : Int32) = nI 40 from rfl, na_mul, na_add], if_neg (nI_pos (by omega)), na_cl (by omega), if_neg (by omega), z2 h hh, show nI h + 1 = nI (h + 1) from (nI_succ h).symm]
          refine kk _ ⟨?_, fun h' hh' => ?_⟩
          · rw [drI_s]; exact z1.item hV' hs (by omega)
          · rw [u3n _ _ _ _ _ (by omega)]; exact z2 h' hh'
        · rintro N z ⟨z1, z2⟩
          show wp (M_dress_L35 (N + 1) (nI s) _ (nI 24) z) _
          rw [M_dress_L35, if_neg (by decide)]
          exact wp_some ⟨rfl, z1⟩
/-- the moods of one, hours below b, are others -/
def mvN (S : Nat → Nat → Nat) (p b : Nat) (md : Nat → Nat) : Nat → Nat → Nat := fun g k => if g = 0 ∧ 24 * p ≤ k ∧ k < 24 * p + b then md (k - 24 * p) else S g k
theorem mvN_0 {p : Nat} {md : Nat → Nat} : mvN S p 0 md = S := by
  funext g k
  unfold mvN
  rw [if_neg (by omega)]
theorem mvN_s {p b : Nat} {md : Nat → Nat} : mvN S p (b + 1) md = up2 (mvN S p b md) 0 (24 * p + b) (md b) := by
  funext g k
  unfold up2
  by_cases c : g = 0 ∧ k = 24 * p + b
  · obtain ⟨c1, c2⟩ := c
    subst c1; subst c2
    rw [if_pos ⟨rfl, rfl⟩]
    unfold mvN
    rw [if_pos (by omega), Nat.add_sub_cancel_left]
  · rw [if_neg c]
    unfold mvN
    by_cases d : g = 0 ∧ 24 * p ≤ k ∧ k < 24 * p + b
    · rw [if_pos d, if_pos (by omega)]
    · rw [if_neg d, if_neg (by omega)]
theorem mvN_V (hV : SV S) {p : Nat} {md : Nat → Nat} (hm : ∀ h, md h < 100) : ∀ b, SV (mvN S p b md) := by
  intro b
  induction b with
  | zero => rw [mvN_0]; exact hV
  | succ b ih => rw [mvN_s]; exact ih.mood (hm b)
theorem mvN_md {p h : Nat} {md : Nat → Nat} (hh : h < 24) : mdS (mvN S p 24 md) p h = md h := by
  unfold mdS mvN
  rw [if_pos (by omega), Nat.add_sub_cancel_left]
theorem LH_cong {f f' g g' : Nat → Nat → Nat} {n : Nat} (hf : ∀ h k, h < 24 → f h k = f' h k) (hg : ∀ h k, h < 24 → g h k = g' h k) : ∀ d h a, h + d = 24 → LH f g n h a = LH f' g' n h a := by
  intro d
  induction d with
  | zero => intro h a hd; have : h = 24 := by omega
            subst this; rfl
  | succ d ih =>
    intro h a hd
    rw [LH_s (by omega), LH_s (by omega)]
    refine minN_cong n fun k _ => ?_
    rw [hf h k (by omega), hg h k (by omega), ih (h + 1) k (by omega)]
/-- what the cheapest day costs by other moods of that one -/
def ccost (S : Nat → Nat → Nat) (P : Nat → Txt) (md : Nat → Nat) : Nat := LH (cfN S P md) (ccN S P md) (S 5 0) 0 0
theorem ccost_cong {S' : Nat → Nat → Nat} {md md' : Nat → Nat} (hS : ∀ g k, g ≠ 0 → S' g k = S g k) (hm : ∀ h, h < 24 → md' h = md h) : ccost S' P md' = ccost S P md := by
  unfold ccost
  rw [hS 5 0 (by omega)]
  refine LH_cong (fun h k hh => ?_) (fun h k hh => ?_) 24 0 0 rfl
  · unfold cfN fitS fineS
    rw [hm h hh, hS 5 1 (by omega), hS 1 _ (by omega), hS 2 _ (by omega), hS 3 _ (by omega), hS 4 _ (by omega)]
  · unfold ccN costS
    rw [hm h hh, hS 5 1 (by omega), hS 1 _ (by omega), hS 2 _ (by omega), hS 3 _ (by omega), hS 4 _ (by omega)]
/-- the moods of one lie aside -/
theorem m_laysAside (hM : RM S I P τ) {p : Nat} (hp : p < 3) : wp (M_laysAside (nI p) τ) (fun τ' => RM S I P τ' ∧ (∀ h, h < 24 → τ' 44 0 h = nI (mdS S p h))) := by
  unfold M_laysAside
  refine loopW (fun N (z : Sg) h => M_laysAside_L2 N (nI p) (nI h) z) (fun h z => RM S I P z ∧ ∀ h', h' < h → z 44 0 h' = nI (mdS S p h')) 24 _ ?_ ?_ 0 τ FU (Nat.zero_le _) ⟨hM, fun h' q => absurd q (Nat.not_lt_zero _)⟩ (FU_big (by omega))
  · rintro N h z hh ⟨z1, z2⟩ kk
    obtain ⟨ma, mb⟩ := m_mood z1 hp hh
    show wp (M_laysAside_L2 (N + 1) (nI p) (nI h) z) _
    rw [M_laysAside_L2, if_pos (show nI h < 24 from nI_lt (b := 24) hh (by decide)), ma, if_neg (nI_pos (by omega)), na_cl (by omega), if_neg (by omega), if_neg (nI_pos (by omega)), na_cl (by omega), if_neg (by omega), mb, show nI h + 1 = nI (h + 1) from (nI_succ h).symm]
    refine kk _ ⟨z1.fr (Fr.rf.up (by unfold NM; omega)), fun h' hh' => ?_⟩
    by_cases e : h' = h
    · subst e; exact u3s _ _ _ _ _
    · rw [u3n _ _ _ _ _ (by omega)]; exact z2 h' (by omega)
  · rintro N z ⟨z1, z2⟩
    show wp (M_laysAside_L2 (N + 1) (nI p) (nI 24) z) _
    rw [M_laysAside_L2, if_neg (by decide)]
    exact wp_some ⟨z1, z2⟩
/-- and are laid back -/
theorem m_laysBack {S' : Nat → Nat → Nat} (hM : RM S' I P τ) {p : Nat} (hp : p < 3) (hS : mvN S' p 24 (mdS S p) = S) (h44 : ∀ h, h < 24 → τ 44 0 h = nI (mdS S p h)) : wp (M_laysBack (nI p) τ) (fun τ' => RM S I P τ' ∧ (∀ h, h < 24 → τ' 44 0 h = nI (mdS S p h))) := by
  unfold M_laysBack
  refine loopW (fun N (z : Sg) h => M_laysBack_L2 N (nI p) (nI h) z) (fun h z => RM (mvN S' p h (mdS S p)) I P z ∧ ∀ h', h' < 24 → z 44 0 h' = nI (mdS S p h')) 24 _ ?_ ?_ 0 τ FU (Nat.zero_le _) ⟨by rw [mvN_0]; exact hM, h44⟩ (FU_big (by omega))
  · rintro N h z hh ⟨z1, z2⟩ kk
    show wp (M_laysBack_L2 (N + 1) (nI p) (nI h) z) _
    rw [M_laysBack_L2, if_pos (show nI h < 24 from nI_lt (b := 24) hh (by decide)), if_neg (nI_pos (by omega)), na_cl (by omega), if_neg (by omega), show (24 : Int32) * nI p + nI h = nI (24 * p + h) by rw [show (24 : Int32) = nI 24 from rfl, na_mul, na_add], if_neg (nI_pos (by omega)), na_cl (by omega), if_neg (by omega), z2 h hh, show nI h + 1 = nI (h + 1) from (nI_succ h).symm]
    refine kk _ ⟨by rw [mvN_s]; exact z1.mood, fun h' hh' => ?_⟩
    rw [u3n _ _ _ _ _ (by omega)]; exact z2 h' hh'
  · rintro N z ⟨z1, z2⟩
    show wp (M_laysBack_L2 (N + 1) (nI p) (nI 24) z) _
    rw [M_laysBack_L2, if_neg (by decide)]
    rw [hS] at z1
    exact wp_some ⟨z1, z2⟩
/-- the moods when pushed from an hour on -/
def puM (S : Nat → Nat → Nat) (p : Nat) (v : Int32) (h0 : Nat) : Nat → Nat := fun h => if h0 ≤ h then bdN (nI (mdS S p h) + v) else mdS S p h
end
