/-! the calls: tells, the reference -/
section
variable {S : Nat → Nat → Nat} {I : Nat → Nat → Int32} {P : Nat → Txt} {σ τ : Sg}
/-- the bits that f names from i on, d of them -/
def bsD (f : Nat → Bool) : Nat → Nat → Nat
  | _, 0 => 0
  | i, d + 1 => bsD f (i + 1) d + (if f i = true then 2 ^ i else 0)
/-- how many f names from i on, of d -/
def ctD (f : Nat → Bool) : Nat → Nat → Nat
  | _, 0 => 0
  | i, d + 1 => ctD f (i + 1) d + (if f i = true then 1 else 0)
theorem bsD_N (f : Nat → Bool) : ∀ d i, bsN f i + bsD f i d = bsN f (i + d) := by
  intro d
  induction d with
  | zero => intro i; rfl
  | succ d ih =>
    intro i
    have h := ih (i + 1)
    rw [bsN] at h
    rw [bsD, show i + (d + 1) = i + 1 + d by omega, ← h]
    omega
theorem ctD_N (f : Nat → Bool) : ∀ d i, ctN f i + ctD f i d = ctN f (i + d) := by
  intro d
  induction d with
  | zero => intro i; rfl
  | succ d ih =>
    intro i
    have h := ih (i + 1)
    rw [ctN] at h
    rw [ctD, show i + (d + 1) = i + 1 + d by omega, ← h]
    omega
theorem bsD_dv (f : Nat → Bool) : ∀ d i, 2 ^ i ∣ bsD f i d := by
  intro d
  induction d with
  | zero => intro i; exact Nat.dvd_zero _
  | succ d ih =>
    intro i
    rw [bsD]
    refine Nat.dvd_add (Nat.dvd_trans ⟨2, Nat.pow_succ 2 i⟩ (ih (i + 1))) ?_
    split
    · exact Nat.dvd_refl _
    · exact Nat.dvd_zero _
theorem bsD_or (f : Nat → Bool) {i d : Nat} (hi : i < 31) : nI (bsD f (i + 1) d) ||| (1 : Int32) <<< (nI i &&& 31) = nI (bsD f (i + 1) d + 2 ^ i) := by
  obtain ⟨a, ha⟩ := bsD_dv f d (i + 1)
  rw [one_shl i hi, na_orr, ha]
  rw [← Nat.two_pow_add_eq_or_of_lt (Nat.pow_lt_pow_right (by omega) (Nat.lt_succ_self i)) a]
/-- where aspect a lies among the numbers -/
def agN (a : Nat) : Nat := if a = 4 then 1 else if a = 5 then 5 else a + 1
def akN (a c : Nat) : Nat := if a = 5 then 1 else c
theorem RM.kind (h : RM S I P τ) {c v : Nat} (hc : c < S 5 0) : RM (up2 S 1 c v) I P (upd3 τ 35 0 c (nI v)) := by
  refine ⟨h.1.cg (fun _ _ => up2n _ _ _ _ (by omega)) (fun _ _ => rfl), h.2.1.cg (fun _ => up2n _ _ _ _ (by omega)) (fun _ => rfl), fun j hj => ?_, h.2.2.2.1.cg (up2n _ _ _ _ (by omega)) (fun _ => up2n _ _ _ _ (by omega)) (fun _ => rfl), h.2.2.2.2.1.cg (fun _ => up2n _ _ _ _ (by omega)) (fun _ => up2n _ _ _ _ (by omega)) (fun g j h1 => u3n _ _ _ _ _ (by omega)), h.2.2.2.2.2.1.cg (fun _ _ => up2n _ _ _ _ (by omega)) (fun g c h1 => up2n _ _ _ _ (by omega)) (fun _ _ => rfl) (fun _ => rfl) (fun _ => rfl), h.2.2.2.2.2.2.cg (up2n _ _ _ _ (by omega)) (fun _ => rfl) (fun _ => rfl)⟩
  rw [up2n _ _ _ _ (by omega)] at hj
  obtain ⟨c0, c1, c2, c3⟩ := h.2.2.1 j hj
  refine ⟨?_, ?_, ?_, ?_⟩
  · by_cases e : j = c
    · subst e; rw [up2s]; exact u3s _ _ _ _ _
    · rw [up2n _ _ _ _ (by omega), u3n _ _ _ _ _ (by omega)]; exact c0
  · rw [up2n _ _ _ _ (by omega), u3n _ _ _ _ _ (by omega)]; exact c1
  · rw [up2n _ _ _ _ (by omega), u3n _ _ _ _ _ (by omega)]; exact c2
  · rw [up2n _ _ _ _ (by omega), u3n _ _ _ _ _ (by omega)]; exact c3
theorem SV.kind (h : SV S) {c v : Nat} (hv : v < 6) : SV (up2 S 1 c v) := by
  refine ⟨h.1.cg (fun _ _ => up2n _ _ _ _ (by omega)), h.2.1.cg (fun _ => up2n _ _ _ _ (by omega)), fun j hj => ?_, h.2.2.2.1.cg (up2n _ _ _ _ (by omega)) (fun _ => up2n _ _ _ _ (by omega)), h.2.2.2.2.1.cg (fun _ => up2n _ _ _ _ (by omega)) (fun _ => up2n _ _ _ _ (by omega)), fun q => ?_⟩
  · rw [up2n _ _ _ _ (by omega)] at hj
    obtain ⟨c0, c1, c2, c3⟩ := h.2.2.1 j hj
    rw [up2n (g' := 2) _ _ _ _ (by omega), up2n (g' := 3) _ _ _ _ (by omega), up2n (g' := 4) _ _ _ _ (by omega)]
    refine ⟨?_, c1, c2, c3⟩
    by_cases e : j = c
    · subst e; rw [up2s]; exact hv
    · rw [up2n _ _ _ _ (by omega)]; exact c0
  · rw [up2n _ _ _ _ (by omega)] at q
    obtain ⟨h1, h2, h3, h4⟩ := h.2.2.2.2.2 q
    rw [up2n (g' := 5) _ _ _ _ (by omega), up2n (g' := 5) _ _ _ _ (by omega), up2n (g' := 5) _ _ _ _ (by omega), up2n (g' := 5) _ _ _ _ (by omega)]
    refine ⟨h1, h2, fun k hk => by rw [up2n _ _ _ _ (by omega)]; exact h3 k hk, fun k hk => ?_⟩
    obtain ⟨c0, c1, c2, c3⟩ := h4 k hk
    rw [up2n (g' := 10) _ _ _ _ (by omega), up2n (g' := 11) _ _ _ _ (by omega), up2n (g' := 12) _ _ _ _ (by omega)]
    refine ⟨?_, c1, c2, c3⟩
    by_cases e : k = c
    · subst e; rw [up2s]; exact hv
    · rw [up2n _ _ _ _ (by omega)]; exact c0
theorem m_lays (hM : RM S I P τ) {a c v : Nat} (h1 : 1 ≤ a) (h2 : a ≤ 5) (hc : c < S 5 0) (v8 : S 5 0 ≤ 8) : wp (M_lays (nI a) (nI c) (nI v) τ) (fun y => RM (up2 S (agN a) (akN a c) v) I P y) := by
  have h3 : a = 1 ∨ a = 2 ∨ a = 3 ∨ a = 4 ∨ a = 5 := by omega
  have ix : ∀ j, (3 : Int32) * nI c + nI (j + 1) - 1 = nI (3 * c + j) := fun j => by rw [show (3 : Int32) = nI 3 from rfl, na_mul, na_add]; exact nI_pred _
  unfold M_lays
  rcases h3 with q | q | q | q | q <;> subst q
  · rw [if_neg (by decide), if_pos (by decide), ix 0, if_neg (nI_pos (by omega)), na_cl (by omega), if_neg (by omega)]
    exact wp_some (hM.trait (g := 2) (by omega) (by omega) hc)
  · rw [if_neg (by decide), if_pos (by decide), ix 1, if_neg (nI_pos (by omega)), na_cl (by omega), if_neg (by omega)]
    exact wp_some (hM.trait (g := 3) (by omega) (by omega) hc)
  · rw [if_neg (by decide), if_pos (by decide), ix 2, if_neg (nI_pos (by omega)), na_cl (by omega), if_neg (by omega)]
    exact wp_some (hM.trait (g := 4) (by omega) (by omega) hc)
  · rw [if_neg (by decide), if_neg (by decide), if_pos (by decide), if_neg (nI_pos (by omega)), na_cl (by omega), if_neg (by omega)]
    exact wp_some (hM.kind hc)
  · rw [if_neg (by decide), if_neg (by decide), if_neg (by decide)]
    exact wp_some hM.rule
theorem sv_lays (hV : SV S) {a c v : Nat} (hk : wsK S a v) (h6 : a ≤ 5) : SV (up2 S (agN a) (akN a c) v) := by
  obtain ⟨k1, k2, k3, k4, k5, k6, k7⟩ := hk
  have h3 : a = 1 ∨ a = 2 ∨ a = 3 ∨ a = 4 ∨ a = 5 := by omega
  rcases h3 with q | q | q | q | q <;> subst q
  · exact hV.trait (g := 2) (by omega) (by omega) (by have : mostN 2 = 9 := rfl; have := k5 rfl; omega)
  · exact hV.trait (g := 3) (by omega) (by omega) (by have : mostN 3 = 99 := rfl; have := k6 rfl; omega)
  · exact hV.trait (g := 4) (by omega) (by omega) (by have : mostN 4 = 999 := rfl; omega)
  · exact hV.kind (k4 rfl)
  · exact hV.rule (k7 rfl)
theorem ws_lays {s c h a v : Nat} (h1 : 1 ≤ a) (h2 : a ≤ 5) : wsN S I P s c h a v = decide (foF (otB I s (P (up2 S (agN a) (akN a c) v 5 1)) (up2 S (agN a) (akN a c) v 1 c) (up2 S (agN a) (akN a c) v 2 c) (up2 S (agN a) (akN a c) v 3 c) (up2 S (agN a) (akN a c) v 4 c) h) (up2 S (agN a) (akN a c) v 8 s) 0 = -1) := by
  have h3 : a = 1 ∨ a = 2 ∨ a = 3 ∨ a = 4 ∨ a = 5 := by omega
  unfold wsN
  rw [if_neg (show ¬ a = 6 by omega)]
  rcases h3 with q | q | q | q | q <;> subst q <;> simp [up2, agN, akN]
theorem m_tells_L {s c h a w K : Nat} (hV : SV S) (hs : s < 4) (h7 : S 7 s ≠ 0) (hc : c < S 5 0) (h1 : 1 ≤ a) (h2 : a ≤ 5) (hw : w ≤ 8) (hK : K ≤ 100) (hk : ∀ v, v < K → wsK S a v) (hb : K ≤ 10 ∨ w = 3 ∨ w = 4 ∨ w = 5 ∨ w = 6) : ∀ i n v8 (y : Sg), i ≤ K → i < n → (∃ x, RM (up2 S (agN a) (akN a c) x) I P y) → (K ≤ 10 → v8 = nI (bsD (wsN S I P s c h a) i (K - i))) → wp (M_tells_L203 n (nI s) (nI c) (nI h) (nI w) (nI a) (nI (S (agN a) (akN a c))) v8 (nI (ctD (wsN S I P s c h a) i (K - i))) (foF (wsN S I P s c h a) (K - i) i) (nI i - 1) y) (fun r => r.1 = (if w = 3 ∨ w = 5 then nI (ctN (wsN S I P s c h a) K) else if w = 4 ∨ w = 6 then foF (wsN S I P s c h a) K 0 else nI (bsN (wsN S I P s c h a) K)) ∧ RM S I P r.2) := by
  have h3 : a = 1 ∨ a = 2 ∨ a = 3 ∨ a = 4 ∨ a = 5 := by omega
  have e50 : ∀ x, up2 S (agN a) (akN a c) x 5 0 = S 5 0 := fun x => by
    refine up2n _ _ _ _ ?_
    unfold agN akN
    clear hk hb
    rcases h3 with q | q | q | q | q <;> subst q <;> simp
  have e7 : ∀ x, up2 S (agN a) (akN a c) x 7 s = S 7 s := fun x => by
    refine up2n _ _ _ _ ?_
    unfold agN akN
    clear hk hb
    rcases h3 with q | q | q | q | q <;> subst q <;> simp
  have v8 := hV.1.1
  intro i
  induction i with
  | zero =>
    intro n v8' y _ hn ⟨x, hy⟩ hv
    obtain ⟨n, rfl⟩ : ∃ n', n = n' + 1 := ⟨n - 1, by omega⟩
    rw [M_tells_L203, if_pos (show nI 0 - 1 < 0 by decide)]
    refine wp_bind (m_lays hy (v := S (agN a) (akN a c)) h1 h2 (by rw [e50]; exact hc) (by rw [e50]; exact v8)) ?_
    intro y1 hy1
    rw [up2_tw, up2_id] at hy1
    have c0 := ctD_N (wsN S I P s c h a) K 0
    rw [Nat.zero_add, show ctN (wsN S I P s c h a) 0 = 0 from rfl, Nat.zero_add] at c0
    have b0 := bsD_N (wsN S I P s c h a) K 0
    rw [Nat.zero_add, show bsN (wsN S I P s c h a) 0 = 0 from rfl, Nat.zero_add] at b0
    rw [Nat.sub_zero] at hv
    rw [Nat.sub_zero, c0]
    have hwl : w = 3 ∨ w = 5 ∨ w = 4 ∨ w = 6 ∨ ¬ (w = 3 ∨ w = 5 ∨ w = 4 ∨ w = 6) := by omega
    rcases hwl with q | q | q | q | q
    · subst q
      rw [if_pos (show nI 3 = (3 : Int32) from rfl)]
      exact wp_some ⟨rfl, hy1⟩
    · subst q
      rw [if_neg (by decide), if_pos (show nI 5 = (5 : Int32) from rfl)]
      exact wp_some ⟨rfl, hy1⟩
    · subst q
      rw [if_neg (by decide), if_neg (by decide), if_pos (show nI 4 = (4 : Int32) from rfl)]
      exact wp_some ⟨rfl, hy1⟩
    · subst q
      rw [if_neg (by decide), if_neg (by decide), if_neg (by decide), if_pos (show nI 6 = (6 : Int32) from rfl)]
      exact wp_some ⟨rfl, hy1⟩
    · rw [if_neg (show ¬ nI w = (3 : Int32) from na_ne (by omega) (m := 3) (by omega) (by omega)), if_neg (show ¬ nI w = (5 : Int32) from na_ne (by omega) (m := 5) (by omega) (by omega)), if_neg (show ¬ nI w = (4 : Int32) from na_ne (by omega) (m := 4) (by omega) (by omega)), if_neg (show ¬ nI w = (6 : Int32) from na_ne (by omega) (m := 6) (by omega) (by omega)), if_neg (show ¬ (w = 3 ∨ w = 5) by omega), if_neg (show ¬ (w = 4 ∨ w = 6) by omega)]
      exact wp_some ⟨by rw [hv (by omega), b0], hy1⟩
  | succ i ih =>
    intro n v8' y hi hn ⟨x, hy⟩ hv
    obtain ⟨n, rfl⟩ : ∃ n', n = n' + 1 := ⟨n - 1, by omega⟩
    have hki := hk i (by omega)
    rw [M_tells_L203, nI_pred, if_neg (nI_pos (by omega))]
    refine wp_bind (m_lays hy (v := i) h1 h2 (by rw [e50]; exact hc) (by rw [e50]; exact v8)) ?_
    intro y1 hy1
    rw [up2_tw] at hy1
    refine wp_bind (m_first (h := h) hy1 (sv_lays hV hki h2) hs (by rw [e7]; exact h7) (by rw [e50]; exact hc)) ?_
    rintro ⟨r, y2⟩ ⟨er, f2⟩
    have f2 : Fr SF y1 y2 := f2
    have hy2 := hy1.fr (f2.mo fun g a j q => q.nm)
    have hr : wsN S I P s c h a i = decide (r = -1) := by
      rw [ws_lays h1 h2, show r = _ from er]
    have kk := ih n
    rw [show K - i = (K - (i + 1)) + 1 by omega, ctD, foF, bsD] at kk
    rw [na_m1]
    show wp (if r = -1 then _ else _) _
    by_cases d : r = -1
    · rw [decide_eq_true d] at hr
      rw [if_pos hr, if_pos hr, if_pos hr] at kk
      rw [if_pos d, show nI (ctD (wsN S I P s c h a) (i + 1) (K - (i + 1))) + 1 = nI (ctD (wsN S I P s c h a) (i + 1) (K - (i + 1)) + 1) from na_add _ 1]
      by_cases z : i < 10
      · rw [if_pos (show nI i < 10 from nI_lt (b := 10) z (by decide))]
        exact kk _ y2 (by omega) (by omega) ⟨i, hy2⟩ (fun q => by rw [hv q, bsD_or _ (by omega)])
      · rw [if_neg (show ¬ nI i < 10 from nI_nlt (b := 10) (by omega) (by omega))]
        exact kk _ y2 (by omega) (by omega) ⟨i, hy2⟩ (fun q => absurd q (by omega))
    · rw [decide_eq_false d] at hr
      rw [if_neg (by rw [hr]; decide), if_neg (by rw [hr]; decide), if_neg (by rw [hr]; decide), Nat.add_zero, Nat.add_zero] at kk
      rw [if_neg d]
      exact kk _ y2 (by omega) (by omega) ⟨i, hy2⟩ hv
theorem m_hourSet (hM : RM S I P τ) (hV : SV S) {s c : Nat} (h : Nat) (hs : s < 4) (h7 : S 7 s ≠ 0) (hc : c < S 5 0) : wp (M_hourSet (nI s) (nI c) τ) (fun r => r.1 = nI (bsN (wsN S I P s c h 6) 24) ∧ RM S I P r.2) := by
  unfold M_hourSet
  refine loopW (fun m (y : Int32 × Sg) i => M_hourSet_L5 m (nI s) (nI c) y.1 (nI i) y.2) (fun i y => y.1 = nI (bsN (wsN S I P s c h 6) i) ∧ RM S I P y.2) 24 _ ?_ ?_ 0 ((0 : Int32), τ) FU (by omega) ⟨rfl, hM⟩ (FU_big (by omega))
  · rintro m i ⟨acc, y⟩ hi ⟨e, h1⟩ k
    have e : acc = nI (bsN (wsN S I P s c h 6) i) := e
    subst e
    have h1 : RM S I P y := h1
    show wp (M_hourSet_L5 (m + 1) (nI s) (nI c) (nI _) (nI i) y) _
    rw [M_hourSet_L5, if_pos (show nI i < 24 from nI_lt (b := 24) hi (by decide))]
    refine wp_bind (m_first (h := i) h1 hV hs h7 hc) ?_
    rintro ⟨r, y2⟩ ⟨er, f2⟩
    have f2 : Fr SF y y2 := f2
    have hy2 := h1.fr (f2.mo fun g a j q => q.nm)
    have hr : wsN S I P s c h 6 i = decide (r = -1) := by
      rw [show r = _ from er]
      rfl
    rw [show nI i + 1 = nI (i + 1) from (nI_succ i).symm]
    show wp (if r = -1 then _ else _) _
    by_cases d : r = -1
    · rw [decide_eq_true d] at hr
      rw [if_pos d, bsN_or _ (by omega)]
      refine k (_, y2) ⟨?_, hy2⟩
      show nI _ = nI (bsN (wsN S I P s c h 6) i + (if wsN S I P s c h 6 i = true then 2 ^ i else 0))
      rw [if_pos hr]
    · rw [decide_eq_false d] at hr
      rw [if_neg d, zero_shl i (by omega), or_0]
      refine k (_, y2) ⟨?_, hy2⟩
      show nI _ = nI (bsN (wsN S I P s c h 6) i + (if wsN S I P s c h 6 i = true then 2 ^ i else 0))
      rw [if_neg (by rw [hr]; decide), Nat.add_zero]
  · rintro m ⟨acc, y⟩ ⟨e, h1⟩
    show wp (M_hourSet_L5 (m + 1) (nI s) (nI c) acc (nI 24) y) _
    rw [M_hourSet_L5, if_neg (by decide)]
    exact wp_some ⟨e, h1⟩
/-- what stands of a trait -/
theorem m_trait (hM : RM S I P τ) (v8 : S 5 0 ≤ 8) {a c : Nat} (h1 : 1 ≤ a) (h2 : a ≤ 4) (hc : c < S 5 0) : M_told (nI c) (nI a) τ = some (nI (S (agN a) (akN a c)), τ) := by
  have hD := hM.2.2.1 c hc
  have ix : ∀ j, (3 : Int32) * nI c + nI (j + 1) - 1 = nI (3 * c + j) := fun j => by rw [show (3 : Int32) = nI 3 from rfl, na_mul, na_add]; exact nI_pred _
  have mo : ∀ w, w ≠ 0 → w ≠ 5 → w < 7 → M_isOf (nI w) (nI c) τ = some (1, τ) := fun w w0 w5 w7 => by
    unfold M_isOf
    rw [if_neg (na_0 (by omega) w0), if_neg (show ¬ nI w = 5 from na_ne (by omega) (m := 5) (by omega) w5), s_M_isCoat hM.1.1 v8, irB_n (by omega) (by omega), decide_eq_true hc]
    simp only [Option.bind_some, b2_and]
    rfl
  have mt : ∀ w, w ≠ 0 → w < 5 → M_told (nI c) (nI w) τ = if nI w < (4 : Int32) then
              if ((((3 : Int32) * nI c) + nI w) - (1 : Int32)) < 0 then none else if 24 ≤ ((((3 : Int32) * nI c) + nI w) - (1 : Int32)).toNatClampNeg then none else
              some ((τ 36 0 ((((3 : Int32) * nI c) + nI w) - (1 : Int32)).toNatClampNeg), τ)
          else
              if nI c < 0 then none else if 8 ≤ (nI c).toNatClampNeg then none else
              some ((τ 35 0 (nI c).toNatClampNeg), τ) := fun w w0 w5 => by
    unfold M_told
    rw [M_in_l (nI w) 6 (by omega), irB_n (by omega) (by omega), decide_eq_true (show w < 6 + 1 by omega)]
    simp only [Option.bind_some]
    rw [if_neg (show ¬ b2 true = 0 by decide), mo w w0 (by omega) (by omega)]
    simp only [Option.bind_some]
    rw [if_neg (show ¬ (1 : Int32) = 0 by decide)]
    by_cases d : w < 4
    · rw [if_pos (show nI w < 4 from nI_lt (b := 4) d (by decide)), if_pos (show nI w < 4 from nI_lt (b := 4) d (by decide)), if_neg (na_0 (by omega) w0)]
    · have : w = 4 := by omega
      subst this
      rw [if_neg (show ¬ nI 4 < 4 by decide), if_neg (show ¬ nI 4 < 4 by decide), if_pos (show nI 4 = (4 : Int32) by decide)]
  have h3 : a = 1 ∨ a = 2 ∨ a = 3 ∨ a = 4 := by omega
  rcases h3 with q | q | q | q <;> subst q <;> rw [mt _ (by omega) (by omega)]
  · rw [if_pos (by decide), ix 0, if_neg (nI_pos (by omega)), na_cl (by omega), if_neg (by omega), show (3 * c + 0) = 3 * c from rfl, hD.2.1]; rfl
  · rw [if_pos (by decide), ix 1, if_neg (nI_pos (by omega)), na_cl (by omega), if_neg (by omega), hD.2.2.1]; rfl
  · rw [if_pos (by decide), ix 2, if_neg (nI_pos (by omega)), na_cl (by omega), if_neg (by omega), hD.2.2.2]; rfl
  · rw [if_neg (by decide), if_neg (nI_pos (by omega)), na_cl (by omega), if_neg (by omega), hD.1]; rfl
end
