/-! the calls: cell, copy, coats -/
section
variable {S : Nat → Nat → Nat} {I : Nat → Nat → Int32} {P : Nat → Txt} {σ τ : Sg}
theorem na_sneg {a b : Nat} (ha : a < 1000) (hb : b < 2147483648) (h : a < b) : nI a - nI b < 0 := by
  rw [Int32.lt_iff_toInt_lt, Int32.toInt_sub, nI_toInt (by omega), nI_toInt hb, Int.bmod_eq_of_le (by omega) (by omega), show (0 : Int32).toInt = 0 from by decide]
  omega
theorem RX.item (h : RX S I P σ) {s i : Nat} {v : Int32} : RX S (upI I s i v) P (upd3 σ 13 s i v) := by
  refine ⟨h.1.cg (fun _ _ => rfl) (fun _ => rfl) rfl, h.2.1.cg (fun _ => rfl) (fun _ => rfl), h.2.2.1.cg rfl (fun _ _ _ _ => rfl) (fun _ _ _ => rfl), h.2.2.2.1.cg rfl (fun _ => rfl) (fun _ => rfl), fun t ht => ?_, h.2.2.2.2.2.1.cg (fun _ _ => rfl) (fun _ _ _ => rfl) (fun _ _ _ => rfl) (fun _ => rfl) (fun _ => rfl) (fun _ _ => rfl), h.2.2.2.2.2.2.cg rfl (fun _ _ => rfl) (fun _ _ => rfl)⟩
  obtain ⟨g1, g2⟩ := h.2.2.2.2.1 t ht
  refine ⟨g1, fun q => ⟨(g2 q).1, fun j hj => ?_⟩⟩
  unfold upI
  by_cases e : t = s ∧ j = i
  · obtain ⟨e1, e2⟩ := e
    subst e1; subst e2
    rw [u3s, if_pos ⟨rfl, rfl⟩]
  · rw [u3n _ _ _ _ _ (by omega), if_neg e]
    exact (g2 q).2 j hj
theorem RM.item (h : RM S I P τ) (hV : SV S) {s i : Nat} (hs : s < 4) (hi : i < 40) {v : Int32} : RM S (upI I s i v) P (upd3 τ 50 0 (40 * s + i) v) := by
  refine ⟨h.1.cg (fun _ _ => rfl) (fun _ _ => rfl), h.2.1.cg (fun _ => rfl) (fun _ => rfl), h.2.2.1.cg rfl (fun _ _ _ _ => rfl) (fun _ => rfl) (fun _ => rfl), h.2.2.2.1.cg rfl (fun _ => rfl) (fun _ => rfl), fun t ht => ?_, h.2.2.2.2.2.1.cg (fun _ _ => rfl) (fun _ _ _ => rfl) (fun _ _ => rfl) (fun _ => rfl) (fun _ => rfl), h.2.2.2.2.2.2.cg rfl (fun _ => rfl) (fun _ => rfl)⟩
  obtain ⟨g1, g2⟩ := h.2.2.2.2.1 t ht
  refine ⟨g1, fun q => ⟨(g2 q).1, (g2 q).2.1, fun j hj => ?_⟩⟩
  have h40 := (hV.2.2.2.2.1 t ht).2
  unfold upI
  by_cases e : t = s ∧ j = i
  · obtain ⟨e1, e2⟩ := e
    subst e1; subst e2
    rw [u3s, if_pos ⟨rfl, rfl⟩]
  · rw [u3n _ _ _ _ _ (by omega), if_neg e]
    exact (g2 q).2.2 j hj
/-- n numbers from i on, within m -/
def hrB (p q : Int32) (m : Nat) : Bool := decide (¬ p < 0 ∧ ¬ q < 0 ∧ ¬ nI m < q ∧ ¬ nI m - q < p)
theorem hrB_t {p q : Int32} {m : Nat} (hm : m ≤ 40) (h : hrB p q m = true) : ∃ a b, p = nI a ∧ q = nI b ∧ a + b ≤ m := by
  unfold hrB at h
  simp only [decide_eq_true_eq] at h
  obtain ⟨h1, h2, h3, h4⟩ := h
  rcases na_or p with c | ⟨a, ha, rfl⟩
  · exact absurd c h1
  rcases na_or q with c | ⟨b, hb, rfl⟩
  · exact absurd c h2
  rw [na_lt (by omega) hb] at h3
  rw [na_sub (by omega), na_lt (by omega) ha] at h4
  exact ⟨a, b, rfl, rfl, by omega⟩
theorem hrB_n {a b m : Nat} (ha : a < 2147483648) (hb : b < 2147483648) (hm : m ≤ 40) : hrB (nI a) (nI b) m = decide (a + b ≤ m) := by
  unfold hrB
  by_cases c : b ≤ m
  · rw [na_sub c]
    by_cases d : a + b ≤ m
    · rw [decide_eq_true d]
      exact decide_eq_true ⟨nI_pos ha, nI_pos hb, nI_nlt c (by omega), nI_nlt (by omega) (by omega)⟩
    · rw [decide_eq_false d]
      exact decide_eq_false (fun h => h.2.2.2 (nI_lt (by omega) ha))
  · rw [decide_eq_false (show ¬ a + b ≤ m by omega)]
    exact decide_eq_false (fun h => h.2.2.1 (nI_lt (by omega) hb))
theorem s_hasRow {s m : Nat} (h : σ 12 s 2 = nI m) (p q : Int32) : Sheet_hasRow s p q σ = some (b2 (hrB p q m), σ) := by
  unfold Sheet_hasRow hrB
  rw [h]
  by_cases h1 : p < 0
  · simp [h1, b2]
  by_cases h2 : q < 0
  · simp [h1, h2, b2]
  by_cases h3 : nI m < q
  · simp [h1, h2, h3, b2]
  by_cases h4 : nI m - q < p
  · simp [h1, h2, h3, h4, b2]
  · simp [h1, h2, h3, h4, b2]
theorem s_item {s m i : Nat} (h : σ 12 s 2 = nI m) (hm : m ≤ 40) (hi : i < m) : Sheet_item s (nI i) σ = some (σ 13 s i, σ) := by
  unfold Sheet_item
  rw [s_hasRow h, show (1 : Int32) = nI 1 from rfl, hrB_n (by omega) (by omega) hm, decide_eq_true (show i + 1 ≤ m by omega)]
  simp only [Option.bind_some]
  rw [if_neg (show ¬ b2 true = 0 by decide), if_neg (nI_pos (by omega)), na_cl (by omega), if_neg (by omega)]
/-- as a sheet of a sort keeps it -/
def cvI (k : Nat) (v : Int32) : Int32 := if k = 1 then v.toInt8.toInt32 else if k = 2 then v.toInt16.toInt32 else v
theorem s_put {s m i k : Nat} (h : σ 12 s 2 = nI m) (hm : m ≤ 40) (hi : i < m) (h1 : σ 12 s 1 = nI (k - 1)) (hk : 1 ≤ k) (hk3 : k ≤ 3) (v : Int32) : Sheet_put s (nI i) v σ = some (upd3 σ 13 s i (cvI k v)) := by
  unfold Sheet_put
  rw [s_hasRow h, show (1 : Int32) = nI 1 from rfl, hrB_n (by omega) (by omega) hm, decide_eq_true (show i + 1 ≤ m by omega)]
  simp only [Option.bind_some]
  rw [if_neg (show ¬ b2 true = 0 by decide), h1]
  simp only [if_neg (nI_pos (show i < 2147483648 by omega)), na_cl (show i < 2147483648 by omega), if_neg (show ¬ 40 ≤ i by omega)]
  have hq : k = 1 ∨ k = 2 ∨ k = 3 := by omega
  unfold cvI
  rcases hq with q | q | q <;> subst q
  · rw [if_pos (by decide)]; rfl
  · rw [if_neg (by decide), if_pos (by decide)]; rfl
  · rw [if_neg (by decide), if_neg (by decide)]; rfl
theorem s_M_isSheet (p : Int32) (τ : Sg) : M_isSheet p τ = some (b2 (irB p 4), τ) := by
  unfold M_isSheet
  rw [M_in_l p 3 (by omega)]
  simp only [Option.bind_some, b2_and]
theorem m_in1 (p : Int32) {m : Nat} (hm : m ≤ 40) (τ : Sg) : M_in p.toInt64 0 (nI m - 1).toInt64 τ = some (b2 (irB p m), τ) := by
  cases m with
  | zero =>
    rw [show (0 : Int64) = (0 : Int32).toInt64 from rfl, s_M_in]
    have : irB p 0 = false := by
      cases q : irB p 0 with
      | false => rfl
      | true => obtain ⟨k, hk, _⟩ := irB_t (by omega) q; omega
    rw [this]
    by_cases q : p < 0
    · rw [if_pos q]; rfl
    · rw [if_neg q, if_pos (show nI 0 - 1 < p from by
        rw [Int32.lt_iff_toInt_lt]
        have h1 := Int32.not_lt.mp q
        rw [Int32.le_iff_toInt_le] at h1
        have h2 : (nI 0 - 1).toInt = -1 := rfl
        have h3 : (0 : Int32).toInt = 0 := rfl
        omega)]
      rfl
  | succ m => rw [nI_pred, s_M_in0 p (by omega)]
theorem srI_n1 {k : Nat} (h0 : k ≠ 0) (hk : k ≤ 3) : ¬ nI (k - 1) = -1 := nI_n1 (by omega)
theorem q_cell (hR : Rel σ τ) (p1 p2 p3 : Int32) : CP (X_cell p1 p2 p3 σ) (M_cell p1 p2 p3 τ) := by
  obtain ⟨S, I, P, hX, hM, hV⟩ := id hR
  unfold X_cell M_cell
  rw [s_X_isSheet, s_M_isSheet]
  simp only [Option.bind_some, b2_0]
  cases h1 : irB p1 4 with
  | false => exact CP_same hR (-2)
  | true =>
    obtain ⟨s, hs, rfl⟩ := irB_t (by omega) h1
    rw [if_neg (show ¬ true = false by decide), if_neg (show ¬ true = false by decide)]
    simp only [if_neg (nI_pos (show s < 2147483648 by omega)), na_cl (show s < 2147483648 by omega), if_neg (show ¬ 4 ≤ s by omega)]
    obtain ⟨x1, x2⟩ := hX.2.2.2.2.1 s hs
    obtain ⟨m1, m2⟩ := hM.2.2.2.2.1 s hs
    obtain ⟨w1, w2⟩ := hV.2.2.2.2.1 s hs
    rw [x1, m1]
    by_cases c : S 7 s = 0
    · simp only [if_pos c, if_true]
      exact CP_same hR (-11)
    · simp only [if_neg c]
      obtain ⟨y1, y2⟩ := x2 c
      obtain ⟨n1, n2, n3⟩ := m2 c
      rw [if_neg (srI_n1 c w1), if_neg (show ¬ (1 : Int32) = 0 by decide), y1, n2, m_in1 p2 w2]
      simp only [Option.bind_some, b2_0, n1]
      cases h2 : irB p2 (S 8 s) with
      | false =>
        refine CP_eq (o1' := some (-12, σ)) (o2' := some (-12, τ)) ?_ (if_pos rfl) (CP_same hR _)
        rcases irB_f (by omega) h2 with q | ⟨j, hj, hj7, rfl⟩
        · rw [if_pos q]
        · rw [if_neg (nI_pos hj), if_neg (nI_nlt hj7 hj)]
      | true =>
        obtain ⟨i, hi, rfl⟩ := irB_t (by omega) h2
        refine CP_eq (o1' := some (1, upd3 σ 13 s i (cvI (S 7 s) p3))) (o2' := some (1, upd3 τ 50 0 (40 * s + i) (cvI (S 7 s) p3))) ?_ ?_ ⟨_, _, _, rfl, rfl, S, _, P, hX.item, hM.item hV hs (by omega), hV⟩
        · rw [if_neg (nI_pos (by omega)), if_pos (nI_lt hi (by omega)), s_put y1 w2 hi (by rw [x1, if_neg c]) (by omega) w1]
          rfl
        · rw [if_neg (show ¬ true = false by decide), show (40 : Int32) * nI s + nI i = nI (40 * s + i) by rw [show (40 : Int32) = nI 40 from rfl, na_mul, na_add]]
          simp only [if_neg (nI_pos (show 40 * s + i < 2147483648 by omega)), na_cl (show 40 * s + i < 2147483648 by omega), if_neg (show ¬ 160 ≤ 40 * s + i by omega)]
          have hq : S 7 s = 1 ∨ S 7 s = 2 ∨ S 7 s = 3 := by omega
          unfold cvI
          rcases hq with q | q | q
          · rw [q, if_pos (by decide)]; rfl
          · rw [q, if_neg (by decide), if_pos (by decide)]; rfl
          · rw [q, if_neg (by decide), if_neg (by decide)]; rfl
/-- n numbers come from one to another one -/
def cpI (I : Nat → Nat → Int32) (s i t j n : Nat) : Nat → Nat → Int32 := fun t' x => if t' = t ∧ j ≤ x ∧ x < j + n then I s (i + (x - j)) else I t' x
theorem RX.copy (h : RX S I P σ) (hV : SV S) {s i t j n : Nat} (hs : s < 4) (hs0 : S 7 s ≠ 0) (h1 : i + n ≤ S 8 s) : RX S (cpI I s i t j n) P (cpy3 σ 13 s i 13 t j n) := by
  have rd : ∀ g a x, ¬ g = 13 → cpy3 σ 13 s i 13 t j n g a x = σ g a x := fun g a x q => by
    unfold cpy3
    rw [if_neg (fun c => q c.1)]
  refine ⟨h.1.cg (fun _ _ => rfl) (fun y => rd 0 0 y (by omega)) (rd 6 0 4 (by omega)), h.2.1.cg (fun _ => rfl) (fun y => rd 23 0 y (by omega)), h.2.2.1.cg rfl (fun _ _ _ _ => rfl) (fun c y _ => rd 1 c y (by omega)), h.2.2.2.1.cg rfl (fun _ => rfl) (fun y => rd 7 0 y (by omega)), fun u hu => ?_, h.2.2.2.2.2.1.cg (fun _ _ => rfl) (fun _ _ _ => rfl) (fun _ _ _ => rfl) (fun y => rd 20 0 y (by omega)) (fun y => rd 21 0 y (by omega)) (fun c y => rd 1 (9 + c) y (by omega)), h.2.2.2.2.2.2.cg rfl (fun c y => rd 3 c y (by omega)) (fun c y => rd 4 c y (by omega))⟩
  obtain ⟨g1, g2⟩ := h.2.2.2.2.1 u hu
  rw [rd 12 u 1 (by omega), rd 12 u 2 (by omega)]
  refine ⟨g1, fun q => ⟨(g2 q).1, fun x hx => ?_⟩⟩
  unfold cpI cpy3
  by_cases e : u = t ∧ j ≤ x ∧ x < j + n
  · rw [if_pos ⟨rfl, e⟩, if_pos e]
    exact ((h.2.2.2.2.1 s hs).2 hs0).2 _ (by omega)
  · rw [if_neg (fun c => e c.2), if_neg e]
    exact (g2 q).2 x hx
theorem RM.copied (h : RM S I P τ) (hV : SV S) {s i t j n : Nat} (ht : t < 4) (h2 : j + n ≤ S 8 t) {τ' : Sg} (f : ∀ g x, ¬ (g = 50 ∧ 40 * t + j ≤ x ∧ x < 40 * t + j + n) → τ' g 0 x = τ g 0 x) (k : ∀ q, q < n → τ' 50 0 (40 * t + j + q) = I s (i + q)) : RM S (cpI I s i t j n) P τ' := by
  have t40 := (hV.2.2.2.2.1 t ht).2
  refine ⟨h.1.cg (fun _ _ => rfl) (fun y _ => f 30 y (by omega)), h.2.1.cg (fun _ => rfl) (fun y => f 34 y (by omega)), h.2.2.1.cg rfl (fun _ _ _ _ => rfl) (fun y => f 35 y (by omega)) (fun y => f 36 y (by omega)), h.2.2.2.1.cg rfl (fun _ => rfl) (fun y => f 33 y (by omega)), fun u hu => ?_, h.2.2.2.2.2.1.cg (fun _ _ => rfl) (fun _ _ _ => rfl) (fun y _ => f 30 y (by omega)) (fun y => f 45 y (by omega)) (fun y => f 46 y (by omega)), h.2.2.2.2.2.2.cg rfl (fun y => f 31 y (by omega)) (fun y => f 32 y (by omega))⟩
  obtain ⟨g1, g2⟩ := h.2.2.2.2.1 u hu
  have u40 := (hV.2.2.2.2.1 u hu).2
  rw [f 47 u (by omega), f 48 u (by omega), f 49 u (by omega)]
  refine ⟨g1, fun q => ⟨(g2 q).1, (g2 q).2.1, fun x hx => ?_⟩⟩
  unfold cpI
  by_cases e : u = t ∧ j ≤ x ∧ x < j + n
  · rw [if_pos e, ← k (x - j) (by omega)]
    obtain ⟨e1, e2, e3⟩ := e
    subst e1
    rw [show 40 * u + j + (x - j) = 40 * u + x by omega]
  · rw [if_neg e, f 50 _ (by omega)]
    exact (g2 q).2.2 x hx
theorem m_copy_L (hM : RM S I P τ) (hV : SV S) {s i t j n : Nat} (hs : s < 4) (ht : t < 4) (hs0 : S 7 s ≠ 0) (h1 : i + n ≤ S 8 s) (h2 : j + n ≤ S 8 t) {w : Nat} (hw : (w = 0 ∧ (s ≠ t ∨ j ≤ i)) ∨ (w = 1 ∧ i ≤ j)) : wp (M_copy_L121 FU (nI s) (nI i) (nI t) (nI j) (nI n) (nI w) 0 τ) (fun r => r.1 = nI n ∧ RM S (cpI I s i t j n) P r.2) := by
  have s40 := (hV.2.2.2.2.1 s hs).2
  have t40 := (hV.2.2.2.2.1 t ht).2
  have src : ∀ q, q < n → τ 50 0 (40 * s + i + q) = I s (i + q) := fun q hq => by
    rw [Nat.add_assoc]
    exact ((hM.2.2.2.2.1 s hs).2 hs0).2.2 _ (by omega)
  -- place of step k
  have body : ∀ m k q (s' : Sg), q < n → M_copy_J145 (fun y0 y1 y2 y3 y4 y5 y6 τ => M_copy_L121 m y0 y1 y2 y3 y4 y5 y6 τ) (nI s) (nI i) (nI t) (nI j) (nI n) (nI w) (nI k) (nI q) s' = M_copy_L121 m (nI s) (nI i) (nI t) (nI j) (nI n) (nI w) (nI (k + 1)) (upd3 s' 50 0 (40 * t + j + q) (s' 50 0 (40 * s + i + q))) := by
    intro m k q s' hq
    unfold M_copy_J145
    rw [show (40 : Int32) = nI 40 from rfl, na_mul, na_mul, na_add, na_add, na_add, na_add, if_neg (nI_pos (by omega)), na_cl (by omega), if_neg (by omega), if_neg (nI_pos (by omega)), na_cl (by omega), if_neg (by omega), show nI k + 1 = nI (k + 1) from (nI_succ k).symm]
  refine loopW (fun m (s' : Sg) k => M_copy_L121 m (nI s) (nI i) (nI t) (nI j) (nI n) (nI w) (nI k) s') (fun k s' => (∀ g x, ¬ (g = 50 ∧ 40 * t + j ≤ x ∧ x < 40 * t + j + n) → s' g 0 x = τ g 0 x) ∧ (∀ q, q < n → s' 50 0 (40 * t + j + q) = if (w = 0 ∧ q < k) ∨ (w = 1 ∧ n ≤ q + k) then I s (i + q) else τ 50 0 (40 * t + j + q))) n _ ?_ ?_ 0 τ FU (Nat.zero_le _) ⟨fun _ _ _ => rfl, fun q hq => by rw [if_neg (by omega)]⟩ (FU_big (by omega))
  · rintro m k s' hk ⟨g1, g2⟩ kk
    show wp (M_copy_L121 (m + 1) (nI s) (nI i) (nI t) (nI j) (nI n) (nI w) (nI k) s') _
    rw [M_copy_L121, if_pos (nI_lt hk (by omega))]
    have rdsrc : ∀ q, q < n → (w = 0 ∧ q = k) ∨ (w = 1 ∧ q + k + 1 = n) → s' 50 0 (40 * s + i + q) = I s (i + q) := by
      intro q hq hc
      rw [← src q hq]
      by_cases e : 40 * t + j ≤ 40 * s + i + q ∧ 40 * s + i + q < 40 * t + j + n
      · have hst : s = t := by omega
        subst hst
        have := g2 (i + q - j) (by omega)
        rw [show 40 * s + j + (i + q - j) = 40 * s + i + q by omega, if_neg (by omega)] at this
        exact this
      · exact g1 50 _ (by omega)
    have fin : ∀ q, q < n → (w = 0 ∧ q = k) ∨ (w = 1 ∧ q + k + 1 = n) → wp (M_copy_L121 m (nI s) (nI i) (nI t) (nI j) (nI n) (nI w) (nI (k + 1)) (upd3 s' 50 0 (40 * t + j + q) (s' 50 0 (40 * s + i + q)))) (fun r => r.1 = nI n ∧ RM S (cpI I s i t j n) P r.2) := by
      intro q hq hc
      refine kk _ ⟨fun g x h => ?_, fun q' hq' => ?_⟩
      · rw [u3n _ _ _ _ _ (by omega)]; exact g1 g x h
      · by_cases e : q' = q
        · subst e
          rw [u3s, rdsrc q' hq hc, if_pos (by omega)]
        · rw [u3n _ _ _ _ _ (by omega), g2 q' hq']
          by_cases d : (w = 0 ∧ q' < k) ∨ (w = 1 ∧ n ≤ q' + k)
          · rw [if_pos d, if_pos (by omega)]
          · rw [if_neg d, if_neg (by omega)]
    rcases hw with ⟨hw, _⟩ | ⟨hw, _⟩
    · rw [if_pos (show nI w = 0 by rw [hw]; rfl), body m k k s' hk]
      exact fin k hk (Or.inl ⟨hw, rfl⟩)
    · rw [if_neg (na_0 (k := w) (by omega) (by omega)), show nI n - 1 - nI k = nI (n - 1 - k) by rw [show (1 : Int32) = nI 1 from rfl, na_sub (by omega), na_sub (by omega)], body m k (n - 1 - k) s' (by omega)]
      exact fin (n - 1 - k) (by omega) (Or.inr ⟨hw, by omega⟩)
  · rintro m s' ⟨g1, g2⟩
    show wp (M_copy_L121 (m + 1) (nI s) (nI i) (nI t) (nI j) (nI n) (nI w) (nI n) s') _
    rw [M_copy_L121, if_neg (nI_nlt (Nat.le_refl _) (by omega))]
    exact wp_some ⟨rfl, hM.copied hV ht h2 g1 (fun q hq => (g2 q hq).trans (if_pos (by omega)))⟩
theorem q_copy (hR : Rel σ τ) (p1 p2 p3 p4 p5 : Int32) : CP (X_copy p1 p2 p3 p4 p5 σ) (M_copy p1 p2 p3 p4 p5 τ) := by
  obtain ⟨S, I, P, hX, hM, hV⟩ := id hR
  unfold X_copy M_copy
  rw [s_X_isSheet, s_M_isSheet]
  simp only [Option.bind_some, b2_0]
  cases h1 : irB p1 4 with
  | false => exact CP_same hR (-2)
  | true =>
    obtain ⟨s, hs, rfl⟩ := irB_t (by omega) h1
    rw [if_neg (show ¬ true = false by decide), if_neg (show ¬ true = false by decide), s_X_isSheet, s_M_isSheet]
    simp only [Option.bind_some, b2_0]
    cases h3 : irB p3 4 with
    | false => exact CP_same hR (-2)
    | true =>
      obtain ⟨t, ht, rfl⟩ := irB_t (by omega) h3
      rw [if_neg (show ¬ true = false by decide), if_neg (show ¬ true = false by decide)]
      simp only [if_neg (nI_pos (show s < 2147483648 by omega)), na_cl (show s < 2147483648 by omega), if_neg (show ¬ 4 ≤ s by omega), if_neg (nI_pos (show t < 2147483648 by omega)), na_cl (show t < 2147483648 by omega), if_neg (show ¬ 4 ≤ t by omega)]
      obtain ⟨x1, x2⟩ := hX.2.2.2.2.1 s hs
      obtain ⟨m1, m2⟩ := hM.2.2.2.2.1 s hs
      obtain ⟨w1, w2⟩ := hV.2.2.2.2.1 s hs
      obtain ⟨x1', x2'⟩ := hX.2.2.2.2.1 t ht
      obtain ⟨m1', m2'⟩ := hM.2.2.2.2.1 t ht
      obtain ⟨w1', w2'⟩ := hV.2.2.2.2.1 t ht
      rw [x1, m1, x1', m1']
      by_cases c : S 7 s = 0
      · simp only [if_pos c, if_true]
        exact CP_same hR (-11)
      simp only [if_neg c]
      rw [if_neg (srI_n1 c w1), if_neg (show ¬ (1 : Int32) = 0 by decide)]
      by_cases c' : S 7 t = 0
      · simp only [if_pos c', if_true]
        exact CP_same hR (-11)
      simp only [if_neg c']
      rw [if_neg (srI_n1 c' w1'), if_neg (show ¬ (1 : Int32) = 0 by decide)]
      obtain ⟨y1, y2⟩ := x2 c
      obtain ⟨n1, n2, n3⟩ := m2 c
      obtain ⟨y1', y2'⟩ := x2' c'
      obtain ⟨n1', n2', n3'⟩ := m2' c'
      rw [n1, n1', n2, n2']
      by_cases d : nI (S 7 s - 1) = nI (S 7 t - 1)
      · rw [if_pos d, if_pos d, s_hasRow y1]
        simp only [Option.bind_some, b2_0]
        rw [s_hasRow y1']
        simp only [Option.bind_some, b2_0]
        -- the refusals
        have bad : hrB p2 p5 (S 8 s) = false ∨ hrB p4 p5 (S 8 t) = false → p5 < 0 ∨ p2 < 0 ∨ p4 < 0 ∨ nI (S 8 s) - p5 < p2 ∨ nI (S 8 t) - p5 < p4 := by
          intro h
          refine Decidable.byContradiction fun q => ?_
          have q1 : ¬ p5 < 0 := fun z => q (Or.inl z)
          have q2 : ¬ p2 < 0 := fun z => q (Or.inr (Or.inl z))
          have q3 : ¬ p4 < 0 := fun z => q (Or.inr (Or.inr (Or.inl z)))
          have q4 : ¬ nI (S 8 s) - p5 < p2 := fun z => q (Or.inr (Or.inr (Or.inr (Or.inl z))))
          have q5 : ¬ nI (S 8 t) - p5 < p4 := fun z => q (Or.inr (Or.inr (Or.inr (Or.inr z))))
          rcases na_or p5 with z | ⟨n, hn, rfl⟩
          · exact q1 z
          rcases na_or p2 with z | ⟨i, hi, rfl⟩
          · exact q2 z
          rcases na_or p4 with z | ⟨j, hj, rfl⟩
          · exact q3 z
          have e1 : n ≤ S 8 s := Nat.le_of_not_lt fun z => q4 (by
            have := na_sneg (a := S 8 s) (b := n) (by omega) hn z
            exact na_neg_lt this hi)
          have e2 : n ≤ S 8 t := Nat.le_of_not_lt fun z => q5 (by
            have := na_sneg (a := S 8 t) (b := n) (by omega) hn z
            exact na_neg_lt this hj)
          rw [na_sub e1, na_lt (by omega) hi] at q4
          rw [na_sub e2, na_lt (by omega) hj] at q5
          rw [hrB_n hi hn w2, hrB_n hj hn w2', decide_eq_true (show i + n ≤ S 8 s by omega), decide_eq_true (show j + n ≤ S 8 t by omega)] at h
          simp at h
        have mbad : p5 < 0 ∨ p2 < 0 ∨ p4 < 0 ∨ nI (S 8 s) - p5 < p2 ∨ nI (S 8 t) - p5 < p4 → ∀ z : Option (Int32 × Sg), (if p5 < 0 then some ((-12 : Int32), τ) else if p2 < 0 then some ((-12 : Int32), τ) else if p4 < 0 then some ((-12 : Int32), τ) else if nI (S 8 s) - p5 < p2 then some ((-12 : Int32), τ) else if nI (S 8 t) - p5 < p4 then some ((-12 : Int32), τ) else z) = some (-12, τ) := by
          intro h z
          by_cases q1 : p5 < 0
          · rw [if_pos q1]
          by_cases q2 : p2 < 0
          · rw [if_neg q1, if_pos q2]
          by_cases q3 : p4 < 0
          · rw [if_neg q1, if_neg q2, if_pos q3]
          by_cases q4 : nI (S 8 s) - p5 < p2
          · rw [if_neg q1, if_neg q2, if_neg q3, if_pos q4]
          by_cases q5 : nI (S 8 t) - p5 < p4
          · rw [if_neg q1, if_neg q2, if_neg q3, if_neg q4, if_pos q5]
          · simp [q1, q2, q3, q4, q5] at h
        cases h4 : hrB p2 p5 (S 8 s) with
        | false => exact CP_eq (if_pos rfl) (mbad (bad (Or.inl h4)) _) (CP_same hR _)
        | true =>
          cases h5 : hrB p4 p5 (S 8 t) with
          | false => exact CP_eq (by rw [if_neg (by decide), if_pos rfl]) (mbad (bad (Or.inr h5)) _) (CP_same hR _)
          | true =>
            obtain ⟨i, n, rfl, rfl, hin⟩ := hrB_t w2 h4
            obtain ⟨j, n', rfl, e, hjn⟩ := hrB_t w2' h5
            have e : n = n' := by
              have hl : n < 2147483648 := by omega
              have hl' : n' < 2147483648 := by omega
              exact (na_eq hl hl').mp e
            subst e
            refine CP_mk (r := nI n) (S := S) (I := cpI I s i t j n) (P := P) ?_ ?_ hV
            · rw [if_neg (show ¬ true = false by decide), if_neg (show ¬ true = false by decide), if_neg (nI_pos (by omega)), if_neg (nI_pos (by omega)), if_neg (nI_pos (by omega)), na_cl (by omega), na_cl (by omega), na_cl (by omega), if_neg (by omega), if_neg (by omega)]
              exact wp_some ⟨rfl, hX.copy hV hs c hin⟩
            · rw [if_neg (nI_pos (show n < 2147483648 by omega)), if_neg (nI_pos (show i < 2147483648 by omega)), if_neg (nI_pos (show j < 2147483648 by omega)), na_sub (by omega), if_neg (nI_nlt (by omega) (by omega)), na_sub (by omega), if_neg (nI_nlt (by omega) (by omega))]
              by_cases e1 : s = t
              · rw [if_pos (by rw [e1])]
                by_cases e2 : i < j
                · rw [if_pos (nI_lt e2 (by omega))]
                  exact m_copy_L hM hV hs ht c hin hjn (w := 1) (Or.inr ⟨rfl, by omega⟩)
                · rw [if_neg (nI_nlt (by omega) (by omega))]
                  exact m_copy_L hM hV hs ht c hin hjn (w := 0) (Or.inl ⟨rfl, Or.inr (by omega)⟩)
              · rw [if_neg (na_ne (by omega) (by omega) e1)]
                exact m_copy_L hM hV hs ht c hin hjn (w := 0) (Or.inl ⟨rfl, Or.inl e1⟩)
      · rw [if_neg d, if_neg d]
        exact CP_same hR (-13)
end
