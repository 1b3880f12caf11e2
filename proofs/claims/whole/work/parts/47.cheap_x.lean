/-! the cheapest day: what it costs from each hour on, and the class's tables of it -/
def minN (F : Nat → Nat) : Nat → Nat
  | 0 => F 0
  | n + 1 => min (minN F n) (F (n + 1))
theorem minN_le (F : Nat → Nat) : ∀ n k, k ≤ n → minN F n ≤ F k := by
  intro n
  induction n with
  | zero => intro k hk; have : k = 0 := by omega
            subst this; exact Nat.le_refl _
  | succ n ih =>
    intro k hk
    unfold minN
    by_cases e : k = n + 1
    · subst e; exact Nat.min_le_right _ _
    · exact Nat.le_trans (Nat.min_le_left _ _) (ih k (by omega))
theorem minN_at (F : Nat → Nat) : ∀ n, ∃ k, k ≤ n ∧ minN F n = F k := by
  intro n
  induction n with
  | zero => exact ⟨0, Nat.le_refl _, rfl⟩
  | succ n ih =>
    obtain ⟨k, hk, e⟩ := ih
    unfold minN
    by_cases c : minN F n ≤ F (n + 1)
    · exact ⟨k, by omega, by rw [Nat.min_eq_left c]; exact e⟩
    · exact ⟨n + 1, Nat.le_refl _, Nat.min_eq_right (by omega)⟩
theorem minN_cong {F G : Nat → Nat} : ∀ n, (∀ k, k ≤ n → F k = G k) → minN F n = minN G n := by
  intro n
  induction n with
  | zero => intro h; exact h 0 (Nat.le_refl _)
  | succ n ih =>
    intro h
    unfold minN
    rw [ih (fun k hk => h k (by omega)), h (n + 1) (Nat.le_refl _)]
/-- keeping on, or the least behind a change -/
theorem minN_keep {K g : Nat → Nat} {n a : Nat} (ha : a ≤ n) : minN (fun k => K k + (if k = a then 0 else g k)) n = min (K a) (minN (fun k => K k + g k) n) := by
  apply Nat.le_antisymm
  · apply Nat.le_min.mpr
    constructor
    · have := minN_le (fun k => K k + (if k = a then 0 else g k)) n a ha
      simp only [if_true, Nat.add_zero] at this
      exact this
    · obtain ⟨k, hk, e⟩ := minN_at (fun k => K k + g k) n
      rw [e]
      have := minN_le (fun k => K k + (if k = a then 0 else g k)) n k hk
      split at this <;> omega
  · obtain ⟨k, hk, e⟩ := minN_at (fun k => K k + (if k = a then 0 else g k)) n
    rw [e]
    show min (K a) (minN (fun k => K k + g k) n) ≤ K k + (if k = a then 0 else g k)
    by_cases c : k = a
    · subst c
      simp only [if_true, Nat.add_zero]
      exact Nat.min_le_left _ _
    · rw [if_neg c]
      exact Nat.le_trans (Nat.min_le_right _ _) (minN_le (fun k => K k + g k) n k hk)
/-- the least from d hours ahead of the end on, a being on -/
def LD (f g : Nat → Nat → Nat) (n : Nat) : Nat → Nat → Nat
  | 0, _ => 0
  | d + 1, a => minN (fun k => f (23 - d) k + LD f g n d k + (if k = a then 0 else g (23 - d) k)) n
def LH (f g : Nat → Nat → Nat) (n h a : Nat) : Nat := LD f g n (24 - h) a
theorem LH_24 {f g : Nat → Nat → Nat} {n a : Nat} : LH f g n 24 a = 0 := rfl
theorem LH_s {f g : Nat → Nat → Nat} {n h a : Nat} (hh : h < 24) : LH f g n h a = minN (fun k => f h k + LH f g n (h + 1) k + (if k = a then 0 else g h k)) n := by
  unfold LH
  rw [show 24 - h = (23 - h) + 1 by omega, show 24 - (h + 1) = 23 - h by omega]
  show minN (fun k => f (23 - (23 - h)) k + LD f g n (23 - h) k + (if k = a then 0 else g (23 - (23 - h)) k)) n = _
  rw [show 23 - (23 - h) = h by omega]
/-- no fine, no cost is above 99 -/
def FG (f g : Nat → Nat → Nat) (n : Nat) : Prop := ∀ h k, h < 24 → k ≤ n → f h k ≤ 99 ∧ g h k ≤ 99
theorem LH_le {f g : Nat → Nat → Nat} {n : Nat} (hF : FG f g n) : ∀ d h a, h + d = 24 → a ≤ n → LH f g n h a ≤ 99 * d := by
  intro d
  induction d with
  | zero => intro h a hd ha; have : h = 24 := by omega
            subst this; rw [LH_24]; omega
  | succ d ih =>
    intro h a hd ha
    rw [LH_s (by omega)]
    have h1 := minN_le (fun k => f h k + LH f g n (h + 1) k + (if k = a then 0 else g h k)) n a ha
    simp only [if_true, Nat.add_zero] at h1
    have h2 := ih (h + 1) a (by omega) ha
    have h3 := (hF h a (by omega) ha).1
    omega
/-- what the class's day has been told -/
def Tb (f g : Nat → Nat → Nat) (n : Nat) (σ : Sg) : Prop := σ 14 0 4 = nI (n + 1) ∧ ∀ h k, h < 24 → k ≤ n → σ 15 0 (9 * h + k) = nI (f h k) ∧ σ 16 0 (9 * h + k) = nI (g h k)
/-- its tables from an hour on -/
def Dn (f g : Nat → Nat → Nat) (n h0 : Nat) (σ : Sg) : Prop := ∀ h k, h0 ≤ h → h < 24 → k ≤ n → σ 17 0 (9 * h + k) = nI (f h k + LH f g n (h + 1) k) ∧ σ 18 0 (9 * h + k) = nI (LH f g n h k)
def SD : Nat → Nat → Nat → Prop := fun g _ _ => g = 17 ∨ g = 18
theorem Tb.fr {f g : Nat → Nat → Nat} {n : Nat} {σ σ' : Sg} (h : Tb f g n σ) (fr : Fr SD σ σ') : Tb f g n σ' := ⟨by rw [fr _ _ _ (by unfold SD; omega)]; exact h.1, fun a k ha hk => by rw [fr _ _ _ (by unfold SD; omega), fr _ _ _ (by unfold SD; omega)]; exact h.2 a k ha hk⟩
section
variable {f g : Nat → Nat → Nat} {n : Nat} {σ0 σ : Sg}
theorem ix9 {h k : Nat} : nI h * 9 + nI k = nI (9 * h + k) := by rw [show (9 : Int32) = nI 9 from rfl, na_mul, na_add, Nat.mul_comm]
/-- the second loop of an hour -/
theorem x_ch_L97 (hF : FG f g n) (hn : n ≤ 8) {h C : Nat} (hh : h < 24) {k3 : Int32 → Sg → Option (Int32 × Sg)} {Q : Int32 × Sg → Prop} (hC : C = minN (fun k => f h k + LH f g n (h + 1) k + g h k) n) (hT : Tb f g n σ) (hD : Dn f g n (h + 1) σ) (hk : ∀ k, k ≤ n → σ 17 0 (9 * h + k) = nI (f h k + LH f g n (h + 1) k)) (hfr : Fr SD σ0 σ)
    (k : ∀ σ', Dn f g n h σ' → Fr SD σ0 σ' → wp (k3 (nI h + (-1)) σ') Q) : wp (Day_cheapest_L97 k3 FU (nI h) (nI C) 0 σ) Q := by
  refine loopW (fun m (s : Sg) i => Day_cheapest_L97 k3 m (nI h) (nI C) (nI i) s) (fun i s => Fr (fun g' _ j => g' = 18 ∧ 9 * h ≤ j ∧ j ≤ 9 * h + n) σ s ∧ ∀ k, k < i → s 18 0 (9 * h + k) = nI (LH f g n h k)) (n + 1) Q ?_ ?_ 0 σ FU (Nat.zero_le _) ⟨Fr.rf, fun k hk => absurd hk (Nat.not_lt_zero _)⟩ (FU_big (by omega))
  · rintro m i s hi ⟨h1, h2⟩ kk
    show wp (Day_cheapest_L97 k3 (m + 1) (nI h) (nI C) (nI i) s) Q
    have e14 : s 14 0 4 = nI (n + 1) := (h1 14 0 4 (by omega)).trans hT.1
    have e17 : s 17 0 (9 * h + i) = nI (f h i + LH f g n (h + 1) i) := (h1 17 0 _ (by omega)).trans (hk i (by omega))
    have b1 := (hF h i hh (by omega)).1
    have b2 := LH_le hF (24 - (h + 1)) (h + 1) i (by omega) (by omega)
    have b3 : C ≤ f h i + LH f g n (h + 1) i + g h i := by rw [hC]; exact minN_le _ n i (by omega)
    have b4 := (hF h i hh (by omega)).2
    rw [Day_cheapest_L97, e14, if_pos (nI_lt hi (by omega)), if_pos (show nI i < 9 from nI_lt (b := 9) (by omega) (by decide)), ix9, if_neg (nI_pos (by omega)), na_cl (by omega), if_neg (by omega), if_neg (nI_pos (by omega)), if_neg (by omega), e17, show nI i + 1 = nI (i + 1) from (nI_succ i).symm]
    have hv : (if nI C < nI (f h i + LH f g n (h + 1) i) then nI C else nI (f h i + LH f g n (h + 1) i)) = nI (LH f g n h i) := by
      rw [LH_s hh, minN_keep (K := fun k => f h k + LH f g n (h + 1) k) (g := g h) (show i ≤ n by omega), ← hC]
      by_cases c : C < f h i + LH f g n (h + 1) i
      · rw [if_pos (nI_lt c (by omega)), Nat.min_eq_right (by omega)]
      · rw [if_neg (nI_nlt (by omega) (by omega)), Nat.min_eq_left (by omega)]
    rw [hv]
    refine kk _ ⟨h1.up ⟨rfl, by omega, by omega⟩, fun k hk => ?_⟩
    by_cases e : k = i
    · subst e; rw [u3s]
    · rw [u3n _ _ _ _ _ (by omega)]; exact h2 k (by omega)
  · rintro m s ⟨h1, h2⟩
    show wp (Day_cheapest_L97 k3 (m + 1) (nI h) (nI C) (nI (n + 1)) s) Q
    have e14 : s 14 0 4 = nI (n + 1) := (h1 14 0 4 (by omega)).trans hT.1
    rw [Day_cheapest_L97, e14, if_neg (nI_nlt (Nat.le_refl _) (by omega))]
    refine k s (fun h' k' q1 q2 q3 => ?_) (hfr.tr (h1.mo fun g' a j q => Or.inr q.1))
    by_cases e : h' = h
    · subst e
      exact ⟨(h1 17 0 _ (by omega)).trans (hk k' q3), h2 k' (by omega)⟩
    · have := hD h' k' (by omega) q2 q3
      exact ⟨(h1 17 0 _ (by omega)).trans this.1, (h1 18 0 _ (by omega)).trans this.2⟩
/-- an hour -/
theorem x_ch_L12 (hF : FG f g n) (hn : n ≤ 8) {h : Nat} (hh : h < 24) {k3 : Int32 → Sg → Option (Int32 × Sg)} {Q : Int32 × Sg → Prop} (hT : Tb f g n σ) (hD : Dn f g n (h + 1) σ) (hfr : Fr SD σ0 σ)
    (k : ∀ σ', Dn f g n h σ' → Fr SD σ0 σ' → wp (k3 (nI h + (-1)) σ') Q) : wp (Day_cheapest_L12 k3 FU (nI h) 1000000 0 σ) Q := by
  refine loopW (fun m (z : Int32 × Sg) i => Day_cheapest_L12 k3 m (nI h) z.1 (nI i) z.2) (fun i z => z.1 = (if i = 0 then 1000000 else nI (minN (fun k => f h k + LH f g n (h + 1) k + g h k) (i - 1))) ∧ Fr (fun g' _ j => g' = 17 ∧ 9 * h ≤ j ∧ j ≤ 9 * h + n) σ z.2 ∧ ∀ k, k < i → z.2 17 0 (9 * h + k) = nI (f h k + LH f g n (h + 1) k)) (n + 1) Q ?_ ?_ 0 ((1000000 : Int32), σ) FU (Nat.zero_le _) ⟨rfl, Fr.rf, fun k hk => absurd hk (Nat.not_lt_zero _)⟩ (FU_big (by omega))
  · rintro m i ⟨C, s⟩ hi ⟨h0, h1, h2⟩ kk
    have h0 : C = (if i = 0 then 1000000 else nI (minN (fun k => f h k + LH f g n (h + 1) k + g h k) (i - 1))) := h0
    have h1 : Fr (fun g' _ j => g' = 17 ∧ 9 * h ≤ j ∧ j ≤ 9 * h + n) σ s := h1
    show wp (Day_cheapest_L12 k3 (m + 1) (nI h) C (nI i) s) Q
    have e14 : s 14 0 4 = nI (n + 1) := (h1 14 0 4 (by omega)).trans hT.1
    have e15 : s 15 0 (9 * h + i) = nI (f h i) := (h1 15 0 _ (by omega)).trans (hT.2 h i hh (by omega)).1
    have e16 : s 16 0 (9 * h + i) = nI (g h i) := (h1 16 0 _ (by omega)).trans (hT.2 h i hh (by omega)).2
    have b1 := (hF h i hh (by omega)).1
    have b2 := LH_le hF (24 - (h + 1)) (h + 1) i (by omega) (by omega)
    have b4 := (hF h i hh (by omega)).2
    rw [Day_cheapest_L12, e14, if_pos (nI_lt hi (by omega)), if_pos (show nI i < 9 from nI_lt (b := 9) (by omega) (by decide)), ix9, if_neg (nI_pos (by omega)), na_cl (by omega), if_neg (by omega), e15]
    have j67 : ∀ w3 : Int32, w3 = nI (LH f g n (h + 1) i) → wp (Day_cheapest_J67 k3 (fun y0 y1 y2 τ => Day_cheapest_L12 k3 m y0 y1 y2 τ) (nI h) C (nI i) (nI (9 * h + i)) (nI (9 * h + i)) (nI (f h i)) w3 s) Q := by
      intro w3 e3
      subst e3
      unfold Day_cheapest_J67
      rw [if_neg (nI_pos (by omega)), na_cl (by omega), if_neg (by omega), if_neg (nI_pos (by omega)), if_neg (by omega), if_neg (nI_pos (by omega)), if_neg (by omega), na_add]
      simp only []
      rw [u3s, u3n _ _ _ _ _ (by omega), e16, na_add, show nI i + 1 = nI (i + 1) from (nI_succ i).symm]
      refine kk (_, _) ⟨?_, h1.up ⟨rfl, by omega, by omega⟩, fun k hk => ?_⟩
      · show (if nI (f h i + LH f g n (h + 1) i + g h i) < C then nI (f h i + LH f g n (h + 1) i + g h i) else C) = (if i + 1 = 0 then 1000000 else nI (minN (fun k => f h k + LH f g n (h + 1) k + g h k) (i + 1 - 1)))
        rw [if_neg (show ¬ i + 1 = 0 by omega), Nat.add_sub_cancel, h0]
        by_cases c : i = 0
        · subst c
          rw [if_pos rfl, if_pos (show nI (f h 0 + LH f g n (h + 1) 0 + g h 0) < 1000000 from nI_lt (b := 1000000) (by omega) (by decide))]
          rfl
        · rw [if_neg c]
          obtain ⟨i, rfl⟩ : ∃ i', i = i' + 1 := ⟨i - 1, by omega⟩
          rw [Nat.add_sub_cancel]
          have b5 := minN_le (fun k => f h k + LH f g n (h + 1) k + g h k) i 0 (Nat.zero_le _)
          have b6 := (hF h 0 hh (by omega)).1
          have b7 := LH_le hF (24 - (h + 1)) (h + 1) 0 (by omega) (by omega)
          have b8 := (hF h 0 hh (by omega)).2
          show _ = nI (min (minN (fun k => f h k + LH f g n (h + 1) k + g h k) i) (f h (i + 1) + LH f g n (h + 1) (i + 1) + g h (i + 1)))
          by_cases d : f h (i + 1) + LH f g n (h + 1) (i + 1) + g h (i + 1) < minN (fun k => f h k + LH f g n (h + 1) k + g h k) i
          · rw [if_pos (nI_lt d (by omega)), Nat.min_eq_right (by omega)]
          · rw [if_neg (nI_nlt (by omega) (by omega)), Nat.min_eq_left (by omega)]
      · by_cases e : k = i
        · subst e; exact u3s _ _ _ _ _
        · exact (u3n _ _ _ _ _ (by omega)).trans (h2 k (by omega))
    by_cases e : h = 23
    · subst e
      rw [if_pos (show nI 23 = 23 from rfl)]
      exact j67 0 (by rw [LH_24]; rfl)
    · rw [if_neg (show ¬ nI h = 23 from na_ne (by omega) (m := 23) (by omega) e), show nI (9 * h + i) + 9 = nI (9 * h + i + 9) from na_add _ 9, if_neg (nI_pos (by omega)), na_cl (by omega), if_neg (by omega)]
      exact j67 _ (by rw [show 9 * h + i + 9 = 9 * (h + 1) + i by omega]; exact (h1 18 0 _ (by omega)).trans (hD (h + 1) i (Nat.le_refl _) (by omega) (by omega)).2)
  · rintro m ⟨C, s⟩ ⟨h0, h1, h2⟩
    have h0 : C = (if n + 1 = 0 then 1000000 else nI (minN (fun k => f h k + LH f g n (h + 1) k + g h k) (n + 1 - 1))) := h0
    have h1 : Fr (fun g' _ j => g' = 17 ∧ 9 * h ≤ j ∧ j ≤ 9 * h + n) σ s := h1
    rw [if_neg (show ¬ n + 1 = 0 by omega), Nat.add_sub_cancel] at h0
    subst h0
    show wp (Day_cheapest_L12 k3 (m + 1) (nI h) _ (nI (n + 1)) s) Q
    have fS : Fr SD σ s := h1.mo fun g' a j q => Or.inl q.1
    have e14 : s 14 0 4 = nI (n + 1) := (h1 14 0 4 (by omega)).trans hT.1
    rw [Day_cheapest_L12, e14, if_neg (nI_nlt (Nat.le_refl _) (by omega))]
    refine x_ch_L97 (σ0 := σ0) hF hn hh rfl (hT.fr fS) (fun h' k' q1 q2 q3 => ?_) (fun k hk => h2 k (by omega)) (hfr.tr fS) k
    have := hD h' k' q1 q2 q3
    exact ⟨(h1 17 0 _ (by omega)).trans this.1, (h1 18 0 _ (by omega)).trans this.2⟩
theorem x_cheapest (hF : FG f g n) (hn : n ≤ 8) (hT : Tb f g n σ) : wp (Day_cheapest σ) (fun r => r.1 = nI (LH f g n 0 0) ∧ Dn f g n 0 r.2 ∧ Fr SD σ r.2) := by
  have key : ∀ h m (s : Sg), h ≤ 24 → h < m → Dn f g n h s → Fr SD σ s → wp (Day_cheapest_L3 m (nI h + (-1)) s) (fun r => r.1 = nI (LH f g n 0 0) ∧ Dn f g n 0 r.2 ∧ Fr SD σ r.2) := by
    intro h
    induction h with
    | zero =>
      intro m s h1 h2 h3 h4
      obtain ⟨m, rfl⟩ : ∃ m', m = m' + 1 := ⟨m - 1, by omega⟩
      rw [Day_cheapest_L3, if_pos (by decide), (h3 0 0 (Nat.le_refl _) (by omega) (Nat.zero_le _)).2]
      exact wp_some ⟨rfl, h3, h4⟩
    | succ h ih =>
      intro m s h1 h2 h3 h4
      obtain ⟨m, rfl⟩ : ∃ m', m = m' + 1 := ⟨m - 1, by omega⟩
      rw [Day_cheapest_L3, pk_m1, if_neg (nI_pos (by omega))]
      exact x_ch_L12 (σ0 := σ) hF hn (by omega) (hT.fr h4) h3 h4 (fun σ' q1 q2 => ih m σ' (by omega) (by omega) q1 q2)
  exact key 24 FU σ (Nat.le_refl _) (FU_big (by omega)) (fun h k q1 q2 => absurd q1 (by omega)) Fr.rf
/-- the first of those that F makes v -/
def fsN (F : Nat → Nat) (v : Nat) : Nat → Nat → Nat
  | 0, k => k
  | m + 1, k => if F k = v then k else fsN F v m (k + 1)
theorem fsN_le (F : Nat → Nat) (v : Nat) : ∀ m k, fsN F v m k ≤ k + m := by
  intro m
  induction m with
  | zero => intro k; exact Nat.le_refl _
  | succ m ih =>
    intro k
    unfold fsN
    split
    · omega
    · have := ih (k + 1)
      omega
/-- the choice of an hour, a being on ahead -/
def chN (f g : Nat → Nat → Nat) (n h a : Nat) : Nat := fsN (fun k => f h k + LH f g n (h + 1) k + (if k = a then 0 else g h k)) (LH f g n h a) n 0
theorem chN_le {h a : Nat} : chN f g n h a ≤ n := by
  have := fsN_le (fun k => f h k + LH f g n (h + 1) k + (if k = a then 0 else g h k)) (LH f g n h a) n 0
  unfold chN
  omega
/-- the choices, hour by hour -/
def cwN (f g : Nat → Nat → Nat) (n : Nat) : Nat → Nat
  | 0 => 0
  | h + 1 => chN f g n h (cwN f g n h)
theorem cwN_le {h : Nat} : cwN f g n h ≤ n := by
  cases h with
  | zero => exact Nat.zero_le _
  | succ h => exact chN_le
theorem x_first_s (hF : FG f g n) (hn : n ≤ 8) {h a i N : Nat} (hh : h < 24) (ha : a ≤ n) (hi : i ≤ n) (hT : Tb f g n σ) (hD : Dn f g n 0 σ) : Day_firstBehind_L2 (N + 1) (nI h) (nI a) (nI i) σ = if f h i + LH f g n (h + 1) i + (if i = a then 0 else g h i) = LH f g n h a then some (nI i, σ) else Day_firstBehind_L2 N (nI h) (nI a) (nI (i + 1)) σ := by
  have b1 := (hF h i hh hi).1
  have b2 := LH_le hF (24 - (h + 1)) (h + 1) i (by omega) hi
  have b4 := (hF h i hh hi).2
  have b5 := LH_le hF (24 - h) h a (by omega) ha
  have d1 := hD h i (Nat.zero_le _) hh hi
  have d2 := hD h a (Nat.zero_le _) hh ha
  have t1 := hT.2 h i hh hi
  have J : ∀ w1 x : Nat, x = f h i + LH f g n (h + 1) i → w1 ≤ 99 → Day_firstBehind_J47 (fun y0 y1 y2 τ => Day_firstBehind_L2 N y0 y1 y2 τ) (nI h) (nI a) (nI i) (nI x) (nI w1) σ = if x + w1 = LH f g n h a then some (nI i, σ) else Day_firstBehind_L2 N (nI h) (nI a) (nI (i + 1)) σ := by
    intro w1 x hx hw
    unfold Day_firstBehind_J47
    rw [ix9, if_neg (nI_pos (by omega)), na_cl (by omega), if_neg (by omega), d2.2, na_add, show nI i + 1 = nI (i + 1) from (nI_succ i).symm]
    by_cases c : x + w1 = LH f g n h a
    · rw [if_pos (by rw [c]), if_pos c]
    · rw [if_neg (na_ne (by omega) (by omega) c), if_neg c]
  rw [Day_firstBehind_L2, hT.1, if_pos (nI_lt (by omega) (by omega)), if_pos (show nI i < 9 from nI_lt (b := 9) (by omega) (by decide)), ix9, if_neg (nI_pos (by omega)), na_cl (by omega), if_neg (by omega), d1.1, t1.2]
  by_cases e : i = a
  · rw [if_pos (by rw [e]), if_pos e]
    exact J 0 _ rfl (by omega)
  · rw [if_neg (na_ne (by omega) (by omega) e), if_neg (nI_pos (by omega)), if_neg (by omega), if_neg e]
    exact J _ _ rfl b4
theorem x_firstBehind (hF : FG f g n) (hn : n ≤ 8) {h a : Nat} (hh : h < 24) (ha : a ≤ n) (hT : Tb f g n σ) (hD : Dn f g n 0 σ) : Day_firstBehind (nI h) (nI a) σ = some (nI (chN f g n h a), σ) := by
  have ex : ∃ k, k ≤ n ∧ LH f g n h a = f h k + LH f g n (h + 1) k + (if k = a then 0 else g h k) := by
    rw [LH_s hh]
    exact minN_at _ n
  have key : ∀ m i N, i + m = n → m + 1 < N → (∃ k, i ≤ k ∧ k ≤ n ∧ LH f g n h a = f h k + LH f g n (h + 1) k + (if k = a then 0 else g h k)) → Day_firstBehind_L2 N (nI h) (nI a) (nI i) σ = some (nI (fsN (fun k => f h k + LH f g n (h + 1) k + (if k = a then 0 else g h k)) (LH f g n h a) m i), σ) := by
    intro m
    induction m with
    | zero =>
      intro i N hi hN ⟨k, k1, k2, k3⟩
      obtain ⟨N, rfl⟩ : ∃ m', N = m' + 1 := ⟨N - 1, by omega⟩
      have : k = i := by omega
      subst this
      rw [x_first_s hF hn hh ha (by omega) hT hD, if_pos k3.symm]
      rfl
    | succ m ih =>
      intro i N hi hN ⟨k, k1, k2, k3⟩
      obtain ⟨N, rfl⟩ : ∃ m', N = m' + 1 := ⟨N - 1, by omega⟩
      rw [x_first_s hF hn hh ha (by omega) hT hD]
      by_cases q : f h i + LH f g n (h + 1) i + (if i = a then 0 else g h i) = LH f g n h a
      · rw [if_pos q]
        have : fsN (fun k => f h k + LH f g n (h + 1) k + (if k = a then 0 else g h k)) (LH f g n h a) (m + 1) i = i := if_pos q
        rw [this]
      · rw [if_neg q]
        have : fsN (fun k => f h k + LH f g n (h + 1) k + (if k = a then 0 else g h k)) (LH f g n h a) (m + 1) i = fsN (fun k => f h k + LH f g n (h + 1) k + (if k = a then 0 else g h k)) (LH f g n h a) m (i + 1) := if_neg q
        rw [this]
        refine ih (i + 1) N (by omega) (by omega) ⟨k, ?_, k2, k3⟩
        by_cases e : k = i
        · subst e; exact absurd k3.symm q
        · omega
  obtain ⟨k, k2, k3⟩ := ex
  exact key n 0 FU (by omega) (FU_big (by omega)) ⟨k, Nat.zero_le _, k2, k3⟩
theorem x_wornAt (hF : FG f g n) (hn : n ≤ 8) {h : Nat} (hh : h < 24) (hT : Tb f g n σ) (hD : Dn f g n 0 σ) : Day_wornAt (nI h) σ = some (nI (cwN f g n (h + 1)) - 1, σ) := by
  have key : ∀ m i N, i + m = h + 1 → m < N → Day_wornAt_L4 N (nI h) (nI (cwN f g n i)) (nI i) σ = some (nI (cwN f g n (h + 1)) - 1, σ) := by
    intro m
    induction m with
    | zero =>
      intro i N hi hN
      obtain ⟨N, rfl⟩ : ∃ m', N = m' + 1 := ⟨N - 1, by omega⟩
      have : i = h + 1 := by omega
      subst this
      rw [Day_wornAt_L4, if_pos (nI_lt (by omega) (by omega))]
      unfold Day_wornAt_J28
      have := cwN_le (f := f) (g := g) (n := n) (h := h + 1)
      by_cases c : cwN f g n (h + 1) = 0
      · rw [c, if_pos (by decide)]; rfl
      · rw [if_neg (na_0 (by omega) c)]
    | succ m ih =>
      intro i N hi hN
      obtain ⟨N, rfl⟩ : ∃ m', N = m' + 1 := ⟨N - 1, by omega⟩
      rw [Day_wornAt_L4, if_neg (nI_nlt (by omega) (by omega)), if_pos (show nI i < 24 from nI_lt (b := 24) (by omega) (by decide)), x_firstBehind hF hn (by omega) cwN_le hT hD]
      simp only [Option.bind_some]
      rw [show nI i + 1 = nI (i + 1) from (nI_succ i).symm]
      exact ih (i + 1) N (by omega) (by omega)
  exact key (h + 1) 0 FU (by omega) (FU_big (by omega))
end
