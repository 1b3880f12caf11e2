/-! the calls: mean, all -/
section
variable {σ τ : Sg}
/-- in lowest terms -/
def lowN (a b part : Nat) : Nat := (if part = 0 then a else b) / Nat.gcd a b
theorem x_lowest_L {a b v : Nat} (ha : a < 1000000) (hb : b < 1000) (hb0 : 0 < b) (hv : v < 1000000) (σ : Sg) : ∀ d n, Nat.gcd a b ≤ d → d ≤ b → d < n → X_inLowestTerms_L13 n (nI a) (nI b) (nI v) (nI d) σ = some (lN (v / Nat.gcd a b), σ) := by
  have g0 : 0 < Nat.gcd a b := Nat.gcd_pos_of_pos_right a hb0
  intro d
  induction d with
  | zero => intro n h1 h2 h3; omega
  | succ d ih =>
    intro n h1 h2 h3
    obtain ⟨n, rfl⟩ : ∃ n', n = n' + 1 := ⟨n - 1, by omega⟩
    unfold X_inLowestTerms_L13
    by_cases e : d = 0
    · subst e
      rw [if_neg (by decide), show Nat.gcd a b = 1 by omega, Nat.div_one, na_lo (by omega)]
    · have hz := na_0 (k := d + 1) (by omega) (by omega)
      rw [if_pos (show 1 < nI (d + 1) from nI_lt (a := 1) (by omega) (by omega)), if_neg hz, pk_rem (by omega) (by omega) (by omega)]
      by_cases c1 : a % (d + 1) = 0
      · rw [if_pos (by rw [c1]; rfl), if_neg hz, pk_rem (by omega) (by omega) (by omega)]
        by_cases c2 : b % (d + 1) = 0
        · rw [if_pos (by rw [c2]; rfl), if_neg hz, pk_div (by omega) (by omega) (by omega)]
          have h4 : (d + 1) ∣ Nat.gcd a b := Nat.dvd_gcd (Nat.dvd_of_mod_eq_zero c1) (Nat.dvd_of_mod_eq_zero c2)
          have h5 := Nat.le_of_dvd g0 h4
          rw [show Nat.gcd a b = d + 1 by omega, na_lo (by have := Nat.div_le_self v (d + 1); omega)]
        · rw [if_neg (na_0 (by have := Nat.mod_lt b (show d + 1 > 0 by omega); omega) c2), pk_m1]
          have h4 : Nat.gcd a b ≠ d + 1 := fun e => c2 (Nat.mod_eq_zero_of_dvd (e ▸ Nat.gcd_dvd_right a b))
          exact ih n (by omega) (by omega) (by omega)
      · rw [if_neg (na_0 (by have := Nat.mod_lt a (show d + 1 > 0 by omega); omega) c1), pk_m1]
        have h4 : Nat.gcd a b ≠ d + 1 := fun e => c1 (Nat.mod_eq_zero_of_dvd (e ▸ Nat.gcd_dvd_left a b))
        exact ih n (by omega) (by omega) (by omega)
theorem x_lowest {a b k : Nat} (ha : a < 1000000) (hb : b < 900) (hb0 : 0 < b) (hk : k < 2) (σ : Sg) : X_inLowestTerms (nI a) (nI b) (nI k) σ = some (lN (lowN a b k), σ) := by
  have g1 : Nat.gcd a b ≤ b := Nat.gcd_le_right a hb0
  unfold X_inLowestTerms lowN
  have h : k = 0 ∨ k = 1 := by omega
  rcases h with q | q <;> subst q
  · rw [if_pos (by decide), if_pos rfl, x_lowest_L ha (by omega) hb0 ha σ b FU g1 (Nat.le_refl _) (FU_big (by omega))]
  · rw [if_neg (by decide), if_neg (by decide), x_lowest_L ha (by omega) hb0 (show b < 1000000 by omega) σ b FU g1 (Nat.le_refl _) (FU_big (by omega))]
theorem m_lowest_L {a b k G : Nat} (ha : a < 1000000) (hb : b < 1000000) (hk : k < 2) (hG : 0 < G) (τ : Sg) : ∀ q n p, p < 1000000 → q < 1000000 → Nat.gcd p q = G → q < n → M_lowest_L6 n (lN a) (lN b) (nI k) (lN p) (lN q) τ = some (lN ((if k = 0 then a else b) / G), τ) := by
  intro q
  induction q using Nat.strongRecOn with
  | ind q ih =>
    intro n p hp hq hg hn
    obtain ⟨n, rfl⟩ : ∃ n', n = n' + 1 := ⟨n - 1, by omega⟩
    unfold M_lowest_L6
    by_cases e : q = 0
    · subst e
      have : p = G := by rw [← hg]; exact (Nat.gcd_zero_right p).symm
      subst this
      have hp0 : ¬ lN p = 0 := fun c => by
        have := (lN_eq (a := p) (b := 0) (by omega) (by omega)).mp c
        omega
      rw [if_pos (show lg_cmp (lN 0) 0 = 0 from (lg_cmp_eq _ _).mpr rfl)]
      have h : k = 0 ∨ k = 1 := by omega
      rcases h with r | r <;> subst r
      · rw [if_pos (by decide), if_neg hp0, if_pos rfl, pk_lDiv (by omega) (by omega) (by omega)]
      · rw [if_neg (by decide), if_neg hp0, if_neg (by decide), pk_lDiv (by omega) (by omega) (by omega)]
    · have hq0 : ¬ lN q = 0 := fun c => e ((lN_eq (a := q) (b := 0) (by omega) (by omega)).mp c)
      rw [if_neg (fun c => hq0 ((lg_cmp_eq _ _).mp c)), if_neg hq0, pk_lRem (by omega) (by omega) (by omega)]
      have hm := Nat.mod_lt p (show q > 0 by omega)
      exact ih (p % q) hm n q hq (by omega) (by rw [← hg, Nat.gcd_comm p q, Nat.gcd_rec q p, Nat.gcd_comm]) (by omega)
theorem m_lowest {a b k : Nat} (ha : a < 1000000) (hb : b < 900) (hb0 : 0 < b) (hk : k < 2) (τ : Sg) : M_lowest (lN a) (lN b) (nI k) τ = some (lN (lowN a b k), τ) := by
  unfold M_lowest lowN
  exact m_lowest_L ha (by omega) hk (Nat.gcd_pos_of_pos_right a hb0) τ b FU a ha (by omega) rfl (FU_big (by omega))
theorem CPL_same {σ τ : Sg} (h : Rel σ τ) (r : Int64) : CPL (some (r, σ)) (some (r, τ)) := ⟨r, σ, τ, rfl, rfl, h⟩
theorem CPL_eq {o1 o2 o1' o2' : Option (Int64 × Sg)} (h1 : o1 = o1') (h2 : o2 = o2') (h : CPL o1' o2') : CPL o1 o2 := by rw [h1, h2]; exact h
theorem q_mean (hR : Rel σ τ) (p1 p2 : Int32) : CPL (X_mean p1 p2 σ) (M_mean p1 p2 τ) := by
  obtain ⟨S, I, P, hX, hM, hV⟩ := id hR
  have mm : M_mean p1 p2 τ = if b2 (irB p1 3) = 0 then some (-4611686018427387904, τ) else if b2 (irB p2 2) = 0 then some (-4611686018427387904, τ) else M_mean_L26 FU p1 p2 0 0 τ := by
    unfold M_mean
    rw [s_M_isOne']
    simp only [Option.bind_some]
    rw [M_in_l p2 1 (by omega)]
    simp only [Option.bind_some]
  have xm : X_mean p1 p2 σ = if b2 (irB p1 3) = 0 then some (-4611686018427387904, σ) else if p2 < 0 then some (-4611686018427387904, σ) else if 1 < p2 then some (-4611686018427387904, σ) else X_mean_L25 FU p1 p2 0 0 σ := by
    unfold X_mean
    rw [s_X_isOne']
    simp only [Option.bind_some]
  cases h1 : irB p1 3 with
  | false =>
    refine CPL_eq (o1' := some (-4611686018427387904, σ)) (o2' := some (-4611686018427387904, τ)) ?_ ?_ (CPL_same hR _)
    · rw [xm, h1]; rfl
    · rw [mm, h1]; rfl
  | true =>
    obtain ⟨p, hp, rfl⟩ := irB_t (by omega) h1
    rw [h1, if_neg (show ¬ b2 true = 0 by decide)] at xm mm
    cases h2 : irB p2 2 with
    | false =>
      refine CPL_eq (o1' := some (-4611686018427387904, σ)) (o2' := some (-4611686018427387904, τ)) ?_ ?_ (CPL_same hR _)
      · rw [xm]
        rcases irB_f (by omega) h2 with q | ⟨k, hk, hk7, rfl⟩
        · rw [if_pos q]
        · rw [if_neg (nI_pos hk), if_pos (show 1 < nI k from nI_lt (a := 1) (by omega) hk)]
      · rw [mm, h2]; rfl
    | true =>
      obtain ⟨k, hk, rfl⟩ := irB_t (by omega) h2
      rw [h2, if_neg (show ¬ b2 true = 0 by decide)] at mm
      rw [if_neg (nI_pos (by omega)), if_neg (show ¬ 1 < nI k from nI_nlt (a := 1) (by omega) (by decide))] at xm
      have hs := smN_le (f := mdS S p) (c := 99) 24 (fun h hh => by have := mdS_lt hV hp hh; omega)
      refine CPL_eq (o1' := some (lN (lowN (smN (mdS S p) 24) 24 k), σ)) (o2' := some (lN (lowN (smN (mdS S p) 24) 24 k), τ)) ?_ ?_ (CPL_same hR _)
      · have key : ∀ m n i, i + m = 24 → m < n → X_mean_L25 n (nI p) (nI k) (nI (smN (mdS S p) i)) (nI i) σ = some (lN (lowN (smN (mdS S p) 24) 24 k), σ) := by
          intro m
          induction m with
          | zero =>
            intro n i hi hn
            obtain ⟨n, rfl⟩ : ∃ n', n = n' + 1 := ⟨n - 1, by omega⟩
            unfold X_mean_L25
            have : i = 24 := by omega
            subst this
            rw [if_neg (by decide), show (24 : Int32) = nI 24 from rfl, x_lowest (by omega) (by omega) (by omega) hk]
            rfl
          | succ m ih =>
            intro n i hi hn
            obtain ⟨n, rfl⟩ : ∃ n', n = n' + 1 := ⟨n - 1, by omega⟩
            unfold X_mean_L25
            rw [if_pos (show nI i < 24 from nI_lt (b := 24) (by omega) (by decide)), x_mood hX hp (by omega)]
            simp only [Option.bind_some]
            rw [na_add, show nI i + 1 = nI (i + 1) from (nI_succ i).symm]
            exact ih n (i + 1) (by omega) (by omega)
        rw [xm]
        exact key 24 FU 0 (by omega) (FU_big (by omega))
      · have key : ∀ m n i, i + m = 24 → m < n → M_mean_L26 n (nI p) (nI k) (nI (smN (mdS S p) i)) (nI i) τ = some (lN (lowN (smN (mdS S p) 24) 24 k), τ) := by
          intro m
          induction m with
          | zero =>
            intro n i hi hn
            obtain ⟨n, rfl⟩ : ∃ n', n = n' + 1 := ⟨n - 1, by omega⟩
            unfold M_mean_L26
            have : i = 24 := by omega
            subst this
            rw [if_neg (by decide), na_lo (by omega), show (24 : Int64) = lN 24 from rfl, m_lowest (by omega) (by omega) (by omega) hk]
            rfl
          | succ m ih =>
            intro n i hi hn
            obtain ⟨n, rfl⟩ : ∃ n', n = n' + 1 := ⟨n - 1, by omega⟩
            obtain ⟨ma, mb⟩ := m_mood (h := i) hM hp (by omega)
            unfold M_mean_L26
            rw [if_pos (show nI i < 24 from nI_lt (b := 24) (by omega) (by decide)), ma, if_neg (nI_pos (by omega)), na_cl (by omega), if_neg (by omega), mb, na_add, show nI i + 1 = nI (i + 1) from (nI_succ i).symm]
            exact ih n (i + 1) (by omega) (by omega)
        rw [mm]
        exact key 24 FU 0 (by omega) (FU_big (by omega))
/-- how far apart two are -/
def apN (S : Nat → Nat → Nat) (p q : Nat) : Nat := smN (fun h => offN (mdS S p h) (mdS S q h)) 24
theorem offN_lt {a b : Nat} (ha : a < 100) (hb : b < 100) : offN a b < 100 := by unfold offN; split <;> omega
theorem apN_le {S : Nat → Nat → Nat} (hV : SV S) {p q : Nat} (hp : p < 3) (hq : q < 3) : apN S p q ≤ 2376 := smN_le (c := 99) 24 (fun h hh => by have := offN_lt (mdS_lt hV hp hh) (mdS_lt hV hq hh); omega)
theorem x_apart {S : Nat → Nat → Nat} {I : Nat → Nat → Int32} {P : Nat → Txt} (hX : RX S I P σ) (hV : SV S) {p q : Nat} (hp : p < 3) (hq : q < 3) : X_apart (nI p) (nI q) σ = some (nI (apN S p q), σ) := by
  have key : ∀ m n i, i + m = 24 → m < n → X_apart_L5 n (nI p) (nI q) (nI (smN (fun h => offN (mdS S p h) (mdS S q h)) i)) (nI i) σ = some (nI (apN S p q), σ) := by
    intro m
    induction m with
    | zero =>
      intro n i hi hn
      obtain ⟨n, rfl⟩ : ∃ n', n = n' + 1 := ⟨n - 1, by omega⟩
      unfold X_apart_L5
      have : i = 24 := by omega
      subst this
      rw [if_neg (by decide)]
      rfl
    | succ m ih =>
      intro n i hi hn
      obtain ⟨n, rfl⟩ : ∃ n', n = n' + 1 := ⟨n - 1, by omega⟩
      unfold X_apart_L5
      have l1 := mdS_lt hV hp (show i < 24 by omega)
      have l2 := mdS_lt hV hq (show i < 24 by omega)
      rw [if_pos (show nI i < 24 from nI_lt (b := 24) (by omega) (by decide)), x_mood hX hp (by omega)]
      simp only [Option.bind_some]
      rw [x_mood hX hq (by omega)]
      simp only [Option.bind_some]
      have e : (if 0 ≤ nI (S 0 (24 * p + i)) - nI (S 0 (24 * q + i)) then nI (S 0 (24 * p + i)) - nI (S 0 (24 * q + i)) else 0 - (nI (S 0 (24 * p + i)) - nI (S 0 (24 * q + i)))) = nI (offN (mdS S p i) (mdS S q i)) := by
        unfold mdS at l1 l2 ⊢
        unfold offN
        by_cases c : S 0 (24 * q + i) < S 0 (24 * p + i)
        · rw [if_pos c, na_sub (by omega), if_pos (nI_pos' (by omega))]
        · rw [if_neg c]
          by_cases d : S 0 (24 * q + i) = S 0 (24 * p + i)
          · rw [d, na_sub (Nat.le_refl _), if_pos (nI_pos' (by omega))]
          · have hneg := pk_sneg (a := S 0 (24 * p + i)) (b := S 0 (24 * q + i)) (by omega) (by omega)
            rw [if_neg (Int32.not_le.mpr hneg), Int32.zero_sub, Int32.neg_sub, na_sub (by omega)]
      rw [e, na_add, show nI i + 1 = nI (i + 1) from (nI_succ i).symm]
      exact ih n (i + 1) (by omega) (by omega)
  exact key 24 FU 0 (by omega) (FU_big (by omega))
theorem m_apart {S : Nat → Nat → Nat} {I : Nat → Nat → Int32} {P : Nat → Txt} (hM : RM S I P τ) (hV : SV S) {p q : Nat} (hp : p < 3) (hq : q < 3) : M_apart (nI p) (nI q) τ = some (nI (apN S p q), τ) := by
  have key : ∀ m n i, i + m = 24 → m < n → M_apart_L5 n (nI p) (nI q) (nI (smN (fun h => offN (mdS S p h) (mdS S q h)) i)) (nI i) τ = some (nI (apN S p q), τ) := by
    intro m
    induction m with
    | zero =>
      intro n i hi hn
      obtain ⟨n, rfl⟩ : ∃ n', n = n' + 1 := ⟨n - 1, by omega⟩
      unfold M_apart_L5
      have : i = 24 := by omega
      subst this
      rw [if_neg (by decide)]
      rfl
    | succ m ih =>
      intro n i hi hn
      obtain ⟨n, rfl⟩ : ∃ n', n = n' + 1 := ⟨n - 1, by omega⟩
      unfold M_apart_L5
      have l1 := mdS_lt hV hp (show i < 24 by omega)
      have l2 := mdS_lt hV hq (show i < 24 by omega)
      obtain ⟨ma, mb⟩ := m_mood (h := i) hM hp (by omega)
      obtain ⟨na, nb⟩ := m_mood (h := i) hM hq (by omega)
      rw [if_pos (show nI i < 24 from nI_lt (b := 24) (by omega) (by decide)), ma, if_neg (nI_pos (by omega)), na_cl (by omega), if_neg (by omega), mb, na, if_neg (nI_pos (by omega)), na_cl (by omega), if_neg (by omega), nb]
      have go := ih n (i + 1) (by omega) (by omega)
      have hstep : smN (fun h => offN (mdS S p h) (mdS S q h)) (i + 1) = smN (fun h => offN (mdS S p h) (mdS S q h)) i + offN (mdS S p i) (mdS S q i) := rfl
      rw [hstep] at go
      simp only []
      rw [show nI i + 1 = nI (i + 1) from (nI_succ i).symm]
      unfold offN at go
      unfold offN
      by_cases c : mdS S q i < mdS S p i
      · rw [if_pos c] at go
        rw [na_sub (by omega), if_neg (nI_pos (by omega)), na_add]
        exact go
      · rw [if_neg c] at go
        by_cases d : mdS S q i = mdS S p i
        · rw [d] at go ⊢
          rw [na_sub (Nat.le_refl _), if_neg (nI_pos (by omega)), na_add]
          exact go
        · rw [if_pos (pk_sneg (by omega) (by omega)), Int32.neg_sub, na_sub (by omega), na_add]
          exact go
  exact key 24 FU 0 (by omega) (FU_big (by omega))
/-- which two, and how far -/
def alN (S : Nat → Nat → Nat) : Nat × Nat :=
  let a : Nat × Nat := if apN S 0 2 < apN S 0 1 then (2, apN S 0 2) else (1, apN S 0 1)
  if apN S 1 2 < a.2 then (12, apN S 1 2) else a
theorem x_alike {S : Nat → Nat → Nat} {I : Nat → Nat → Int32} {P : Nat → Txt} (hX : RX S I P σ) (hV : SV S) (b : Bool) : X_alike (b2 b) σ = some (if b = true then nI (alN S).2 else nI (alN S).1, σ) := by
  obtain ⟨m, hm⟩ : ∃ m, FU = m + 5 := ⟨995, FU_eq⟩
  have a01 := apN_le hV (p := 0) (q := 1) (by omega) (by omega)
  have a02 := apN_le hV (p := 0) (q := 2) (by omega) (by omega)
  have a12 := apN_le hV (p := 1) (q := 2) (by omega) (by omega)
  have e01 : X_apart 0 1 σ = _ := x_apart hX hV (p := 0) (q := 1) (by omega) (by omega)
  have e02 : X_apart 0 2 σ = _ := x_apart hX hV (p := 0) (q := 2) (by omega) (by omega)
  have e12 : X_apart 1 2 σ = _ := x_apart hX hV (p := 1) (q := 2) (by omega) (by omega)
  -- a row of others ends
  have r3 : ∀ (k9 : Int32 → Int32 → Int32 → Int32 → Sg → Option (Int32 × Sg)) n v1 v2 v3 v4, X_alike_L21 k9 (n + 1) v1 v2 v3 v4 3 σ = k9 v1 v2 v3 (v4 + 1) σ := fun _ _ _ _ _ _ => rfl
  have st : ∀ (k9 : Int32 → Int32 → Int32 → Int32 → Sg → Option (Int32 × Sg)) n v1 (x : Nat × Nat) (p q : Nat), x.2 < 100000 → p < 3 → q < 3 → X_alike_L21 k9 (n + 1) v1 (nI x.1) (nI x.2) (nI p) (nI q) σ = X_alike_L21 k9 n v1 (nI (if apN S p q < x.2 then (10 * p + q, apN S p q) else x).1) (nI (if apN S p q < x.2 then (10 * p + q, apN S p q) else x).2) (nI p) (nI (q + 1)) σ := by
    intro k9 n v1 x p q hx hp hq
    have := apN_le hV hp hq
    rw [X_alike_L21, if_pos (show nI q < 3 from nI_lt (b := 3) hq (by decide)), x_apart hX hV hp hq]
    simp only [Option.bind_some]
    rw [show nI q + 1 = nI (q + 1) from (nI_succ q).symm]
    by_cases c : apN S p q < x.2
    · rw [if_pos (nI_lt c (by omega)), if_pos c, show (10 : Int32) * nI p + nI q = nI (10 * p + q) by rw [show (10 : Int32) = nI 10 from rfl, na_mul, na_add]]
    · rw [if_neg (nI_nlt (by omega) (by omega)), if_neg c]
  unfold X_alike
  rw [hm]
  have u : ∀ n v1 v2 v3 v4, X_alike_L9 (n + 1) v1 v2 v3 v4 σ = if v4 < 3 then X_alike_L21 (fun y0 y1 y2 y3 τ => X_alike_L9 n y0 y1 y2 y3 τ) FU v1 v2 v3 v4 (v4 + 1) σ else if v1 = 0 then some (v2, σ) else some (v3, σ) := fun _ _ _ _ _ => rfl
  have h0 := st (fun y0 y1 y2 y3 τ => X_alike_L9 (m + 4) y0 y1 y2 y3 τ) (m + 4) (b2 b) (0, 7200) 0 1 (by decide) (by omega) (by omega)
  have c0 : apN S 0 1 < 7200 := by omega
  simp only [if_pos c0] at h0
  have h1 := st (fun y0 y1 y2 y3 τ => X_alike_L9 (m + 4) y0 y1 y2 y3 τ) (m + 3) (b2 b) (1, apN S 0 1) 0 2 (by show apN S 0 1 < 100000; omega) (by omega) (by omega)
  have f1 : ((if apN S 0 2 < apN S 0 1 then ((2 : Nat), apN S 0 2) else (1, apN S 0 1)) : Nat × Nat).2 < 100000 := by split <;> (show _ < 100000) <;> omega
  have h2 := st (fun y0 y1 y2 y3 τ => X_alike_L9 (m + 3) y0 y1 y2 y3 τ) (m + 4) (b2 b) (if apN S 0 2 < apN S 0 1 then ((2 : Nat), apN S 0 2) else (1, apN S 0 1)) 1 2 f1 (by omega) (by omega)
  rw [u, if_pos (by decide), hm, show (0 : Int32) + 1 = nI 1 from rfl, show (7200 : Int32) = nI 7200 from rfl, show (0 : Int32) = nI 0 from rfl, h0]
  rw [h1, show nI (2 + 1) = 3 from rfl, r3]
  rw [u, if_pos (by decide), hm, show nI 0 + 1 + 1 = nI 2 from rfl, show nI 0 + 1 = nI 1 from rfl]
  simp only [Nat.mul_zero, Nat.zero_add] at h2 ⊢
  rw [h2, show nI (2 + 1) = 3 from rfl, r3, u, if_pos (by decide), hm, show nI 1 + 1 + 1 = 3 from rfl, r3, u, if_neg (by decide)]
  unfold alN
  cases b with
  | false => rfl
  | true => rfl
theorem x_useless {S : Nat → Nat → Nat} {I : Nat → Nat → Int32} {P : Nat → Txt} (hX : RX S I P σ) (hV : SV S) (hP : ∀ i, i < S 5 2 → TP (P i)) : wp (X_useless σ) (fun r => r.1 = nI (bsN (fun c => decide (hraS S P c = 0)) (S 5 0)) ∧ Fr EX σ r.2) := by
  obtain ⟨v1, v2, v3, v4⟩ := hV.1
  unfold X_useless
  refine loopW (fun n (s : Int32 × Sg) i => X_useless_L4 n s.1 (nI i) s.2) (fun i s => s.1 = nI (bsN (fun c => decide (hraS S P c = 0)) i) ∧ Fr EX σ s.2) (S 5 0) _ ?_ ?_ 0 ((0 : Int32), σ) FU (Nat.zero_le _) ⟨rfl, Fr.rf⟩ (FU_big (by omega))
  · rintro n i ⟨acc, σ1⟩ hi ⟨e, f⟩ k
    have e : acc = nI (bsN (fun c => decide (hraS S P c = 0)) i) := e
    subst e
    have f : Fr EX σ σ1 := f
    have hX1 : RX S I P σ1 := hX.fr hV (f.mo fun g a j h => EX.nx h)
    show wp (X_useless_L4 (n + 1) (nI _) (nI i) σ1) _
    unfold X_useless_L4
    rw [hX1.1.1, if_pos (nI_lt hi (by omega)), if_neg (nI_pos (by omega)), na_cl (by omega), if_neg (by omega)]
    refine wp_bind (x_hoursAll hX1 hV hP hi) ?_
    rintro ⟨r, σ2⟩ ⟨e2, f2⟩
    have e2 : r = nI (hraS S P i) := e2
    have hr : hraS S P i ≤ 72 := smN_le (c := 24) 3 (fun p _ => ctN_le _ _)
    subst e2
    simp only []
    rw [show nI i + 1 = nI (i + 1) from (nI_succ i).symm]
    by_cases q : hraS S P i = 0
    · rw [if_pos (by rw [q]; rfl), bsN_or _ (by omega)]
      refine k (_, σ2) ⟨?_, f.tr f2⟩
      show nI _ = nI (bsN (fun c => decide (hraS S P c = 0)) i + (if decide (hraS S P i = 0) = true then 2 ^ i else 0))
      rw [if_pos (decide_eq_true q)]
    · rw [if_neg (na_0 (by omega) q)]
      refine k (_, σ2) ⟨?_, f.tr f2⟩
      show nI _ = nI (bsN (fun c => decide (hraS S P c = 0)) i + (if decide (hraS S P i = 0) = true then 2 ^ i else 0))
      rw [if_neg (by simpa using q), Nat.add_zero]
  · rintro n ⟨acc, σ1⟩ ⟨e, f⟩
    have f : Fr EX σ σ1 := f
    show wp (X_useless_L4 (n + 1) acc (nI (S 5 0)) σ1) _
    unfold X_useless_L4
    rw [(hX.fr hV (f.mo fun g a j h => EX.nx h)).1.1, if_neg (nI_nlt (Nat.le_refl _) (by omega))]
    exact wp_some ⟨e, f⟩
/-- the rest of all() in the reference -/
theorem m_all_J {S : Nat → Nat → Nat} {I : Nat → Nat → Int32} {P : Nat → Txt} (hM : RM S I P τ) (hV : SV S) {w : Nat} (hw : w < 3) (v : Int32) : M_all_J55 (nI w) v τ = some (if w = 0 then v else if w = 1 then nI (alN S).1 else nI (alN S).2, τ) := by
  have a01 := apN_le hV (p := 0) (q := 1) (by omega) (by omega)
  have a02 := apN_le hV (p := 0) (q := 2) (by omega) (by omega)
  have a12 := apN_le hV (p := 1) (q := 2) (by omega) (by omega)
  have e01 : M_apart 0 1 τ = some (nI (apN S 0 1), τ) := m_apart hM hV (p := 0) (q := 1) (by omega) (by omega)
  have e02 : M_apart 0 2 τ = some (nI (apN S 0 2), τ) := m_apart hM hV (p := 0) (q := 2) (by omega) (by omega)
  have e12 : M_apart 1 2 τ = some (nI (apN S 1 2), τ) := m_apart hM hV (p := 1) (q := 2) (by omega) (by omega)
  have J97 : ∀ x y z, (x = 1 ∧ y = 0 ∧ z = 1) ∨ (x = 2 ∧ y = 0 ∧ z = 2) ∨ (x = 12 ∧ y = 1 ∧ z = 2) → M_all_J97 (nI w) v (nI x) τ = some (if w = 0 then v else if w = 1 then nI x else nI (apN S y z), τ) := by
    intro x y z h
    unfold M_all_J97
    have hw3 : w = 0 ∨ w = 1 ∨ w = 2 := by omega
    rcases hw3 with q | q | q <;> subst q
    · rfl
    · rfl
    · rw [if_neg (by decide), if_neg (by decide), if_neg (by decide), if_neg (by decide)]
      rcases h with ⟨h1, h2, h3⟩ | ⟨h1, h2, h3⟩ | ⟨h1, h2, h3⟩ <;> subst h1 <;> subst h2 <;> subst h3
      · rw [show nI 1 / 10 = (0 : Int32) from rfl, show nI 1 - 0 * 10 = (1 : Int32) from rfl, e01]; rfl
      · rw [show nI 2 / 10 = (0 : Int32) from rfl, show nI 2 - 0 * 10 = (2 : Int32) from rfl, e02]; rfl
      · rw [show nI 12 / 10 = (1 : Int32) from rfl, show nI 12 - 1 * 10 = (2 : Int32) from rfl, e12]; rfl
  unfold M_all_J55 alN
  simp only [e02, e01, Option.bind_some]
  by_cases c : apN S 0 2 < apN S 0 1
  · rw [if_pos (nI_lt c (by omega))]
    simp only [if_pos c]
    unfold M_all_J75
    simp only [e12, e02, Option.bind_some]
    by_cases d : apN S 1 2 < apN S 0 2
    · rw [if_pos (nI_lt d (by omega))]
      simp only [if_pos d]
      exact J97 12 1 2 (Or.inr (Or.inr ⟨rfl, rfl, rfl⟩))
    · rw [if_neg (nI_nlt (by omega) (by omega))]
      simp only [if_neg d]
      exact J97 2 0 2 (Or.inr (Or.inl ⟨rfl, rfl, rfl⟩))
  · rw [if_neg (nI_nlt (by omega) (by omega))]
    simp only [if_neg c]
    unfold M_all_J75
    simp only [e12, e01, Option.bind_some]
    by_cases d : apN S 1 2 < apN S 0 1
    · rw [if_pos (nI_lt d (by omega))]
      simp only [if_pos d]
      exact J97 12 1 2 (Or.inr (Or.inr ⟨rfl, rfl, rfl⟩))
    · rw [if_neg (nI_nlt (by omega) (by omega))]
      simp only [if_neg d]
      exact J97 1 0 1 (Or.inl ⟨rfl, rfl, rfl⟩)
theorem m_all0 {S : Nat → Nat → Nat} {I : Nat → Nat → Int32} {P : Nat → Txt} (hM : RM S I P τ) (hV : SV S) : wp (M_all_L19 FU 0 0 0 τ) (fun r => r.1 = nI (bsN (fun c => decide (hraS S P c = 0)) (S 5 0)) ∧ Fr SF τ r.2) := by
  obtain ⟨v1, v2, v3, v4⟩ := hV.1
  refine loopW (fun n (s : Int32 × Sg) i => M_all_L19 n 0 s.1 (nI i) s.2) (fun i s => s.1 = nI (bsN (fun c => decide (hraS S P c = 0)) i) ∧ Fr SF τ s.2) (S 5 0) _ ?_ ?_ 0 ((0 : Int32), τ) FU (Nat.zero_le _) ⟨rfl, Fr.rf⟩ (FU_big (by omega))
  · rintro n i ⟨acc, σ1⟩ hi ⟨e, f⟩ k
    have e : acc = nI (bsN (fun c => decide (hraS S P c = 0)) i) := e
    subst e
    have f : Fr SF τ σ1 := f
    have hM1 : RM S I P σ1 := hM.fr (f.mo fun g a j h => SF.nm h)
    show wp (M_all_L19 (n + 1) 0 (nI _) (nI i) σ1) _
    unfold M_all_L19
    rw [hM1.1.1, if_pos (nI_lt hi (by omega)), if_pos rfl]
    refine wp_bind (m_hoursAll hM1 hV hi) ?_
    rintro ⟨r, σ2⟩ ⟨e2, f2⟩
    have e2 : r = nI (hraS S P i) := e2
    have hr : hraS S P i ≤ 72 := smN_le (c := 24) 3 (fun p _ => ctN_le _ _)
    subst e2
    simp only []
    rw [show nI i + 1 = nI (i + 1) from (nI_succ i).symm]
    by_cases q : hraS S P i = 0
    · rw [if_pos (by rw [q]; rfl), bsN_or _ (by omega)]
      refine k (_, σ2) ⟨?_, f.tr f2⟩
      show nI _ = nI (bsN (fun c => decide (hraS S P c = 0)) i + (if decide (hraS S P i = 0) = true then 2 ^ i else 0))
      rw [if_pos (decide_eq_true q)]
    · rw [if_neg (na_0 (by omega) q), zero_shl i (by omega), or_0]
      refine k (_, σ2) ⟨?_, f.tr f2⟩
      show nI _ = nI (bsN (fun c => decide (hraS S P c = 0)) i + (if decide (hraS S P i = 0) = true then 2 ^ i else 0))
      rw [if_neg (by simpa using q), Nat.add_zero]
  · rintro n ⟨acc, σ1⟩ ⟨e, f⟩
    have f : Fr SF τ σ1 := f
    have hM1 : RM S I P σ1 := hM.fr (f.mo fun g a j h => SF.nm h)
    show wp (M_all_L19 (n + 1) 0 acc (nI (S 5 0)) σ1) _
    unfold M_all_L19
    rw [hM1.1.1, if_neg (nI_nlt (Nat.le_refl _) (by omega)), show M_all_J55 0 acc σ1 = _ from m_all_J hM1 hV (w := 0) (by omega) acc]
    exact wp_some ⟨e, f⟩
theorem m_all12 {S : Nat → Nat → Nat} {I : Nat → Nat → Int32} {P : Nat → Txt} (hM : RM S I P τ) (hV : SV S) {w : Nat} (hw : w = 1 ∨ w = 2) : M_all_L19 FU (nI w) 0 0 τ = some (if w = 1 then nI (alN S).1 else nI (alN S).2, τ) := by
  obtain ⟨m, hm⟩ : ∃ m, FU = m + 1 := ⟨999, FU_eq⟩
  have := m_all_J hM hV (w := w) (by omega) 0
  rw [if_neg (by omega)] at this
  rw [hm]
  unfold M_all_L19
  rw [if_neg (na_0 (k := w) (by omega) (by omega)), this]
  split <;> rfl
theorem q_all (hR : Rel σ τ) (p1 : Int32) : CP (X_all p1 σ) (M_all p1 τ) := by
  obtain ⟨S, I, P, hX, hM, hV⟩ := id hR
  have ma : M_all p1 τ = if b2 (irB p1 3) = 0 then some (-2, τ) else M_all_L19 FU p1 0 0 τ := by
    unfold M_all
    rw [M_in_l p1 2 (by omega)]
    rfl
  cases hv : irB p1 3 with
  | false =>
    refine CP_eq (o1' := some (-2, σ)) (o2' := some (-2, τ)) ?_ ?_ (CP_same hR _)
    · have ne : ∀ n, n < 3 → ¬ p1 = nI n := by
        intro n hn e
        rw [e, irB_n (by omega) (by omega), decide_eq_true hn] at hv
        cases hv
      unfold X_all
      rw [if_neg (show ¬ p1 = 0 from ne 0 (by omega)), if_neg (show ¬ p1 = 1 from ne 1 (by omega)), if_neg (show ¬ p1 = 2 from ne 2 (by omega))]
    · rw [ma, hv]; rfl
  | true =>
    obtain ⟨w, hw, rfl⟩ := irB_t (by omega) hv
    rw [hv, if_neg (show ¬ b2 true = 0 by decide)] at ma
    have h : w = 0 ∨ w = 1 ∨ w = 2 := by omega
    unfold X_all
    simp only [eta2]
    rw [ma]
    rcases h with q | q | q <;> subst q
    · rw [if_pos (by decide)]
      exact CP_ev hX hM hV (x_useless hX hV hM.tp) (m_all0 hM hV)
    · rw [m_all12 hM hV (Or.inl rfl), if_neg (by decide), if_pos (by decide), show X_alike 0 σ = _ from x_alike hX hV false]
      exact CP_same hR _
    · rw [m_all12 hM hV (Or.inr rfl), if_neg (by decide), if_neg (by decide), if_pos (by decide), show X_alike 1 σ = _ from x_alike hX hV true]
      exact CP_same hR _
end
