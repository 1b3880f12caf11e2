/-! the reference's tokens, one by one -/
def MB (b : Nat → Int32) (sz t : Nat) (σ : Sg) : Prop := σ 30 0 17 = nI (160 * t) ∧ σ 30 0 18 = nI sz ∧ t < 6 ∧ ∀ p, p < sz → σ 31 0 (160 * t + p) = b p
/-- the fields of reading -/
def SM : Nat → Nat → Nat → Prop := fun g _ j => g = 30 ∧ 19 ≤ j ∧ j ≤ 25
def SN : Nat → Nat → Nat → Prop := fun g _ j => g = 30 ∧ 19 ≤ j ∧ j ≤ 22
theorem SN.sm {g a j : Nat} (h : SN g a j) : SM g a j := by unfold SN at h; unfold SM; omega
theorem MB.fr {b : Nat → Int32} {sz t : Nat} {σ σ' : Sg} (h : MB b sz t σ) (f : Fr SM σ σ') : MB b sz t σ' := ⟨by rw [f _ _ _ (by unfold SM; omega)]; exact h.1, by rw [f _ _ _ (by unfold SM; omega)]; exact h.2.1, h.2.2.1, fun p hp => by rw [f _ _ _ (by unfold SM; omega)]; exact h.2.2.2 p hp⟩
theorem s_mbyteAt {b : Nat → Int32} {sz t p : Nat} {σ : Sg} (hb : ByteOK b sz) (h : MB b sz t σ) (hp : p < 2147483648) : M_byteAt (nI p) σ = some (b p, σ) := by
  have h160 := hb.1
  have h6 := h.2.2.1
  unfold M_byteAt
  rw [h.2.1, h.1, na_add]
  by_cases q : p < sz
  · rw [if_pos (nI_lt q (by omega)), if_neg (nI_pos (by omega)), na_cl (by omega), if_neg (by omega), h.2.2.2 p q]
  · rw [if_neg (nI_nlt (by omega) (by omega)), hb.2.1 p (by omega)]
theorem s_inLet (x : Int32) (σ : Sg) : M_in x.toInt64 97 122 σ = some (if letB x then 1 else 0, σ) := by
  rw [show (97 : Int64) = (97 : Int32).toInt64 from rfl, show (122 : Int64) = (122 : Int32).toInt64 from rfl, s_M_in]
  unfold letB
  by_cases h : x < 97
  · simp [h]
  · by_cases h2 : 122 < x <;> simp [h, h2]
theorem s_inDig (x : Int32) (σ : Sg) : M_in x.toInt64 48 57 σ = some (if digB x then 1 else 0, σ) := by
  rw [show (48 : Int64) = (48 : Int32).toInt64 from rfl, show (57 : Int64) = (57 : Int32).toInt64 from rfl, s_M_in]
  unfold digB
  by_cases h : x < 48
  · simp [h]
  · by_cases h2 : 57 < x <;> simp [h, h2]
theorem ifs8 {α : Type} (x : Int32) (A B : α) : (if x = 40 then A else if x = 41 then A else if x = 59 then A else if x = 43 then A else if x = 45 then A else if x = 42 then A else if x = 60 then A else if x = 61 then A else B) = if signB x = true then A else B := by
  refine ifc (fun h => by subst h; rfl) (fun h1 => ?_)
  refine ifc (fun h => by subst h; rfl) (fun h2 => ?_)
  refine ifc (fun h => by subst h; rfl) (fun h3 => ?_)
  refine ifc (fun h => by subst h; rfl) (fun h4 => ?_)
  refine ifc (fun h => by subst h; rfl) (fun h5 => ?_)
  refine ifc (fun h => by subst h; rfl) (fun h6 => ?_)
  refine ifc (fun h => by subst h; rfl) (fun h7 => ?_)
  refine ifc (fun h => by subst h; rfl) (fun h8 => ?_)
  simp [signB, *]
theorem digB_n {x : Int32} (h : digB x = true) : ∃ c, 48 ≤ c ∧ c < 58 ∧ x = nI c := by
  unfold digB at h
  simp only [Bool.and_eq_true, decide_eq_true_eq] at h
  rcases na_or x with q | ⟨n, hn, rfl⟩
  · exact absurd (na_neg_lt q (n := 48) (by omega)) h.1
  · refine ⟨n, ?_, ?_, rfl⟩
    · exact Nat.le_of_not_lt fun q => h.1 (nI_lt (b := 48) q (by decide))
    · exact Nat.lt_of_not_le fun q => h.2 (nI_lt (a := 57) (by omega) (by omega))
theorem s_Mnext_L100 {b : Nat → Int32} {sz t : Nat} (hb : ByteOK b sz) : ∀ m n p σ, MB b sz t σ → σ 30 0 19 = nI p → p ≤ sz → sz ≤ p + m → m < n → wp (M_next_L100 n σ) (fun σ' => σ' 30 0 19 = nI (ru letB b m p) ∧ Fr (fun g a j => g = 30 ∧ j = 19) σ σ') := by
  intro m
  induction m with
  | zero =>
    intro n p σ hM hp hps hm hn
    obtain ⟨n, rfl⟩ : ∃ n', n = n' + 1 := ⟨n - 1, by omega⟩
    have h160 := hb.1
    unfold M_next_L100
    rw [hp, s_mbyteAt hb hM (by omega), hb.2.1 p (by omega)]
    simp only [Option.bind_some, s_inLet, b01]
    rw [if_pos (show letB (-1) = false by decide)]
    exact wp_some ⟨hp, Fr.rf⟩
  | succ m ih =>
    intro n p σ hM hp hps hm hn
    obtain ⟨n, rfl⟩ : ∃ n', n = n' + 1 := ⟨n - 1, by omega⟩
    have h160 := hb.1
    unfold M_next_L100
    rw [hp, s_mbyteAt hb hM (by omega)]
    simp only [Option.bind_some, s_inLet, b01]
    by_cases hd : letB (b p) = true
    · have hlt : p < sz := Nat.lt_of_not_le fun e => by rw [hb.2.1 p e] at hd; revert hd; decide
      have hr : ru letB b (m + 1) p = ru letB b m (p + 1) := by show (if letB (b p) then _ else _) = _; rw [if_pos hd]
      rw [if_neg (by rw [hd]; decide), hp, ← nI_succ, hr]
      refine wp_mono (ih n (p + 1) _ (hM.fr (Fr.rf.up (by unfold SM; omega))) (u3s _ _ _ _ _) (by omega) (by omega) (by omega)) ?_
      rintro σ' ⟨h1, h2⟩
      exact ⟨h1, (Fr.rf.up ⟨rfl, rfl⟩).tr h2⟩
    · have hd2 : letB (b p) = false := by simpa using hd
      have hr : ru letB b (m + 1) p = p := by show (if letB (b p) then _ else _) = _; rw [if_neg hd]
      rw [if_pos hd2, hr]
      exact wp_some ⟨hp, Fr.rf⟩
theorem ii64 (x : Int32) : x.toInt64.toInt32.toInt64 = x.toInt64 := by rw [lg_l2i_i2l]
theorem n64 {k c : Nat} (hk : k < 100000) (hc : c < 58) (hc2 : 48 ≤ c) : ((10 : Int64) * (nI k).toInt64 + (nI c).toInt64) - (48 : Int64) = (nI (10 * k + c - 48)).toInt64 := by
  rw [nI_l (by omega), nI_l (by omega), nI_l (by omega), show (10 : Int64) = lN 10 from rfl, show (48 : Int64) = lN 48 from rfl, lN_mul, lN_add, lN_sub (by omega)]
theorem n32 {k c : Nat} (hc2 : 48 ≤ c) : 10 * nI k + nI c - 48 = nI (10 * k + c - 48) := by
  rw [show (10 : Int32) = nI 10 from rfl, show (48 : Int32) = nI 48 from rfl, na_mul, na_add, na_sub (by omega)]
theorem s_Mnext_L160 {b : Nat → Int32} {sz t : Nat} (hb : ByteOK b sz) : ∀ m n p d k σ, MB b sz t σ → σ 30 0 19 = nI p → p ≤ sz → sz ≤ p + m → m < n → d + m ≤ 1000 → σ 30 0 22 = nI k → (k + 1 ≤ 10 ^ d ∨ 4 ≤ d) → wp (M_next_L160 n (nI d) σ) (fun σ' => σ' 30 0 19 = nI (ru digB b m p) ∧ σ' 30 0 22 = nuS b (4 - d) p (nI k) ∧ σ' 30 0 20 = (if 4 < d + (ru digB b m p - p) then 4 else 2) ∧ Fr (fun g a j => g = 30 ∧ (j = 19 ∨ j = 20 ∨ j = 22)) σ σ') := by
  intro m
  have stop : ∀ n p d k σ, MB b sz t σ → σ 30 0 19 = nI p → p ≤ sz → d ≤ 1000 → σ 30 0 22 = nI k → digB (b p) = false → wp (M_next_L160 (n + 1) (nI d) σ) (fun σ' => σ' 30 0 19 = nI p ∧ σ' 30 0 22 = nI k ∧ σ' 30 0 20 = (if 4 < d then 4 else 2) ∧ Fr (fun g a j => g = 30 ∧ (j = 19 ∨ j = 20 ∨ j = 22)) σ σ') := by
    intro n p d k σ hM hp hps hd hk hn
    have h160 := hb.1
    unfold M_next_L160
    rw [hp, s_mbyteAt hb hM (by omega)]
    simp only [Option.bind_some, s_inDig, b01]
    rw [if_pos hn]
    by_cases h4 : 4 < d
    · rw [if_pos (show 4 < nI d from nI_lt (a := 4) h4 (by omega)), if_pos h4]
      exact wp_some ⟨(u3n _ _ _ _ _ (by omega)).trans hp, (u3n _ _ _ _ _ (by omega)).trans hk, u3s _ _ _ _ _, Fr.rf.up (by omega)⟩
    · rw [if_neg (show ¬ 4 < nI d from nI_nlt (a := 4) (by omega) (by decide)), if_neg h4]
      exact wp_some ⟨(u3n _ _ _ _ _ (by omega)).trans hp, (u3n _ _ _ _ _ (by omega)).trans hk, u3s _ _ _ _ _, Fr.rf.up (by omega)⟩
  have nu0 : ∀ d p x, digB (b p) = false → nuS b d p x = x := by
    intro d p x h
    cases d with
    | zero => rfl
    | succ d => simp only [nuS, h]; rfl
  induction m with
  | zero =>
    intro n p d k σ hM hp hps hm hn hdm hk hk2
    obtain ⟨n, rfl⟩ : ∃ n', n = n' + 1 := ⟨n - 1, by omega⟩
    have hn0 : digB (b p) = false := by rw [hb.2.1 p (by omega)]; decide
    rw [nu0 _ _ _ hn0]
    have hr0 : ru digB b 0 p = p := rfl
    rw [hr0, Nat.sub_self, Nat.add_zero]
    exact stop n p d k σ hM hp hps (by omega) hk hn0
  | succ m ih =>
    intro n p d k σ hM hp hps hm hn hdm hk hk2
    obtain ⟨n, rfl⟩ : ∃ n', n = n' + 1 := ⟨n - 1, by omega⟩
    have h160 := hb.1
    by_cases hd : digB (b p) = true
    · have hlt : p < sz := Nat.lt_of_not_le fun e => by rw [hb.2.1 p e] at hd; revert hd; decide
      have hr : ru digB b (m + 1) p = ru digB b m (p + 1) := by show (if digB (b p) then _ else _) = _; rw [if_pos hd]
      have hg := ru_ge digB b m (p + 1)
      obtain ⟨c, hc1, hc2, hc⟩ := digB_n hd
      have ec : (4 < d + 1 + (ru digB b m (p + 1) - (p + 1))) = (4 < d + (ru digB b m (p + 1) - p)) := propext (by omega)
      unfold M_next_L160
      rw [hp, s_mbyteAt hb hM (by omega)]
      simp only [Option.bind_some, s_inDig, b01]
      rw [if_neg (by rw [hd]; decide), hp, hr]
      by_cases hd4 : d < 4
      · rw [if_pos (show nI d < 4 from nI_lt (b := 4) hd4 (by decide)), s_mbyteAt hb hM (by omega)]
        simp only [Option.bind_some]
        have hpow : 10 ^ d ≤ 10 ^ 3 := Nat.pow_le_pow_right (by omega) (by omega)
        have hpow2 : 10 ^ (d + 1) = 10 ^ d * 10 := Nat.pow_succ 10 d
        have hk1 : k + 1 ≤ 10 ^ d := hk2.resolve_right (by omega)
        have hk3 : k < 100000 := by omega
        rw [hk, hc, n64 hk3 hc2 hc1, lg_l2i_i2l, if_pos rfl, u3n _ _ _ _ _ (by omega), hp, ← nI_succ, ← nI_succ]
        refine wp_mono (ih n (p + 1) (d + 1) (10 * k + c - 48) _ (hM.fr ((Fr.rf.up (by unfold SM; omega)).up (by unfold SM; omega))) (u3s _ _ _ _ _) (by omega) (by omega) (by omega) (by omega) (by rw [u3n _ _ _ _ _ (by omega), u3s]) (Or.inl (by omega))) ?_
        rintro σ' ⟨h1, h2, h3, h4⟩
        refine ⟨h1, ?_, ?_, ((Fr.rf.up (by omega)).up (by omega)).tr h4⟩
        · rw [h2, show 4 - d = (4 - (d + 1)) + 1 by omega]
          simp only [nuS, hd, if_true]
          rw [hc, n32 hc1]
        · rw [h3]; simp only [ec]
      · rw [if_neg (show ¬ nI d < 4 from nI_nlt (b := 4) (by omega) (by omega)), if_pos (ii64 _), lg_l2i_i2l, hk, u3n _ _ _ _ _ (by omega), hp, ← nI_succ, ← nI_succ]
        refine wp_mono (ih n (p + 1) (d + 1) k _ (hM.fr ((Fr.rf.up (by unfold SM; omega)).up (by unfold SM; omega))) (u3s _ _ _ _ _) (by omega) (by omega) (by omega) (by omega) (by rw [u3n _ _ _ _ _ (by omega), u3s]) (Or.inr (by omega))) ?_
        rintro σ' ⟨h1, h2, h3, h4⟩
        refine ⟨h1, ?_, ?_, ((Fr.rf.up (by omega)).up (by omega)).tr h4⟩
        · rw [h2, show 4 - d = 0 by omega, show 4 - (d + 1) = 0 by omega]; rfl
        · rw [h3]; simp only [ec]
    · have hd2 : digB (b p) = false := by simpa using hd
      have hr : ru digB b (m + 1) p = p := by show (if digB (b p) then _ else _) = _; rw [if_neg hd]
      rw [hr, nu0 _ _ _ hd2, Nat.sub_self, Nat.add_zero]
      exact stop n p d k σ hM hp hps (by omega) hk hd2
/-- the token at hand is token a -/
def KT (b : Nat → Int32) (a : Nat) (σ : Sg) : Prop :=
  if b (ps b a) < 0 then σ 30 0 20 = 0 else if letB (b (ps b a)) then σ 30 0 20 = 1 ∧ σ 30 0 19 = nI (nxt b (ps b a))
  else if digB (b (ps b a)) then σ 30 0 20 = (if 4 < ru digB b 160 (ps b a) - ps b a then 4 else 2) ∧ σ 30 0 19 = nI (nxt b (ps b a)) ∧ σ 30 0 22 = nu b a
  else if signB (b (ps b a)) then σ 30 0 20 = 3 ∧ σ 30 0 19 = nI (nxt b (ps b a)) ∧ σ 30 0 22 = b (ps b a) else σ 30 0 20 = 4
theorem s_Mnext_L0 {b : Nat → Int32} {sz t a : Nat} {σ0 : Sg} (hb : ByteOK b sz) : ∀ m n p σ, MB b sz t σ → σ 30 0 19 = nI p → p ≤ sz → sz ≤ p + m → m < n → ps b a = ru blankB b m p → Fr SN σ0 σ → wp (M_next_L0 n σ) (fun σ' => σ' 30 0 21 = nI (ps b a) ∧ KT b a σ' ∧ Fr SN σ0 σ') := by
  have stop : ∀ n p σ, MB b sz t σ → σ 30 0 19 = nI p → p ≤ sz → ps b a = p → Fr SN σ0 σ → blankB (b p) = false → wp (M_next_L0 (n + 1) σ) (fun σ' => σ' 30 0 21 = nI (ps b a) ∧ KT b a σ' ∧ Fr SN σ0 σ') := by
    intro n p σ hM hp hps he hf hbl
    have h160 := hb.1
    have hbl2 : ¬ b p = 32 ∧ ¬ b p = 10 := by
      refine ⟨fun h => ?_, fun h => ?_⟩ <;> (rw [h] at hbl; revert hbl; decide)
    unfold M_next_L0
    rw [hp, s_mbyteAt hb hM (by omega)]
    simp only [Option.bind_some]
    rw [if_neg hbl2.1, hp, s_mbyteAt hb hM (by omega)]
    simp only [Option.bind_some]
    rw [if_neg hbl2.2, hp, u3n _ _ _ _ _ (by omega), hp, s_mbyteAt hb (hM.fr (Fr.rf.up (by unfold SM; omega))) (by omega)]
    simp only [Option.bind_some, ifs8, s_inLet, s_inDig, b01]
    unfold KT
    rw [he]
    have f2 : Fr SN σ0 (upd3 (upd3 σ 30 0 21 (nI p)) 30 0 20 4) := (hf.up (by unfold SN; omega)).up (by unfold SN; omega)
    have M2 : MB b sz t (upd3 (upd3 σ 30 0 21 (nI p)) 30 0 20 4) := hM.fr ((Fr.rf.up (by unfold SM; omega)).up (by unfold SM; omega))
    have c21 : upd3 (upd3 σ 30 0 21 (nI p)) 30 0 20 4 30 0 21 = nI p := by rw [u3n _ _ _ _ _ (by omega), u3s]
    have c19 : upd3 (upd3 σ 30 0 21 (nI p)) 30 0 20 4 30 0 19 = nI p := by rw [u3n _ _ _ _ _ (by omega), u3n _ _ _ _ _ (by omega)]; exact hp
    have c20 : upd3 (upd3 σ 30 0 21 (nI p)) 30 0 20 4 30 0 20 = 4 := u3s _ _ _ _ _
    revert f2 M2 c21 c19 c20
    generalize upd3 (upd3 σ 30 0 21 (nI p)) 30 0 20 4 = σ2
    intro f2 M2 c21 c19 c20
    by_cases hn : b p < 0
    · simp only [if_pos hn]
      have hsz : p = sz := Nat.le_antisymm hps (Nat.le_of_not_lt fun q => by
        obtain ⟨k, hk, e⟩ := hb.2.2 p q
        rw [e] at hn
        exact nI_pos (by omega) hn)
      refine wp_some ⟨?_, ?_, (f2.up (by unfold SN; omega)).up (by unfold SN; omega)⟩
      · rw [u3s, u3n _ _ _ _ _ (by omega), M2.2.1, hsz]
      · rw [u3n _ _ _ _ _ (by omega), u3s]
    · simp only [if_neg hn]
      by_cases hl : letB (b p) = true
      · rw [if_neg (by rw [hl]; decide)]
        simp only [if_pos hl]
        refine wp_mono (s_Mnext_L100 hb 160 FU p _ (M2.fr (Fr.rf.up (by unfold SM; omega))) (by rw [u3n _ _ _ _ _ (by omega)]; exact c19) hps (by omega) (by rw [FU_eq]; omega)) ?_
        rintro σ' ⟨h1, h2⟩
        refine ⟨?_, ⟨?_, ?_⟩, (f2.up (by unfold SN; omega)).tr (h2.mo fun g a j h => by unfold SN; omega)⟩
        · rw [h2 _ _ _ (by omega), u3n _ _ _ _ _ (by omega)]; exact c21
        · rw [h2 _ _ _ (by omega), u3s]
        · rw [h1]
          unfold nxt
          rw [if_neg hn, if_pos hl]
      · have hl2 : letB (b p) = false := by simpa using hl
        rw [if_pos hl2]
        simp only [if_neg hl]
        by_cases hd : digB (b p) = true
        · rw [if_neg (by rw [hd]; decide)]
          simp only [if_pos hd]
          refine wp_mono (s_Mnext_L160 hb 160 FU p 0 0 _ (M2.fr ((Fr.rf.up (by unfold SM; omega)).up (by unfold SM; omega))) (by rw [u3n _ _ _ _ _ (by omega), u3n _ _ _ _ _ (by omega)]; exact c19) hps (by omega) (by rw [FU_eq]; omega) (by omega) (by rw [u3s]; rfl) (Or.inl (by decide))) ?_
          rintro σ' ⟨h1, h2, h3, h4⟩
          refine ⟨?_, ⟨?_, ?_, ?_⟩, ((f2.up (by unfold SN; omega)).up (by unfold SN; omega)).tr (h4.mo fun g a j h => by unfold SN; omega)⟩
          · rw [h4 _ _ _ (by omega), u3n _ _ _ _ _ (by omega), u3n _ _ _ _ _ (by omega)]; exact c21
          · rw [h3, Nat.zero_add]
          · rw [h1]
            unfold nxt
            rw [if_neg hn, if_neg hl, if_pos hd]
          · rw [h2]
            unfold nu
            rw [he]; rfl
        · have hd2 : digB (b p) = false := by simpa using hd
          rw [if_pos hd2]
          simp only [if_neg hd]
          by_cases hs : signB (b p) = true
          · simp only [if_pos hs]
            unfold M_next_J300
            rw [if_pos (ii64 _), lg_l2i_i2l]
            refine wp_some ⟨?_, ⟨?_, ?_, ?_⟩, ((f2.up (by unfold SN; omega)).up (by unfold SN; omega)).up (by unfold SN; omega)⟩
            · rw [u3n _ _ _ _ _ (by omega), u3n _ _ _ _ _ (by omega), u3n _ _ _ _ _ (by omega)]; exact c21
            · rw [u3n _ _ _ _ _ (by omega), u3n _ _ _ _ _ (by omega), u3s]
            · rw [u3s, u3n _ _ _ _ _ (by omega), u3n _ _ _ _ _ (by omega), c19]
              unfold nxt
              rw [if_neg hn, if_neg hl, if_neg hd, nI_succ]
            · rw [u3n _ _ _ _ _ (by omega), u3s]
          · simp only [if_neg hs]
            exact wp_some ⟨c21, c20, f2⟩
  intro m
  induction m with
  | zero =>
    intro n p σ hM hp hps hm hn he hf
    obtain ⟨n, rfl⟩ : ∃ n', n = n' + 1 := ⟨n - 1, by omega⟩
    exact stop n p σ hM hp hps he hf (by rw [hb.2.1 p (by omega)]; decide)
  | succ m ih =>
    intro n p σ hM hp hps hm hn he hf
    obtain ⟨n, rfl⟩ : ∃ n', n = n' + 1 := ⟨n - 1, by omega⟩
    have h160 := hb.1
    by_cases hd : blankB (b p) = true
    · have hlt : p < sz := Nat.lt_of_not_le fun e => by rw [hb.2.1 p e] at hd; revert hd; decide
      have hr : ru blankB b (m + 1) p = ru blankB b m (p + 1) := by show (if blankB (b p) then _ else _) = _; rw [if_pos hd]
      have go := ih n (p + 1) (upd3 σ 30 0 19 (nI (p + 1))) (hM.fr (Fr.rf.up (by unfold SM; omega))) (u3s _ _ _ _ _) (by omega) (by omega) (by omega) (by rw [he, hr]) (hf.up (by unfold SN; omega))
      unfold M_next_L0
      rw [hp, s_mbyteAt hb hM (by omega)]
      simp only [Option.bind_some]
      rw [hp, s_mbyteAt hb hM (by omega)]
      simp only [Option.bind_some]
      by_cases h32 : b p = 32
      · rw [if_pos h32, ← nI_succ]; exact go
      · have h10 : b p = 10 := by
          unfold blankB at hd
          simp only [Bool.or_eq_true, beq_iff_eq] at hd
          exact hd.resolve_left h32
        rw [if_neg h32, if_pos h10, hp, ← nI_succ]; exact go
    · have hd2 : blankB (b p) = false := by simpa using hd
      have hr : ru blankB b (m + 1) p = p := by show (if blankB (b p) then _ else _) = _; rw [if_neg hd]
      exact stop n p σ hM hp hps (by rw [he, hr]) hf hd2
theorem s_Mnext {b : Nat → Int32} {sz t a q : Nat} {σ : Sg} (hb : ByteOK b sz) (hM : MB b sz t σ) (hq : σ 30 0 19 = nI q) (hqs : q ≤ sz) (he : ps b a = nbl b q) : wp (M_next σ) (fun σ' => σ' 30 0 21 = nI (ps b a) ∧ KT b a σ' ∧ Fr SN σ σ') :=
  s_Mnext_L0 hb 160 FU q σ hM hq hqs (by have := hb.1; omega) (by rw [FU_eq]; omega) he Fr.rf
