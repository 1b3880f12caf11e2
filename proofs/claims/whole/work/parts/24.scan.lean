/-! the class's scanning of its tape -/
def HB (b : Nat → Int32) (sz : Nat) (σ : Sg) : Prop := σ 6 0 4 = nI sz ∧ ∀ p, p < sz → σ 7 0 p = b p
/-- what scanning may write -/
def SL : Nat → Nat → Nat → Prop := fun g _ j => (g = 6 ∧ (j = 5 ∨ j = 6)) ∨ g = 8 ∨ g = 9 ∨ g = 10
theorem HB.fr {b : Nat → Int32} {sz : Nat} {S : Nat → Nat → Nat → Prop} {σ σ' : Sg} (h : HB b sz σ) (f : Fr S σ σ') (h1 : ¬ S 6 0 4) (h2 : ∀ p, ¬ S 7 0 p) : HB b sz σ' := ⟨by rw [f _ _ _ h1]; exact h.1, fun p hp => by rw [f _ _ _ (h2 p)]; exact h.2 p hp⟩
theorem HB.sl {b : Nat → Int32} {sz : Nat} {σ σ' : Sg} (h : HB b sz σ) (f : Fr SL σ σ') : HB b sz σ' := h.fr f (by unfold SL; omega) (fun p => by unfold SL; omega)
theorem s_byteAt {b : Nat → Int32} {sz p : Nat} {σ : Sg} (hb : ByteOK b sz) (h : HB b sz σ) (hp : p < 2147483648) : Tape_byteAt (nI p) σ = some (b p, σ) := by
  have h160 := hb.1
  unfold Tape_byteAt
  simp (disch := omega) only [h.1, na_li, na_lt, na_cl, Nat.not_lt_zero, if_false]
  by_cases q : p < sz
  · rw [if_pos q, if_pos (by omega), if_neg (by omega), h.2 p q]
  · rw [if_neg q, hb.2.1 p (by omega)]; rfl
theorem s_isBlank (x : Int32) (σ : Sg) : Tape_isBlank x σ = some (if blankB x then 1 else 0, σ) := by
  unfold Tape_isBlank
  by_cases h : x = 32
  · subst h; rfl
  · rw [if_neg h]
    by_cases h2 : x = 10
    · subst h2; rfl
    · rw [if_neg h2]; simp [blankB, h, h2]
theorem s_isLetter (x : Int32) (σ : Sg) : Tape_isLetter x σ = some (if letB x then 1 else 0, σ) := by
  unfold Tape_isLetter letB
  by_cases h : x < 97
  · simp [h]
  · by_cases h2 : 122 < x <;> simp [h, h2]
theorem s_isDigit (x : Int32) (σ : Sg) : Tape_isDigit x σ = some (if digB x then 1 else 0, σ) := by
  unfold Tape_isDigit digB
  by_cases h : x < 48
  · simp [h]
  · by_cases h2 : 57 < x <;> simp [h, h2]
theorem ifc {α : Type} {x c : Int32} {A B R : α} (h1 : x = c → A = R) (h2 : ¬ x = c → B = R) : (if x = c then A else B) = R := by
  by_cases h : x = c
  · rw [if_pos h]; exact h1 h
  · rw [if_neg h]; exact h2 h
theorem s_isSign (x : Int32) (σ : Sg) : Tape_isSign x σ = some (if signB x then 1 else 0, σ) := by
  unfold Tape_isSign
  refine ifc (fun h => by subst h; rfl) (fun h40 => ?_)
  refine ifc (fun h => by subst h; rfl) (fun h41 => ?_)
  refine ifc (fun h => by subst h; rfl) (fun h42 => ?_)
  refine ifc (fun h => by subst h; rfl) (fun h43 => ?_)
  refine ifc (fun h => by subst h; rfl) (fun h44 => ?_)
  refine ifc (fun h => by subst h; rfl) (fun h45 => ?_)
  refine ifc (fun h => by subst h; rfl) (fun h46 => ?_)
  refine ifc (fun h => by subst h; rfl) (fun h47 => ?_)
  refine ifc (fun h => by subst h; rfl) (fun h48 => ?_)
  refine ifc (fun h => by subst h; rfl) (fun h49 => ?_)
  refine ifc (fun h => by subst h; rfl) (fun h50 => ?_)
  refine ifc (fun h => by subst h; rfl) (fun h51 => ?_)
  refine ifc (fun h => by subst h; rfl) (fun h52 => ?_)
  refine ifc (fun h => by subst h; rfl) (fun h53 => ?_)
  refine ifc (fun h => by subst h; rfl) (fun h54 => ?_)
  refine ifc (fun h => by subst h; rfl) (fun h55 => ?_)
  refine ifc (fun h => by subst h; rfl) (fun h56 => ?_)
  refine ifc (fun h => by subst h; rfl) (fun h57 => ?_)
  refine ifc (fun h => by subst h; rfl) (fun h58 => ?_)
  refine ifc (fun h => by subst h; rfl) (fun h59 => ?_)
  refine ifc (fun h => by subst h; rfl) (fun h60 => ?_)
  refine ifc (fun h => by subst h; rfl) (fun h61 => ?_)
  simp [signB, *]
theorem b01 (c : Bool) : ((if c = true then (1 : Int32) else 0) = 0) = (c = false) := by cases c <;> simp
/-- what a number's reading writes -/
def S1 (i : Nat) : Nat → Nat → Nat → Prop := fun g _ j => (g = 6 ∧ j = 5) ∨ (g = 10 ∧ j = i)
theorem S1.sl {i g a j : Nat} (h : S1 i g a j) : SL g a j := by unfold S1 at h; unfold SL; omega
theorem s_scanNum_L {b : Nat → Int32} {sz i : Nat} (hb : ByteOK b sz) (hi : i < 161) : ∀ m n j p σ, HB b sz σ → σ 6 0 5 = nI p → p ≤ sz → j + m = 160 → m < n →
    wp (Tape_scanNumber_L4 n (nI i) (nI j) (nI j) σ) (fun r => r.1 = (if 4 < j + (ru digB b m p - p) then 1 else 2) ∧ r.2 6 0 5 = nI (ru digB b m p) ∧ r.2 10 0 i = nuS b (4 - j) p (σ 10 0 i) ∧ Fr (S1 i) σ r.2) := by
  intro m
  induction m with
  | zero =>
    intro n j p σ hB hp hps hj hn
    obtain ⟨n, rfl⟩ : ∃ n', n = n' + 1 := ⟨n - 1, by omega⟩
    unfold Tape_scanNumber_L4
    have e : j = 160 := by omega
    subst e
    simp (disch := omega) only [na_li, na_lt]
    rw [if_neg (by omega), if_pos (by omega)]
    refine wp_some ⟨?_, hp, rfl, Fr.rf⟩
    rw [if_pos (by omega)]
  | succ m ih =>
    intro n j p σ hB hp hps hj hn
    obtain ⟨n, rfl⟩ : ∃ n', n = n' + 1 := ⟨n - 1, by omega⟩
    have h160 := hb.1
    unfold Tape_scanNumber_L4
    rw [hp, s_byteAt hb hB (by omega)]
    simp only [Option.bind_some, s_isDigit]
    rw [if_pos (show nI j < 160 from nI_lt (b := 160) (by omega) (by decide))]
    simp only [b01]
    by_cases hd : digB (b p) = true
    · have hlt : p < sz := Nat.lt_of_not_le fun e => by rw [hb.2.1 p e] at hd; revert hd; decide
      rw [if_neg (by rw [hd]; decide)]
      have hr : ru digB b (m + 1) p = ru digB b m (p + 1) := by show (if digB (b p) then _ else _) = _; rw [if_pos hd]
      have hg := ru_ge digB b m (p + 1)
      have fin : ∀ σ6, HB b sz σ6 → σ6 6 0 5 = nI (p + 1) → σ6 10 0 i = nuS b 1 p (σ 10 0 i) → Fr (S1 i) σ σ6 → j < 4 → wp (Tape_scanNumber_L4 n (nI i) (nI j + 1) (nI j + 1) σ6) (fun r => r.1 = (if 4 < j + (ru digB b (m + 1) p - p) then 1 else 2) ∧ r.2 6 0 5 = nI (ru digB b (m + 1) p) ∧ r.2 10 0 i = nuS b (4 - j) p (σ 10 0 i) ∧ Fr (S1 i) σ r.2) := by
        intro σ6 h1 h2 h3 h4 h5
        rw [← nI_succ]
        refine wp_mono (ih n (j + 1) (p + 1) σ6 h1 h2 (by omega) (by omega) (by omega)) ?_
        rintro ⟨r, σ7⟩ ⟨k1, k2, k3, k4⟩
        refine ⟨?_, by rw [hr]; exact k2, ?_, h4.tr k4⟩
        · show r = _
          rw [show r = _ from k1, hr]
          have : (4 < j + 1 + (ru digB b m (p + 1) - (p + 1))) = (4 < j + (ru digB b m (p + 1) - p)) := propext (by omega)
          simp only [this]
        · show σ7 10 0 i = _
          rw [show σ7 10 0 i = _ from k3, h3, show 4 - j = (4 - (j + 1)) + 1 by omega]
          simp only [nuS, hd, if_true]
      by_cases hj4 : j < 4
      · rw [if_pos (show nI j < 4 from nI_lt (b := 4) hj4 (by decide)), if_neg (nI_pos (by omega)), na_cl (by omega), if_neg (by omega)]
        rw [hp, s_byteAt hb hB (by omega)]
        simp only [Option.bind_some]
        rw [if_neg (nI_pos (by omega)), if_neg (by omega)]
        refine fin _ ?_ ?_ ?_ ?_ hj4
        · exact ⟨by simp [upd3]; exact hB.1, fun q hq => by simp [upd3]; exact hB.2 q hq⟩
        · simp [upd3, hp, nI_succ]
        · simp [upd3, nuS, hd]
        · exact (Fr.rf.up (by unfold S1; omega)).up (by unfold S1; omega)
      · rw [if_neg (show ¬ nI j < 4 from nI_nlt (b := 4) (by omega) (by omega))]
        rw [← nI_succ]
        refine wp_mono (ih n (j + 1) (p + 1) _ ?_ ?_ (by omega) (by omega) (by omega)) ?_
        · exact ⟨by simp [upd3]; exact hB.1, fun q hq => by simp [upd3]; exact hB.2 q hq⟩
        · simp [upd3, hp, nI_succ]
        · rintro ⟨r, σ7⟩ ⟨k1, k2, k3, k4⟩
          refine ⟨?_, by rw [hr]; exact k2, ?_, Fr.tr (Fr.rf.up (by unfold S1; omega)) k4⟩
          · show r = _
            rw [show r = _ from k1, hr]
            have : (4 < j + 1 + (ru digB b m (p + 1) - (p + 1))) = (4 < j + (ru digB b m (p + 1) - p)) := propext (by omega)
            simp only [this]
          · show σ7 10 0 i = _
            rw [show σ7 10 0 i = _ from k3, show 4 - j = 0 by omega, show 4 - (j + 1) = 0 by omega]
            simp [nuS, upd3]
    · have hd2 : digB (b p) = false := by simpa using hd
      rw [if_pos hd2]
      have hr : ru digB b (m + 1) p = p := by show (if digB (b p) then _ else _) = _; rw [if_neg hd]
      have hnu : nuS b (4 - j) p (σ 10 0 i) = σ 10 0 i := by
        cases h4 : 4 - j with
        | zero => rfl
        | succ k => simp only [nuS, hd2]; rfl
      rw [hr, hnu, Nat.sub_self, Nat.add_zero]
      by_cases h4 : 4 < j
      · rw [if_pos (show 4 < nI j from nI_lt (a := 4) h4 (by omega)), if_pos h4]
        exact wp_some ⟨rfl, hp, rfl, Fr.rf⟩
      · rw [if_neg (show ¬ 4 < nI j from nI_nlt (a := 4) (by omega) (by decide)), if_neg h4]
        exact wp_some ⟨rfl, hp, rfl, Fr.rf⟩
theorem s_isWord_L {b : Nat → Int32} {sz p w : Nat} {σ : Sg} (hb : ByteOK b sz) (hB : HB b sz σ) (hp : p ≤ 1000) (hw : (ab_word w).length ≤ 8) : ∀ m n j, j + m = (ab_word w).length → m < n → Tape_isWord_L17 n (nI p) w (nI j) σ = some (if (∀ i, i < (ab_word w).length → j ≤ i → b (p + i) = nI (ab_nth 0 (ab_word w) i)) then 1 else 0, σ) := by
  intro m
  induction m with
  | zero =>
    intro n j hj hn
    obtain ⟨n, rfl⟩ : ∃ n', n = n' + 1 := ⟨n - 1, by omega⟩
    unfold Tape_isWord_L17
    rw [if_neg (show ¬ nI j < Int32.ofNat (ab_word w).length from nI_nlt (b := (ab_word w).length) (by omega) (by omega)), if_pos (fun i h1 h2 => absurd h1 (by omega))]
  | succ m ih =>
    intro n j hj hn
    obtain ⟨n, rfl⟩ : ∃ n', n = n' + 1 := ⟨n - 1, by omega⟩
    unfold Tape_isWord_L17
    rw [if_pos (show nI j < Int32.ofNat (ab_word w).length from nI_lt (b := (ab_word w).length) (by omega) (by omega)), na_add, s_byteAt hb hB (by omega)]
    simp only [Option.bind_some]
    rw [if_neg (nI_pos (by omega)), na_cl (by omega), if_neg (by omega)]
    by_cases e : b (p + j) = nI (ab_nth 0 (ab_word w) j)
    · rw [if_pos (show b (p + j) = Int32.ofNat _ from e), ← nI_succ, ih n (j + 1) (by omega) (by omega)]
      have : (∀ i, i < (ab_word w).length → j + 1 ≤ i → b (p + i) = nI (ab_nth 0 (ab_word w) i)) = (∀ i, i < (ab_word w).length → j ≤ i → b (p + i) = nI (ab_nth 0 (ab_word w) i)) := propext ⟨fun h i h2 h1 => by
        by_cases q : i = j
        · rw [q]; exact e
        · exact h i h2 (by omega), fun h i h2 h1 => h i h2 (by omega)⟩
      simp only [this]
    · rw [if_neg (show ¬ b (p + j) = Int32.ofNat _ from e), if_neg (fun h => e (h j (by omega) (Nat.le_refl _)))]
theorem s_isWord {b : Nat → Int32} {sz p q w : Nat} {σ : Sg} (hb : ByteOK b sz) (hB : HB b sz σ) (hq : σ 6 0 5 = nI q) (hpq : p ≤ q) (hqs : q ≤ 1000) (hw : w < 12) : Tape_isWord (nI p) w σ = some (if wordI b p q w then 1 else 0, σ) := by
  have hl : (ab_word w).length ≤ 8 := by revert hw; revert w; decide
  unfold Tape_isWord
  rw [hq, na_sub hpq]
  by_cases e : q = p + (ab_word w).length
  · rw [if_pos (by show nI _ = nI _; rw [e]; congr 1; omega), show (0 : Int32) = nI 0 from rfl, s_isWord_L hb hB (by omega) hl (ab_word w).length FU 0 (by omega) (by rw [FU_eq]; omega)]
    have : (∀ i, i < (ab_word w).length → 0 ≤ i → b (p + i) = nI (ab_nth 0 (ab_word w) i)) = wordI b p q w := propext ⟨fun h => ⟨e, fun i hi => h i hi (Nat.zero_le _)⟩, fun h i hi _ => h.2 i hi⟩
    simp only [this]
    rfl
  · rw [if_neg (by
      show ¬ nI _ = nI _
      rw [na_eq (by omega) (by omega)]
      omega), if_neg (fun h => e h.1)]
theorem wsr_t {b : Nat → Int32} {p q k : Nat} {r : List Nat} (h : wordI b p q k) : wsr b p q (k :: r) = cd k := if_pos h
theorem wsr_f {b : Nat → Int32} {p q k : Nat} {r : List Nat} (h : ¬ wordI b p q k) : wsr b p q (k :: r) = wsr b p q r := if_neg h
theorem s_scanWord_J {b : Nat → Int32} {sz p q : Nat} {σ : Sg} (hb : ByteOK b sz) (hB : HB b sz σ) (hq : σ 6 0 5 = nI q) (hpq : p ≤ q) (hqs : q ≤ 1000) : Tape_scanWord_J39 (nI p) σ = some (wcode b p q, σ) := by
  unfold Tape_scanWord_J39 wcode
  rw [s_isWord hb hB hq hpq hqs (show 0 < 12 by decide)]
  by_cases h0 : wordI b p q 0
  · rw [if_pos h0, wsr_t h0]; rfl
  rw [if_neg h0, wsr_f h0]
  simp only [Option.bind_some, if_true]
  rw [s_isWord hb hB hq hpq hqs (show 1 < 12 by decide)]
  by_cases h1 : wordI b p q 1
  · rw [if_pos h1, wsr_t h1]; rfl
  rw [if_neg h1, wsr_f h1]
  simp only [Option.bind_some, if_true]
  rw [s_isWord hb hB hq hpq hqs (show 2 < 12 by decide)]
  by_cases h2 : wordI b p q 2
  · rw [if_pos h2, wsr_t h2]; rfl
  rw [if_neg h2, wsr_f h2]
  simp only [Option.bind_some, if_true]
  rw [s_isWord hb hB hq hpq hqs (show 3 < 12 by decide)]
  by_cases h3 : wordI b p q 3
  · rw [if_pos h3, wsr_t h3]; rfl
  rw [if_neg h3, wsr_f h3]
  simp only [Option.bind_some, if_true]
  rw [s_isWord hb hB hq hpq hqs (show 4 < 12 by decide)]
  by_cases h4 : wordI b p q 4
  · rw [if_pos h4, wsr_t h4]; rfl
  rw [if_neg h4, wsr_f h4]
  simp only [Option.bind_some, if_true]
  rw [s_isWord hb hB hq hpq hqs (show 5 < 12 by decide)]
  by_cases h5 : wordI b p q 5
  · rw [if_pos h5, wsr_t h5]; rfl
  rw [if_neg h5, wsr_f h5]
  simp only [Option.bind_some, if_true]
  rw [s_isWord hb hB hq hpq hqs (show 6 < 12 by decide)]
  by_cases h6 : wordI b p q 6
  · rw [if_pos h6, wsr_t h6]; rfl
  rw [if_neg h6, wsr_f h6]
  simp only [Option.bind_some, if_true]
  rw [s_isWord hb hB hq hpq hqs (show 7 < 12 by decide)]
  by_cases h7 : wordI b p q 7
  · rw [if_pos h7, wsr_t h7]; rfl
  rw [if_neg h7, wsr_f h7]
  simp only [Option.bind_some, if_true]
  rw [s_isWord hb hB hq hpq hqs (show 8 < 12 by decide)]
  by_cases h8 : wordI b p q 8
  · rw [if_pos h8, wsr_t h8]; rfl
  rw [if_neg h8, wsr_f h8]
  simp only [Option.bind_some, if_true]
  rw [s_isWord hb hB hq hpq hqs (show 9 < 12 by decide)]
  by_cases h9 : wordI b p q 9
  · rw [if_pos h9, wsr_t h9]; rfl
  rw [if_neg h9, wsr_f h9]
  simp only [Option.bind_some, if_true]
  rw [s_isWord hb hB hq hpq hqs (show 10 < 12 by decide)]
  by_cases h10 : wordI b p q 10
  · rw [if_pos h10, wsr_t h10]; rfl
  rw [if_neg h10, wsr_f h10]
  simp only [Option.bind_some, if_true]
  rw [s_isWord hb hB hq hpq hqs (show 11 < 12 by decide)]
  by_cases h11 : wordI b p q 11
  · rw [if_pos h11, wsr_t h11]; rfl
  rw [if_neg h11, wsr_f h11]
  simp only [Option.bind_some, if_true]
  rfl
theorem s_scanWord_L {b : Nat → Int32} {sz p0 : Nat} (hb : ByteOK b sz) : ∀ m n j p σ, HB b sz σ → σ 6 0 5 = nI p → p0 ≤ p → p ≤ sz → j + m = 160 → m < n → wp (Tape_scanWord_L2 n (nI p0) (nI j) σ) (fun r => r.1 = wcode b p0 (ru letB b m p) ∧ r.2 6 0 5 = nI (ru letB b m p) ∧ Fr (fun g _ j => g = 6 ∧ j = 5) σ r.2) := by
  intro m
  induction m with
  | zero =>
    intro n j p σ hB hp hpp hps hj hn
    obtain ⟨n, rfl⟩ : ∃ n', n = n' + 1 := ⟨n - 1, by omega⟩
    have h160 := hb.1
    unfold Tape_scanWord_L2
    have e : j = 160 := by omega
    subst e
    rw [if_neg (by decide), s_scanWord_J hb hB hp hpp (by omega)]
    exact wp_some ⟨rfl, hp, Fr.rf⟩
  | succ m ih =>
    intro n j p σ hB hp hpp hps hj hn
    obtain ⟨n, rfl⟩ : ∃ n', n = n' + 1 := ⟨n - 1, by omega⟩
    have h160 := hb.1
    unfold Tape_scanWord_L2
    rw [if_pos (show nI j < 160 from nI_lt (b := 160) (by omega) (by decide)), hp, s_byteAt hb hB (by omega)]
    simp only [Option.bind_some, s_isLetter, b01]
    by_cases hd : letB (b p) = true
    · have hlt : p < sz := Nat.lt_of_not_le fun e => by rw [hb.2.1 p e] at hd; revert hd; decide
      rw [if_neg (by rw [hd]; decide)]
      have hr : ru letB b (m + 1) p = ru letB b m (p + 1) := by show (if letB (b p) then _ else _) = _; rw [if_pos hd]
      rw [← nI_succ, hr]
      refine wp_mono (ih n (j + 1) (p + 1) _ ?_ ?_ (by omega) (by omega) (by omega) (by omega)) ?_
      · exact ⟨by simp [upd3]; exact hB.1, fun q hq => by simp [upd3]; exact hB.2 q hq⟩
      · simp [upd3, hp, nI_succ]
      · rintro ⟨r, σ7⟩ ⟨k1, k2, k3⟩
        exact ⟨k1, k2, Fr.tr (Fr.rf.up (by omega)) k3⟩
    · have hd2 : letB (b p) = false := by simpa using hd
      rw [if_pos hd2]
      have hr : ru letB b (m + 1) p = p := by show (if letB (b p) then _ else _) = _; rw [if_neg hd]
      rw [hr, s_scanWord_J hb hB hp hpp (by omega)]
      exact wp_some ⟨rfl, hp, Fr.rf⟩
theorem s_scanOne {b : Nat → Int32} {sz p i : Nat} {σ : Sg} (hb : ByteOK b sz) (hB : HB b sz σ) (hp : σ 6 0 5 = nI p) (hps : p ≤ sz) (hi : i < 161) (h0 : σ 10 0 i = 0) : wp (Tape_scanOne (nI i) σ) (fun r => r.1 = tok b p ∧ r.2 6 0 5 = nI (nxt b p) ∧ (tok b p = 2 → r.2 10 0 i = nuS b 4 p 0) ∧ Fr (S1 i) σ r.2) := by
  have h160 := hb.1
  have cne : ∀ k, k < 12 → cd k ≠ 2 := by decide
  unfold Tape_scanOne
  rw [hp, s_byteAt hb hB (by omega)]
  simp only [Option.bind_some, s_isLetter, s_isDigit, s_isSign, b01]
  unfold tok nxt
  by_cases hn : b p < 0
  · simp only [if_pos hn]
    exact wp_some ⟨rfl, hp, fun h => absurd h (by decide), Fr.rf⟩
  · simp only [if_neg hn]
    by_cases hl : letB (b p) = true
    · rw [if_neg (by rw [hl]; decide)]
      simp only [if_pos hl]
      rw [hp]
      refine wp_bind (s_scanWord_L hb 160 FU 0 p σ hB hp (Nat.le_refl _) hps (by omega) (by rw [FU_eq]; omega)) ?_
      rintro ⟨r, σ7⟩ ⟨k1, k2, k3⟩
      refine wp_some ⟨k1, k2, fun h => ?_, k3.mo (fun g a j q => by unfold S1; omega)⟩
      exfalso
      rcases wcode_or b p (ru letB b 160 p) with e | ⟨k, hk, e⟩
      · rw [e] at h; revert h; decide
      · rw [e] at h; exact cne k hk h
    · have hl2 : letB (b p) = false := by simpa using hl
      rw [if_pos hl2]
      simp only [if_neg hl]
      by_cases hd : digB (b p) = true
      · rw [if_neg (by rw [hd]; decide)]
        simp only [if_pos hd]
        refine wp_bind (s_scanNum_L hb hi 160 FU 0 p σ hB hp hps (by omega) (by rw [FU_eq]; omega)) ?_
        rintro ⟨r, σ7⟩ ⟨k1, k2, k3, k4⟩
        refine wp_some ⟨?_, k2, fun _ => ?_, k4⟩
        · show r = _
          rw [show r = _ from k1, Nat.zero_add]
        · show σ7 10 0 i = _
          rw [show σ7 10 0 i = _ from k3, h0]
      · have hd2 : digB (b p) = false := by simpa using hd
        rw [if_pos hd2]
        simp only [if_neg hd]
        have fr : Fr (S1 i) σ (upd3 σ 6 0 5 (nI p + 1)) := Fr.rf.up (by unfold S1; omega)
        have hv : upd3 σ 6 0 5 (nI p + 1) 6 0 5 = nI (p + 1) := by rw [u3s, nI_succ]
        by_cases hs : signB (b p) = true
        · rw [if_neg (by rw [hs]; decide), hp]
          simp only [if_pos hs]
          exact wp_some ⟨rfl, hv, fun h => absurd hs (by rw [h]; decide), fr⟩
        · have hs2 : signB (b p) = false := by simpa using hs
          rw [if_pos hs2, hp]
          simp only [if_neg hs]
          exact wp_some ⟨rfl, hv, fun h => absurd h (by decide), fr⟩
/-- the tape's tokens, all scanned -/
def TokX (b : Nat → Int32) (sz N : Nat) (σ : Sg) : Prop := HB b sz σ ∧ σ 6 0 6 = nI N ∧ 0 < N ∧ N ≤ 161 ∧ tk b (N - 1) = 0 ∧ ∀ i, i < N → σ 8 0 i = tk b i ∧ σ 9 0 i = nI (ps b i) ∧ (tk b i = 2 → σ 10 0 i = nu b i)
/-- the first i of them -/
def TokI (b : Nat → Int32) (i : Nat) (σ : Sg) : Prop := σ 6 0 6 = nI i ∧ ∀ k, k < i → tk b k ≠ 0 ∧ σ 8 0 k = tk b k ∧ σ 9 0 k = nI (ps b k) ∧ (tk b k = 2 → σ 10 0 k = nu b k)
theorem s_scan_J {b : Nat → Int32} {sz i : Nat} {k12 : Int32 → Sg → Option Sg} {σ0 : Sg} (hb : ByteOK b sz) (hi : i < 161)
    (hk : ∀ σ1, HB b sz σ1 → TokI b (i + 1) σ1 → σ1 6 0 5 = nI (nxt b (ps b i)) → Fr SL σ0 σ1 → wp (k12 (nI (i + 1)) σ1) (fun σ' => (∃ N, TokX b sz N σ') ∧ Fr SL σ0 σ')) {σ : Sg} (hB : HB b sz σ) (hT : TokI b i σ) (hp : σ 6 0 5 = nI (ps b i)) (hf : Fr SL σ0 σ) : wp (Tape_scan_J58 k12 (nI i) σ) (fun σ' => (∃ N, TokX b sz N σ') ∧ Fr SL σ0 σ') := by
  unfold Tape_scan_J58
  simp only [na_cl (show i < 2147483648 by omega), if_neg (nI_pos (show i < 2147483648 by omega)), if_neg (show ¬ 161 ≤ i by omega)]
  refine wp_bind (s_scanOne (p := ps b i) (sz := sz) hb ?_ ?_ (ps_le hb i) hi ?_) ?_
  · exact ⟨by simp [upd3]; exact hB.1, fun q hq => by simp [upd3]; exact hB.2 q hq⟩
  · simp [upd3]; exact hp
  · simp [upd3]
  · rintro ⟨r, σ3⟩ ⟨k1, k2, k3, k4⟩
    have k1 : r = tok b (ps b i) := k1
    have k2 : σ3 6 0 5 = nI (nxt b (ps b i)) := k2
    have k4 : Fr (S1 i) _ σ3 := k4
    simp only [u3s]
    have f3 : Fr SL σ0 σ3 := ((hf.up (by unfold SL; omega)).up (by unfold SL; omega)).tr (k4.mo fun g a j h => S1.sl h)
    have f5 : Fr SL σ0 (upd3 (upd3 σ3 8 0 i r) 6 0 6 (upd3 σ3 8 0 i r 6 0 6 + 1)) := (f3.up (by unfold SL; omega)).up (by unfold SL; omega)
    have c6 : σ3 6 0 6 = nI i := by rw [k4 _ _ _ (by unfold S1; omega)]; simp [upd3]; exact hT.1
    have c9 : σ3 9 0 i = nI (ps b i) := by rw [k4 _ _ _ (by unfold S1; omega)]; simp [upd3]; exact hp
    have old : ∀ k, k < i → σ3 8 0 k = σ 8 0 k ∧ σ3 9 0 k = σ 9 0 k ∧ σ3 10 0 k = σ 10 0 k := fun k hk => by
      have hne : ¬ k = i := by omega
      refine ⟨?_, ?_, ?_⟩
      · rw [k4 _ _ _ (by unfold S1; omega)]; simp [upd3]
      · rw [k4 _ _ _ (by unfold S1; omega)]; simp [upd3, hne]
      · rw [k4 _ _ _ (by unfold S1; omega)]; simp [upd3, hne]
    have e8 : upd3 (upd3 σ3 8 0 i r) 6 0 6 (upd3 σ3 8 0 i r 6 0 6 + 1) 8 0 i = tk b i := by simp [upd3]; exact k1
    have eall : ∀ k, k < i + 1 → upd3 (upd3 σ3 8 0 i r) 6 0 6 (upd3 σ3 8 0 i r 6 0 6 + 1) 8 0 k = tk b k ∧ upd3 (upd3 σ3 8 0 i r) 6 0 6 (upd3 σ3 8 0 i r 6 0 6 + 1) 9 0 k = nI (ps b k) ∧ (tk b k = 2 → upd3 (upd3 σ3 8 0 i r) 6 0 6 (upd3 σ3 8 0 i r 6 0 6 + 1) 10 0 k = nu b k) := by
      intro k hk
      by_cases e : k = i
      · subst e
        refine ⟨e8, ?_, fun h => ?_⟩
        · simp [upd3]; exact c9
        · simp [upd3]; exact k3 h
      · have hl : k < i := by omega
        obtain ⟨o1, o2, o3⟩ := old k hl
        obtain ⟨t0, t1, t2, t3⟩ := hT.2 k hl
        refine ⟨?_, ?_, fun h => ?_⟩
        · simp [upd3, e]; rw [o1]; exact t1
        · simp [upd3]; rw [o2]; exact t2
        · simp [upd3]; rw [o3]; exact t3 h
    have em : upd3 (upd3 σ3 8 0 i r) 6 0 6 (upd3 σ3 8 0 i r 6 0 6 + 1) 6 0 6 = nI (i + 1) := by rw [u3s, u3n _ _ _ _ _ (by omega), c6, nI_succ]
    have hB5 : HB b sz (upd3 (upd3 σ3 8 0 i r) 6 0 6 (upd3 σ3 8 0 i r 6 0 6 + 1)) := by
      refine ⟨?_, fun q hq => ?_⟩
      · simp [upd3]; rw [k4 _ _ _ (by unfold S1; omega)]; simp [upd3]; exact hB.1
      · simp [upd3]; rw [k4 _ _ _ (by unfold S1; omega)]; simp [upd3]; exact hB.2 q hq
    rw [e8]
    by_cases hz : tk b i = 0
    · rw [if_pos hz]
      exact wp_some ⟨⟨i + 1, hB5, em, by omega, by omega, hz, eall⟩, f5⟩
    · rw [if_neg hz, ← nI_succ]
      refine hk _ hB5 ⟨em, fun k hk => ⟨?_, eall k hk⟩⟩ ?_ f5
      · by_cases e : k = i
        · rw [e]; exact hz
        · exact (hT.2 k (by omega)).1
      · simp [upd3]; exact k2
theorem s_scan_L21 {b : Nat → Int32} {sz i : Nat} {k12 : Int32 → Sg → Option Sg} {σ0 : Sg} (hb : ByteOK b sz) (hi : i < 161)
    (hk : ∀ σ1, HB b sz σ1 → TokI b (i + 1) σ1 → σ1 6 0 5 = nI (nxt b (ps b i)) → Fr SL σ0 σ1 → wp (k12 (nI (i + 1)) σ1) (fun σ' => (∃ N, TokX b sz N σ') ∧ Fr SL σ0 σ')) : ∀ m n j p σ, HB b sz σ → TokI b i σ → σ 6 0 5 = nI p → p ≤ sz → ps b i = ru blankB b m p → Fr SL σ0 σ → j + m = 160 → m < n → wp (Tape_scan_L21 k12 n (nI i) (nI j) σ) (fun σ' => (∃ N, TokX b sz N σ') ∧ Fr SL σ0 σ') := by
  intro m
  induction m with
  | zero =>
    intro n j p σ hB hT hp hps he hf hj hn
    obtain ⟨n, rfl⟩ : ∃ n', n = n' + 1 := ⟨n - 1, by omega⟩
    unfold Tape_scan_L21
    have e : j = 160 := by omega
    subst e
    rw [if_neg (by decide)]
    exact s_scan_J hb hi hk hB hT (by rw [hp, he]; rfl) hf
  | succ m ih =>
    intro n j p σ hB hT hp hps he hf hj hn
    obtain ⟨n, rfl⟩ : ∃ n', n = n' + 1 := ⟨n - 1, by omega⟩
    have h160 := hb.1
    unfold Tape_scan_L21
    rw [if_pos (show nI j < 160 from nI_lt (b := 160) (by omega) (by decide)), hp, s_byteAt hb hB (by omega)]
    simp only [Option.bind_some, s_isBlank, b01]
    by_cases hd : blankB (b p) = true
    · have hlt : p < sz := Nat.lt_of_not_le fun e => by rw [hb.2.1 p e] at hd; revert hd; decide
      have hr : ru blankB b (m + 1) p = ru blankB b m (p + 1) := by show (if blankB (b p) then _ else _) = _; rw [if_pos hd]
      rw [if_neg (by rw [hd]; decide), ← nI_succ]
      refine ih n (j + 1) (p + 1) _ ?_ ?_ ?_ (by omega) (by rw [he, hr]) (hf.up (by unfold SL; omega)) (by omega) (by omega)
      · exact ⟨by simp [upd3]; exact hB.1, fun q hq => by simp [upd3]; exact hB.2 q hq⟩
      · exact ⟨by simp [upd3]; exact hT.1, fun k hk => by simp [upd3]; exact hT.2 k hk⟩
      · simp [upd3, hp, nI_succ]
    · have hd2 : blankB (b p) = false := by simpa using hd
      have hr : ru blankB b (m + 1) p = p := by show (if blankB (b p) then _ else _) = _; rw [if_neg hd]
      rw [if_pos hd2]
      exact s_scan_J hb hi hk hB hT (by rw [hp, he, hr]) hf
theorem s_scan_L12 {b : Nat → Int32} {sz : Nat} {σ0 : Sg} (hb : ByteOK b sz) : ∀ m n i p σ, i + m = 160 → m < n → HB b sz σ → TokI b i σ → σ 6 0 5 = nI p → p ≤ sz → ps b i = nbl b p → Fr SL σ0 σ → wp (Tape_scan_L12 n (nI i) σ) (fun σ' => (∃ N, TokX b sz N σ') ∧ Fr SL σ0 σ') := by
  intro m
  induction m with
  | zero =>
    intro n i p σ hm hn hB hT hp hps he hf
    obtain ⟨n, rfl⟩ : ∃ n', n = n' + 1 := ⟨n - 1, by omega⟩
    have e : i = 160 := by omega
    subst e
    unfold Tape_scan_L12
    rw [if_neg (by decide)]
    refine s_scan_L21 hb (by omega) ?_ 160 FU 0 p σ hB hT hp hps he hf (by omega) (by rw [FU_eq]; omega)
    intro σ1 h1 h2 h3 h4
    exact absurd (tk_lt hb (h2.2 160 (by omega)).1) (by omega)
  | succ m ih =>
    intro n i p σ hm hn hB hT hp hps he hf
    obtain ⟨n, rfl⟩ : ∃ n', n = n' + 1 := ⟨n - 1, by omega⟩
    unfold Tape_scan_L12
    rw [if_neg (show ¬ (160 : Int32) < nI i from nI_nlt (a := 160) (by omega) (by decide))]
    refine s_scan_L21 hb (by omega) ?_ 160 FU 0 p σ hB hT hp hps he hf (by omega) (by rw [FU_eq]; omega)
    intro σ1 h1 h2 h3 h4
    refine ih n (i + 1) _ σ1 (by omega) (by omega) h1 h2 h3 ?_ rfl h4
    have hz := (h2.2 i (by omega)).1
    have h5 := tk_nz hz
    have hlt : ps b i < sz := Nat.lt_of_not_le fun e => h5 (by rw [hb.2.1 _ e]; decide)
    unfold nxt
    rw [if_neg h5]
    split
    · exact ru_le (b_no hb (by decide)) 160 _ (ps_le hb i)
    · split
      · exact ru_le (b_no hb (by decide)) 160 _ (ps_le hb i)
      · exact hlt
theorem s_scan {b : Nat → Int32} {sz : Nat} {σ : Sg} (hb : ByteOK b sz) (hB : HB b sz σ) : wp (Tape_scan σ) (fun σ' => (∃ N, TokX b sz N σ') ∧ Fr SL σ σ') := by
  unfold Tape_scan
  refine s_scan_L12 (σ0 := σ) hb 160 FU 0 0 _ (by omega) (by rw [FU_eq]; omega) ?_ ?_ ?_ (Nat.zero_le _) rfl ((Fr.rf.up (by unfold SL; omega)).up (by unfold SL; omega))
  · exact ⟨by simp [upd3]; exact hB.1, fun q hq => by simp [upd3]; exact hB.2 q hq⟩
  · exact ⟨by rw [u3s]; rfl, fun k hk => absurd hk (Nat.not_lt_zero _)⟩
  · rw [u3n _ _ _ _ _ (by omega), u3s]; rfl
theorem s_token {b : Nat → Int32} {sz N a : Nat} {σ : Sg} (hb : ByteOK b sz) (h : TokX b sz N σ) (ha : a < 2147483648) : Tape_token (nI a) σ = some (tk b a, σ) := by
  obtain ⟨hB, h1, h2, h3, h4, h5⟩ := h
  unfold Tape_token
  simp (disch := omega) only [h1, na_li, na_lt, na_cl, Nat.not_lt_zero, if_false]
  by_cases q : a < N
  · rw [if_pos q, if_neg (by omega), if_neg (by omega), (h5 a q).1]
  · have := (tk_end hb h4 (a - (N - 1))).1
    rw [show N - 1 + (a - (N - 1)) = a by omega] at this
    rw [if_neg q, this]; rfl
theorem s_place {b : Nat → Int32} {sz N a : Nat} {σ : Sg} (hb : ByteOK b sz) (h : TokX b sz N σ) (ha : a < 2147483648) : Tape_place (nI a) σ = some (nI (ps b a), σ) := by
  obtain ⟨hB, h1, h2, h3, h4, h5⟩ := h
  unfold Tape_place
  simp (disch := omega) only [h1, na_li, na_lt, na_cl, Nat.not_lt_zero, if_false]
  by_cases q : a < N
  · rw [if_pos q, if_neg (by omega), if_neg (by omega), (h5 a q).2.1]
  · have := (tk_end hb h4 (a - (N - 1))).2
    rw [show N - 1 + (a - (N - 1)) = a by omega] at this
    rw [if_neg q, this, hB.1]
theorem s_number {b : Nat → Int32} {sz N a : Nat} {σ : Sg} (hb : ByteOK b sz) (h : TokX b sz N σ) (ha : a < 2147483648) (h2 : tk b a = 2) : Tape_number (nI a) σ = some (nu b a, σ) := by
  have hl := tk_lt hb (i := a) (by rw [h2]; decide)
  obtain ⟨hB, h1, _, h3, h4, h5⟩ := h
  have q : a < N := Nat.lt_of_not_le fun q => by
    have := (tk_end hb h4 (a - (N - 1))).1
    rw [show N - 1 + (a - (N - 1)) = a by omega, h2] at this
    revert this; decide
  unfold Tape_number
  simp (disch := omega) only [h1, na_li, na_lt, na_cl, Nat.not_lt_zero, if_false]
  rw [if_pos q, if_neg (by omega), if_neg (by omega), (h5 a q).2.2 h2]
