/-! the state that both sides hold -/
def X1 (S : Nat → Nat → Nat) (σ : Sg) : Prop := σ 0 0 2 = nI (S 5 0) ∧ σ 0 0 6 = nI (S 5 1) ∧ σ 0 0 5 = nI (S 5 2) ∧ σ 6 0 4 = nI (S 5 3)
def X2 (S : Nat → Nat → Nat) (σ : Sg) : Prop := ∀ k, k < 72 → σ 23 0 k = nI (S 0 k)
def X3 (S : Nat → Nat → Nat) (σ : Sg) : Prop := ∀ c, c < S 5 0 → CT (S 1 c) (S 2 c) (S 3 c) (S 4 c) c σ
def X4 (S : Nat → Nat → Nat) (σ : Sg) : Prop := ∀ k, k < S 5 3 → σ 7 0 k = nI (S 6 k)
def X5 (S : Nat → Nat → Nat) (I : Nat → Nat → Int32) (σ : Sg) : Prop := ∀ s, s < 4 → σ 12 s 1 = (if S 7 s = 0 then -1 else nI (S 7 s - 1)) ∧ (S 7 s ≠ 0 → σ 12 s 2 = nI (S 8 s) ∧ ∀ j, j < S 8 s → σ 13 s j = I s j)
def X6 (S : Nat → Nat → Nat) (σ : Sg) : Prop := (S 5 4 = 0 → σ 20 0 2 = -1) ∧ (S 5 4 ≠ 0 → σ 20 0 2 = nI (S 5 5) ∧ σ 20 0 3 = nI (S 5 6) ∧ (∀ k, k < 72 → σ 21 0 k = nI (S 9 k)) ∧ ∀ c, c < S 5 5 → CT (S 1 c) (S 10 c) (S 11 c) (S 12 c) (9 + c) σ)
def X7 (S : Nat → Nat → Nat) (P : Nat → Txt) (σ : Sg) : Prop := ∀ i, i < S 5 2 → TX (P i) i σ
/-- the class's side -/
def RX (S : Nat → Nat → Nat) (I : Nat → Nat → Int32) (P : Nat → Txt) (σ : Sg) : Prop := X1 S σ ∧ X2 S σ ∧ X3 S σ ∧ X4 S σ ∧ X5 S I σ ∧ X6 S σ ∧ X7 S P σ
def M1 (S : Nat → Nat → Nat) (τ : Sg) : Prop := τ 30 0 10 = nI (S 5 0) ∧ τ 30 0 4 = nI (S 5 1) ∧ τ 30 0 3 = nI (S 5 2) ∧ τ 30 0 6 = nI (S 5 3)
def M2 (S : Nat → Nat → Nat) (τ : Sg) : Prop := ∀ k, k < 72 → τ 34 0 k = nI (S 0 k)
def M3 (S : Nat → Nat → Nat) (τ : Sg) : Prop := ∀ c, c < S 5 0 → CM (S 1 c) (S 2 c) (S 3 c) (S 4 c) c τ
def M4 (S : Nat → Nat → Nat) (τ : Sg) : Prop := ∀ k, k < S 5 3 → τ 33 0 k = nI (S 6 k)
def M5 (S : Nat → Nat → Nat) (I : Nat → Nat → Int32) (τ : Sg) : Prop := ∀ s, s < 4 → τ 47 0 s = (if S 7 s = 0 then 0 else 1) ∧ (S 7 s ≠ 0 → τ 48 0 s = nI (S 7 s - 1) ∧ τ 49 0 s = nI (S 8 s) ∧ ∀ j, j < S 8 s → τ 50 0 (40 * s + j) = I s j)
def M6 (S : Nat → Nat → Nat) (τ : Sg) : Prop := (S 5 4 = 0 → τ 30 0 36 = -1) ∧ (S 5 4 ≠ 0 → τ 30 0 36 = nI (S 5 5) ∧ τ 30 0 37 = nI (S 5 6) ∧ (∀ k, k < 72 → τ 45 0 k = nI (S 9 k)) ∧ ∀ c, c < S 5 5 → τ 46 0 (3 * c) = nI (S 10 c) ∧ τ 46 0 (3 * c + 1) = nI (S 11 c) ∧ τ 46 0 (3 * c + 2) = nI (S 12 c))
def M7 (S : Nat → Nat → Nat) (P : Nat → Txt) (τ : Sg) : Prop := ∀ i, i < S 5 2 → MText (P i) i τ
/-- the reference's side -/
def RM (S : Nat → Nat → Nat) (I : Nat → Nat → Int32) (P : Nat → Txt) (τ : Sg) : Prop := M1 S τ ∧ M2 S τ ∧ M3 S τ ∧ M4 S τ ∧ M5 S I τ ∧ M6 S τ ∧ M7 S P τ
def V1 (S : Nat → Nat → Nat) : Prop := S 5 0 ≤ 8 ∧ S 5 1 < S 5 2 ∧ S 5 2 ≤ 6 ∧ S 5 3 ≤ 160
def V2 (S : Nat → Nat → Nat) : Prop := ∀ k, k < 72 → S 0 k < 100
def V3 (S : Nat → Nat → Nat) : Prop := ∀ c, c < S 5 0 → CB (S 1 c) (S 2 c) (S 3 c) (S 4 c)
def V4 (S : Nat → Nat → Nat) : Prop := ∀ k, k < S 5 3 → S 6 k < 256
def V5 (S : Nat → Nat → Nat) : Prop := ∀ s, s < 4 → S 7 s ≤ 3 ∧ S 8 s ≤ 40
def V6 (S : Nat → Nat → Nat) : Prop := S 5 4 ≠ 0 → S 5 5 ≤ S 5 0 ∧ S 5 6 < S 5 2 ∧ (∀ k, k < 72 → S 9 k < 100) ∧ ∀ c, c < S 5 5 → CB (S 1 c) (S 10 c) (S 11 c) (S 12 c)
/-- the numbers' bounds -/
def SV (S : Nat → Nat → Nat) : Prop := V1 S ∧ V2 S ∧ V3 S ∧ V4 S ∧ V5 S ∧ V6 S
/-- what telling writes in the class -/
def EX : Nat → Nat → Nat → Prop := fun g _ j => g = 5 ∨ (g = 2 ∧ j = 4)
/-- the class's scratch -/
def NX : Nat → Nat → Nat → Prop := fun g a j => g = 5 ∨ g = 2 ∨ (g = 6 ∧ j ≠ 4) ∨ (8 ≤ g ∧ g ≤ 11) ∨ (14 ≤ g ∧ g ≤ 19) ∨ (g = 1 ∧ a = 8)
/-- the reference's scratch -/
def NM : Nat → Nat → Nat → Prop := fun g _ j => (g = 30 ∧ 11 ≤ j ∧ j ≤ 25) ∨ (37 ≤ g ∧ g ≤ 44)
theorem EX.nx {g a j : Nat} (h : EX g a j) : NX g a j := by unfold EX at h; unfold NX; omega
theorem SF.nm {g a j : Nat} (h : SF g a j) : NM g a j := Or.inl h
theorem Un.ex {i : Nat} {σ σ' : Sg} (h : Un i σ σ') : Fr EX σ σ' := fun g a j q => h g a j (fun p => q (Or.inl p.1)) (fun p => q (Or.inr ⟨p.1, p.2.2⟩))
theorem CT.fr {S : Nat → Nat → Nat → Prop} {kd nb ct wn c : Nat} {σ σ' : Sg} (h : CT kd nb ct wn c σ) (f : Fr S σ σ') (k : ∀ j, ¬ S 1 c j) : CT kd nb ct wn c σ' := by
  unfold CT
  rw [f _ _ _ (k _), f _ _ _ (k _), f _ _ _ (k _), f _ _ _ (k _)]
  exact h
theorem TX.fr {S : Nat → Nat → Nat → Prop} {P : Txt} {i : Nat} {σ σ' : Sg} (h : TX P i σ) (f : Fr S σ σ') (k : ∀ j, ¬ S 3 i j ∧ ¬ S 4 i j) : TX P i σ' := by
  obtain ⟨h0, h1, h2, h3, h4⟩ := h
  exact ⟨by rw [f _ _ _ (k _).2]; exact h0, by rw [f _ _ _ (k _).2]; exact h1, by rw [f _ _ _ (k _).2]; exact h2, h3, fun j hj => by rw [f _ _ _ (k _).1]; exact h4 j hj⟩
theorem CM.fr' {S : Nat → Nat → Nat → Prop} {kd nb ct wn c : Nat} {τ τ' : Sg} (h : CM kd nb ct wn c τ) (f : Fr S τ τ') (k : ∀ j, ¬ S 35 0 j ∧ ¬ S 36 0 j) : CM kd nb ct wn c τ' := by
  unfold CM
  rw [f _ _ _ (k _).1, f _ _ _ (k _).2, f _ _ _ (k _).2, f _ _ _ (k _).2]
  exact h
theorem RX.fr {S : Nat → Nat → Nat} {I : Nat → Nat → Int32} {P : Nat → Txt} {σ σ' : Sg} (h : RX S I P σ) (hV : SV S) (f : Fr NX σ σ') : RX S I P σ' := by
  obtain ⟨⟨a1, a2, a3, a4⟩, b, c, d, e, g, k⟩ := h
  have v8 := hV.1.1
  refine ⟨⟨?_, ?_, ?_, ?_⟩, fun j hj => ?_, fun j hj => ?_, fun j hj => ?_, fun s hs => ⟨?_, fun q => ⟨?_, fun j hj => ?_⟩⟩, ⟨fun q => ?_, fun q => ?_⟩, fun i hi => ?_⟩
  · rw [f _ _ _ (by unfold NX; omega)]; exact a1
  · rw [f _ _ _ (by unfold NX; omega)]; exact a2
  · rw [f _ _ _ (by unfold NX; omega)]; exact a3
  · rw [f _ _ _ (by unfold NX; omega)]; exact a4
  · rw [f _ _ _ (by unfold NX; omega)]; exact b j hj
  · exact (c j hj).fr f (fun i => by unfold NX; omega)
  · rw [f _ _ _ (by unfold NX; omega)]; exact d j hj
  · rw [f _ _ _ (by unfold NX; omega)]; exact (e s hs).1
  · rw [f _ _ _ (by unfold NX; omega)]; exact ((e s hs).2 q).1
  · rw [f _ _ _ (by unfold NX; omega)]; exact ((e s hs).2 q).2 j hj
  · rw [f _ _ _ (by unfold NX; omega)]; exact g.1 q
  · obtain ⟨g1, g2, g3, g4⟩ := g.2 q
    refine ⟨?_, ?_, fun j hj => ?_, fun c hc => (g4 c hc).fr f (fun i => by unfold NX; omega)⟩
    · rw [f _ _ _ (by unfold NX; omega)]; exact g1
    · rw [f _ _ _ (by unfold NX; omega)]; exact g2
    · rw [f _ _ _ (by unfold NX; omega)]; exact g3 j hj
  · exact (k i hi).fr f (fun j => by unfold NX; omega)
theorem RM.fr {S : Nat → Nat → Nat} {I : Nat → Nat → Int32} {P : Nat → Txt} {τ τ' : Sg} (h : RM S I P τ) (f : Fr NM τ τ') : RM S I P τ' := by
  obtain ⟨⟨a1, a2, a3, a4⟩, b, c, d, e, g, k⟩ := h
  refine ⟨⟨?_, ?_, ?_, ?_⟩, fun j hj => ?_, fun j hj => ?_, fun j hj => ?_, fun s hs => ⟨?_, fun q => ⟨?_, ?_, fun j hj => ?_⟩⟩, ⟨fun q => ?_, fun q => ?_⟩, fun i hi => ?_⟩
  · rw [f _ _ _ (by unfold NM; omega)]; exact a1
  · rw [f _ _ _ (by unfold NM; omega)]; exact a2
  · rw [f _ _ _ (by unfold NM; omega)]; exact a3
  · rw [f _ _ _ (by unfold NM; omega)]; exact a4
  · rw [f _ _ _ (by unfold NM; omega)]; exact b j hj
  · exact (c j hj).fr' f (fun i => by unfold NM; omega)
  · rw [f _ _ _ (by unfold NM; omega)]; exact d j hj
  · rw [f _ _ _ (by unfold NM; omega)]; exact (e s hs).1
  · rw [f _ _ _ (by unfold NM; omega)]; exact ((e s hs).2 q).1
  · rw [f _ _ _ (by unfold NM; omega)]; exact ((e s hs).2 q).2.1
  · rw [f _ _ _ (by unfold NM; omega)]; exact ((e s hs).2 q).2.2 j hj
  · rw [f _ _ _ (by unfold NM; omega)]; exact g.1 q
  · obtain ⟨g1, g2, g3, g4⟩ := g.2 q
    refine ⟨?_, ?_, fun j hj => ?_, fun c hc => ⟨?_, ?_, ?_⟩⟩
    · rw [f _ _ _ (by unfold NM; omega)]; exact g1
    · rw [f _ _ _ (by unfold NM; omega)]; exact g2
    · rw [f _ _ _ (by unfold NM; omega)]; exact g3 j hj
    · rw [f _ _ _ (by unfold NM; omega)]; exact (g4 c hc).1
    · rw [f _ _ _ (by unfold NM; omega)]; exact (g4 c hc).2.1
    · rw [f _ _ _ (by unfold NM; omega)]; exact (g4 c hc).2.2
  · exact (k i hi).fr f (fun j => by unfold NM; omega)
def fitS (S : Nat → Nat → Nat) (P : Nat → Txt) (c m h : Nat) : Bool := fitN (P (S 5 1)) (S 1 c) (S 2 c) (S 3 c) (S 4 c) m h
def fineS (S : Nat → Nat → Nat) (P : Nat → Txt) (c m h : Nat) : Nat := fineN (P (S 5 1)) (S 1 c) (S 2 c) (S 3 c) (S 4 c) m h
def costS (S : Nat → Nat → Nat) (P : Nat → Txt) (c m h : Nat) : Nat := costN (P (S 5 1)) (S 1 c) (S 2 c) (S 3 c) (S 4 c) m h
theorem fineS_le {S : Nat → Nat → Nat} {P : Nat → Txt} {c m h : Nat} (hn : S 2 c ≤ 99) : fineS S P c m h ≤ 99 := by
  have := vaN_le (P (S 5 1)) 1 (S 2 c) (S 3 c) (S 4 c) m h
  unfold fineS fineN
  repeat' split
  all_goals omega
theorem costS_le {S : Nat → Nat → Nat} {P : Nat → Txt} {c m h : Nat} : costS S P c m h ≤ 99 := by
  have := vaN_le (P (S 5 1)) 2 (S 2 c) (S 3 c) (S 4 c) m h
  unfold costS costN
  repeat' split
  all_goals omega
section
variable {S : Nat → Nat → Nat} {I : Nat → Nat → Int32} {P : Nat → Txt} {σ τ : Sg}
theorem x_fits {c m : Nat} (hX : RX S I P σ) (hV : SV S) (hP : ∀ i, i < S 5 2 → TP (P i)) (hc : c < S 5 0) (hm : m < 1000) (h : Nat) : ∃ σ', X_fitsAt (S 5 1) c (nI m) (nI h) σ = some (b2 (fitS S P c m h), σ') ∧ Fr EX σ σ' := by
  obtain ⟨σ', e, u⟩ := s_fitsAt (h := h) (hX.2.2.2.2.2.2 (S 5 1) hV.1.2.1) (hP _ hV.1.2.1) (hX.2.2.1 c hc) (hV.2.2.1 c hc) hm
  exact ⟨σ', e, u.ex⟩
theorem x_fine {c m : Nat} (hX : RX S I P σ) (hV : SV S) (hP : ∀ i, i < S 5 2 → TP (P i)) (hc : c < S 5 0) (hm : m < 1000) (h : Nat) : ∃ σ', X_fineAt (nI c) (nI m) (nI h) σ = some (nI (fineS S P c m h), σ') ∧ Fr EX σ σ' := by
  have v := hV.1
  have hB := hV.2.2.1 c hc
  have hC := hX.2.2.1 c hc
  obtain ⟨σ', e, u⟩ := s_value (h := h) (hX.2.2.2.2.2.2 (S 5 1) v.2.1) (hP _ v.2.1) (k := 1) (by omega) hC.2.1 hC.2.2.1 hC.2.2.2 (by have := hB.2.2.1; omega) (m := m) (by omega)
  unfold X_fineAt
  rw [s_X_isCoat hX.1.1 v.1, irB_n (by have := v.1; omega) (by have := v.1; omega)]
  simp only [Option.bind_some, decide_eq_true hc]
  rw [if_neg (show ¬ b2 true = 0 by decide), if_neg (nI_pos (by have := v.1; omega)), na_cl (by have := v.1; omega), if_neg (by have := v.1; omega), hX.1.2.1, if_neg (nI_pos (by have := v.2; omega)), na_cl (by have := v.2; omega), if_neg (by have := v.2; omega), if_neg (nI_pos (by have := v.1; omega)), if_neg (by have := v.1; omega), show Text_value (S 5 1) 1 c (nI m) (nI h) σ = _ from e]
  simp only [Option.bind_some, s_Coat_fine (hC.un u) hB]
  exact ⟨σ', rfl, u.ex⟩
theorem x_cost {c m : Nat} (hX : RX S I P σ) (hV : SV S) (hP : ∀ i, i < S 5 2 → TP (P i)) (hc : c < S 5 0) (hm : m < 1000) (h : Nat) : ∃ σ', X_costAt (nI c) (nI m) (nI h) σ = some (nI (costS S P c m h), σ') ∧ Fr EX σ σ' := by
  have v := hV.1
  have hB := hV.2.2.1 c hc
  have hC := hX.2.2.1 c hc
  obtain ⟨σ', e, u⟩ := s_value (h := h) (hX.2.2.2.2.2.2 (S 5 1) v.2.1) (hP _ v.2.1) (k := 2) (by omega) hC.2.1 hC.2.2.1 hC.2.2.2 (by have := hB.2.2.1; omega) (m := m) (by omega)
  unfold X_costAt
  rw [s_X_isCoat hX.1.1 v.1, irB_n (by have := v.1; omega) (by have := v.1; omega)]
  simp only [Option.bind_some, decide_eq_true hc]
  rw [if_neg (show ¬ b2 true = 0 by decide), if_neg (nI_pos (by have := v.1; omega)), na_cl (by have := v.1; omega), if_neg (by have := v.1; omega), hX.1.2.1, if_neg (nI_pos (by have := v.2; omega)), na_cl (by have := v.2; omega), if_neg (by have := v.2; omega), if_neg (nI_pos (by have := v.1; omega)), if_neg (by have := v.1; omega), show Text_value (S 5 1) 2 c (nI m) (nI h) σ = _ from e]
  simp only [Option.bind_some, s_Coat_cost (hC.un u) hB]
  exact ⟨σ', rfl, u.ex⟩
theorem x_fineNo {p : Int32} (hX : RX S I P σ) (hV : SV S) (hp : irB p (S 5 0) = false) (m h : Int32) : X_fineAt p m h σ = some (99, σ) := by
  unfold X_fineAt
  rw [s_X_isCoat hX.1.1 hV.1.1, hp]
  rfl
theorem x_costNo {p : Int32} (hX : RX S I P σ) (hV : SV S) (hp : irB p (S 5 0) = false) (m h : Int32) : X_costAt p m h σ = some (0, σ) := by
  unfold X_costAt
  rw [s_X_isCoat hX.1.1 hV.1.1, hp]
  rfl
theorem m_fits {c m : Nat} (hM : RM S I P τ) (hV : SV S) (hc : c < S 5 0) (hm : m < 1000) (h : Nat) : ∃ τ', M_fits (nI c) (nI m) (nI h) τ = some (b2 (fitS S P c m h), τ') ∧ Fr SF τ τ' :=
  s_Mfits (hM.1.2.1) (hM.2.2.2.2.2.2 _ hV.1.2.1) (hM.2.2.1 c hc) (hV.2.2.1 c hc) (by have := hV.1.1; omega) hm
theorem m_fine {c m : Nat} (hM : RM S I P τ) (hV : SV S) (hc : c < S 5 0) (hm : m < 1000) (h : Nat) : ∃ τ', M_fineOf (nI c) (nI m) (nI h) τ = some (nI (fineS S P c m h), τ') ∧ Fr SF τ τ' :=
  s_MfineOf (hM.1.2.1) (hM.2.2.2.2.2.2 _ hV.1.2.1) (hM.2.2.1 c hc) (hV.2.2.1 c hc) (by have := hV.1.1; omega) hm
theorem m_cost {c m : Nat} (hM : RM S I P τ) (hV : SV S) (hc : c < S 5 0) (hm : m < 1000) (h : Nat) : ∃ τ', M_costOf (nI c) (nI m) (nI h) τ = some (nI (costS S P c m h), τ') ∧ Fr SF τ τ' :=
  s_McostOf (hM.1.2.1) (hM.2.2.2.2.2.2 _ hV.1.2.1) (hM.2.2.1 c hc) (hV.2.2.1 c hc) (by have := hV.1.1; omega) hm
theorem RM.tp (hM : RM S I P τ) : ∀ i, i < S 5 2 → TP (P i) := fun i hi => (hM.2.2.2.2.2.2 i hi).tp
theorem x_mood (hX : RX S I P σ) {p h : Nat} (hp : p < 3) (hh : h < 24) : X_moodAt (nI p) (nI h) σ = some (nI (S 0 (24 * p + h)), σ) := by
  rw [s_X_moodAt hp hh, hX.2.1 _ (by omega)]
end
/-- both sides, alike -/
def Rel (σ τ : Sg) : Prop := ∃ S I P, RX S I P σ ∧ RM S I P τ ∧ SV S
/-- two answers alike, and what is left alike -/
def CP (o1 o2 : Option (Int32 × Sg)) : Prop := ∃ r σ' τ', o1 = some (r, σ') ∧ o2 = some (r, τ') ∧ Rel σ' τ'
def CPL (o1 o2 : Option (Int64 × Sg)) : Prop := ∃ r σ' τ', o1 = some (r, σ') ∧ o2 = some (r, τ') ∧ Rel σ' τ'
