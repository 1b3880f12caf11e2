/-! the calls: the reference's changes, hours -/
section
variable {S : Nat → Nat → Nat} {I : Nat → Nat → Int32} {P : Nat → Txt} {σ τ : Sg}
theorem bt_all : ∀ x, x < 256 → ∀ c, c < 8 → decide (((nI x) >>> (nI c &&& 31)) &&& 1 = (1 : Int32)) = x.testBit c := by decide +kernel
/-- the reference amid the changes -/
def MCg (S : Nat → Nat → Nat) (I : Nat → Nat → Int32) (P : Nat → Txt) (r d : Nat → Nat) (y : Sg) : Prop := RM S I P y ∧ (∀ h, h < 24 → y 37 0 h = nI (r h)) ∧ ∀ k, k < S 5 0 → y 38 0 k = nI (d k)
theorem m_ch185 {k68 : Int32 → Sg → Option (Int32 × Sg)} {r d e : Nat → Nat} {h : Nat} {Q : Int32 × Sg → Prop} {y : Sg} (hV : SV S) (hy : MCg S I P r d y) (he : ∀ k, k < S 5 0 → y 39 0 k = nI (e k)) (kk : ∀ y', MCg S I P r e y' → wp (k68 (nI (h + 1)) y') Q) : wp (M_changesOf_L185 k68 FU (nI h) 0 y) Q := by
  obtain ⟨v1, v2, v3, v4⟩ := hV.1
  refine loopW (fun N (z : Sg) i => M_changesOf_L185 k68 N (nI h) (nI i) z) (fun i z => RM S I P z ∧ (∀ h, h < 24 → z 37 0 h = nI (r h)) ∧ (∀ k, k < S 5 0 → z 39 0 k = nI (e k)) ∧ ∀ k, k < i → z 38 0 k = nI (e k)) (S 5 0) _ ?_ ?_ 0 y FU (Nat.zero_le _) ⟨hy.1, hy.2.1, he, fun k q => absurd q (by omega)⟩ (FU_big (by omega))
  · rintro N i z hi ⟨z1, z2, z3, z4⟩ k
    show wp (M_changesOf_L185 k68 (N + 1) (nI h) (nI i) z) Q
    rw [M_changesOf_L185, z1.1.1, if_pos (nI_lt hi (by omega)), if_neg (nI_pos (by omega)), na_cl (a := i) (by omega), if_neg (show ¬ 9 ≤ i by omega), if_neg (nI_pos (by omega)), if_neg (show ¬ 9 ≤ i by omega), z3 i hi, show nI i + 1 = nI (i + 1) from (nI_succ _).symm]
    refine k _ ⟨z1.fr (Fr.rf.up (by unfold NM; omega)), fun a ha => ?_, fun a ha => ?_, fun a ha => ?_⟩
    · rw [u3n _ _ _ _ _ (by omega)]; exact z2 a ha
    · rw [u3n _ _ _ _ _ (by omega)]; exact z3 a ha
    · by_cases q : a = i
      · subst q; exact u3s _ _ _ _ _
      · rw [u3n _ _ _ _ _ (by omega)]; exact z4 a (by omega)
  · rintro N z ⟨z1, z2, z3, z4⟩
    show wp (M_changesOf_L185 k68 (N + 1) (nI h) (nI (S 5 0)) z) Q
    rw [M_changesOf_L185, z1.1.1, if_neg (nI_nlt (Nat.le_refl _) (by omega)), show nI h + 1 = nI (h + 1) from (nI_succ _).symm]
    exact kk z ⟨z1, z2, z4⟩
theorem m_ch76 {k68 : Int32 → Sg → Option (Int32 × Sg)} {r d : Nat → Nat} {h : Nat} {g : Nat × Nat} {Q : Int32 × Sg → Prop} {y : Sg} (hV : SV S) (hy : MCg S I P r d y) (hh : h < 24) (hr : r h < 256) (hd : DvP (S 5 0) g d) (hm : g.1 < 1000) (kk : ∀ y', MCg S I P r (nxN (r h) g) y' → wp (k68 (nI (h + 1)) y') Q) : wp (M_changesOf_L76 k68 FU (nI h) 0 y) Q := by
  obtain ⟨v1, v2, v3, v4⟩ := hV.1
  refine loopW (fun N (z : Sg) i => M_changesOf_L76 k68 N (nI h) (nI i) z) (fun i z => MCg S I P r d z ∧ ∀ k, k < i → z 39 0 k = nI (nxN (r h) g k)) (S 5 0) _ ?_ ?_ 0 y FU (Nat.zero_le _) ⟨hy, fun k q => absurd q (by omega)⟩ (FU_big (by omega))
  · rintro N i z hi ⟨z1, z4⟩ k
    show wp (M_changesOf_L76 k68 (N + 1) (nI h) (nI i) z) Q
    rw [M_changesOf_L76, z1.1.1.1, if_pos (nI_lt hi (by omega)), if_neg (nI_pos (by omega)), na_cl (a := i) (by omega), if_neg (show ¬ 9 ≤ i by omega), z1.2.2 i hi]
    refine m_ch95 (r := r) (g := g) v1 z1.1.1.1 hh (z1.2.1 h hh) hr hi z1.2.2 hd hm bt_all ?_
    refine k _ ⟨⟨z1.1.fr (Fr.rf.up (by unfold NM; omega)), fun a ha => ?_, fun a ha => ?_⟩, fun a ha => ?_⟩
    · rw [u3n _ _ _ _ _ (by omega)]; exact z1.2.1 a ha
    · rw [u3n _ _ _ _ _ (by omega)]; exact z1.2.2 a ha
    · by_cases q : a = i
      · subst q; exact u3s _ _ _ _ _
      · rw [u3n _ _ _ _ _ (by omega)]; exact z4 a (by omega)
  · rintro N z ⟨z1, z4⟩
    show wp (M_changesOf_L76 k68 (N + 1) (nI h) (nI (S 5 0)) z) Q
    rw [M_changesOf_L76, z1.1.1.1, if_neg (nI_nlt (Nat.le_refl _) (by omega))]
    exact m_ch185 hV z1 z4 kk
theorem m_ch68 {r d : Nat → Nat} {w : Nat} {y : Sg} (hV : SV S) (hr : ∀ h, r h < 2 ^ S 5 0) (hw : w < 2 ^ S 5 0) (hy : MCg S I P r d y) (hd : DvP (S 5 0) (gsN r w 1) d) : wp (M_changesOf_L68 FU 1 y) (fun q => q.1 = nI (gsN r w 24).1 ∧ RM S I P q.2) := by
  obtain ⟨v1, v2, v3, v4⟩ := hV.1
  have h8 : 2 ^ S 5 0 ≤ 2 ^ 8 := Nat.pow_le_pow_right (by omega) v1
  have hg := gsN_lt hw hr
  refine loopW (fun N (z : Sg) h => M_changesOf_L68 N (nI h) z) (fun h z => 1 ≤ h ∧ ∃ d, DvP (S 5 0) (gsN r w h) d ∧ MCg S I P r d z) 24 _ ?_ ?_ 1 y FU (by omega) ⟨Nat.le_refl _, d, hd, hy⟩ (FU_big (by omega))
  · rintro N h z hh ⟨h1, d, z1, z2⟩ k
    show wp (M_changesOf_L68 (N + 1) (nI h) z) _
    have hg1 := (hg h).1
    rw [M_changesOf_L68, if_pos (show nI h < 24 from nI_lt (b := 24) hh (by decide))]
    refine m_ch76 (g := gsN r w h) hV z2 hh (by have := hr h; omega) z1 (by omega) (fun y' hy' => ?_)
    exact k y' ⟨by omega, _, DvP_st z1 (hr h) (by omega), hy'⟩
  · rintro N z ⟨h1, d, z1, z2⟩
    show wp (M_changesOf_L68 (N + 1) (nI 24) z) _
    have hg1 := (hg 24).1
    rw [M_changesOf_L68, if_neg (by decide)]
    refine wp_mono (m_ch223 v1 z2.1.1.1 z2.2.2 z1 (by omega)) ?_
    rintro ⟨a, z'⟩ ⟨a1, a2⟩
    have a2 : z' = z := a2
    subst a2
    exact ⟨a1, z2.1⟩
end
