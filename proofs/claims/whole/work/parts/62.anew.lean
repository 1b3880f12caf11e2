/-! the calls: anew -/
section
variable {S : Nat → Nat → Nat} {I : Nat → Nat → Int32} {P : Nat → Txt} {σ τ : Sg}
theorem up2_id (S : Nat → Nat → Nat) (g i : Nat) : up2 S g i (S g i) = S := by
  funext g' i'
  unfold up2
  split
  · rename_i q; rw [q.1, q.2]
  · rfl
theorem up2_tw (S : Nat → Nat → Nat) (g i v w : Nat) : up2 (up2 S g i v) g i w = up2 S g i w := by
  funext g' i'
  unfold up2
  split
  · rfl
  · rfl
/-- the first most of c, up to h -/
def anN (c : Nat → Nat) : Nat → Nat × Nat
  | 0 => (0, c 0)
  | h + 1 => if (anN c h).2 < c (h + 1) then (h + 1, c (h + 1)) else anN c h
theorem anN_le {c : Nat → Nat} {B : Nat} (hc : ∀ h, c h ≤ B) : ∀ h, (anN c h).1 ≤ h ∧ (anN c h).2 ≤ B := by
  intro h
  induction h with
  | zero => exact ⟨Nat.le_refl _, hc 0⟩
  | succ h ih =>
    unfold anN
    split
    · exact ⟨Nat.le_refl _, hc _⟩
    · exact ⟨by omega, ih.2⟩
/-- the two sides' best and most ahead of cut i -/
def anP (c : Nat → Nat) (b0 : Int32) (i : Nat) : Int32 × Int32 := match i with
  | 0 => (b0, -1)
  | i + 1 => (nI (anN c i).1, nI (anN c i).2)
theorem anP_st {c : Nat → Nat} {b0 : Int32} {i : Nat} (hc : ∀ h, c h ≤ 24) (hi : i < 100) : (if (anP c b0 i).2 < nI (c i) then (nI i, nI (c i)) else anP c b0 i) = anP c b0 (i + 1) := by
  cases i with
  | zero =>
    have : (-1 : Int32) < nI (c 0) := by
      have h := hc 0
      rw [Int32.lt_iff_toInt_lt, nI_toInt (by omega), show (-1 : Int32).toInt = -1 from rfl]
      omega
    exact if_pos this
  | succ i =>
    have h1 := hc (i + 1)
    have h2 := (anN_le hc i).2
    show (if nI (anN c i).2 < nI (c (i + 1)) then (nI (i + 1), nI (c (i + 1))) else (nI (anN c i).1, nI (anN c i).2)) = (nI (anN c (i + 1)).1, nI (anN c (i + 1)).2)
    rw [anN]
    by_cases d : (anN c i).2 < c (i + 1)
    · rw [if_pos (nI_lt d (by omega)), if_pos d]
    · rw [if_neg (nI_nlt (by omega) (by omega)), if_neg d]
/-- at how many hours of one coat c would fit, cut so -/
def ancN (S : Nat → Nat → Nat) (P : Nat → Txt) (c p : Nat) : Nat → Nat := fun ct => hrsN S (P (S 5 1)) (S 1 c) (S 2 c) ct (S 4 c) p
theorem ancN_le {c p : Nat} (ct : Nat) : ancN S P c p ct ≤ 24 := ctN_le _ _
theorem x_anew (hX : RX S I P σ) (hV : SV S) (hP : ∀ i, i < S 5 2 → TP (P i)) {c p : Nat} (hc : c < S 5 0) (hp : p < 3) (w : Int32) (hC : CT (S 1 c) (S 2 c) (S 3 c) (S 4 c) 8 σ) : wp (X_anew_L49 FU (nI p) w 0 (-1) 0 σ) (fun r => r.1 = (if w = 0 then (anP (ancN S P c p) 0 100).1 else (anP (ancN S P c p) 0 100).2) ∧ RX S I P r.2) := by
  have hB := hV.2.2.1 c hc
  refine loopW (fun n (s : Sg) i => X_anew_L49 n (nI p) w (anP (ancN S P c p) 0 i).1 (anP (ancN S P c p) 0 i).2 (nI i) s) (fun i s => RX S I P s ∧ ∃ ct, CT (S 1 c) (S 2 c) ct (S 4 c) 8 s) 100 _ ?_ ?_ 0 σ FU (by omega) ⟨hX, _, hC⟩ (FU_big (by omega))
  · rintro n i s hi ⟨h1, ct, h2⟩ k
    show wp (X_anew_L49 (n + 1) (nI p) w (anP (ancN S P c p) 0 i).1 (anP (ancN S P c p) 0 i).2 (nI i) s) _
    rw [X_anew_L49, if_pos (show nI i < 100 from nI_lt (b := 100) hi (by decide))]
    have f1 : Fr NX s (upd3 s 1 8 2 (nI i)) := Fr.rf.up (by unfold NX; omega)
    have h1' := h1.fr hV f1
    have h2' : CT (S 1 c) (S 2 c) i (S 4 c) 8 (upd3 s 1 8 2 (nI i)) := ⟨h2.1, h2.2.1, u3s _ _ _ _ _, h2.2.2.2⟩
    refine wp_bind (x_hours h1' hV hP h2' ⟨hB.1, hB.2.1, hi, hB.2.2.2⟩ hp) ?_
    rintro ⟨r, s2⟩ ⟨e2, f2⟩
    have e2 : r = nI (ancN S P c p i) := e2
    subst e2
    have f2 : Fr EX (upd3 s 1 8 2 (nI i)) s2 := f2
    have kk := k s2 ⟨h1'.fr hV (f2.mo fun g a j q => q.nx), i, h2'.fr f2 (fun j => by unfold EX; omega)⟩
    rw [show nI i + 1 = nI (i + 1) from (nI_succ i).symm]
    rw [← anP_st (fun h => ancN_le h) hi] at kk
    show wp (if (anP (ancN S P c p) 0 i).2 < nI (ancN S P c p i) then X_anew_L49 n (nI p) w (nI i) (nI (ancN S P c p i)) (nI (i + 1)) s2 else X_anew_L49 n (nI p) w (anP (ancN S P c p) 0 i).1 (anP (ancN S P c p) 0 i).2 (nI (i + 1)) s2) _
    by_cases d : (anP (ancN S P c p) 0 i).2 < nI (ancN S P c p i)
    · rw [if_pos d]; rw [if_pos d] at kk; exact kk
    · rw [if_neg d]; rw [if_neg d] at kk; exact kk
  · rintro n s ⟨h1, _⟩
    show wp (X_anew_L49 (n + 1) (nI p) w (anP (ancN S P c p) 0 100).1 (anP (ancN S P c p) 0 100).2 (nI 100) s) _
    rw [X_anew_L49, if_neg (by decide)]
    by_cases d : w = 0
    · rw [if_pos d, if_pos d]; exact wp_some ⟨rfl, h1⟩
    · rw [if_neg d, if_neg d]; exact wp_some ⟨rfl, h1⟩
theorem m_anew (hM : RM S I P τ) (hV : SV S) {c p : Nat} (hc : c < S 5 0) (hp : p < 3) (w : Int32) : wp (M_anew_L49 FU (nI c) (nI p) w (nI (S 3 c)) (-1) (-1) 0 τ) (fun r => r.1 = (if w = 0 then (anP (ancN S P c p) (-1) 100).1 else (anP (ancN S P c p) (-1) 100).2) ∧ RM S I P r.2) := by
  have hB := hV.2.2.1 c hc
  have v8 := hV.1.1
  have ix : (3 : Int32) * nI c + 1 = nI (3 * c + 1) := by rw [show (3 : Int32) = nI 3 from rfl, na_mul]; exact na_add _ 1
  refine loopW (fun n (s : Sg) i => M_anew_L49 n (nI c) (nI p) w (nI (S 3 c)) (anP (ancN S P c p) (-1) i).1 (anP (ancN S P c p) (-1) i).2 (nI i) s) (fun i s => ∃ ct, RM (up2 S 3 c ct) I P s) 100 _ ?_ ?_ 0 τ FU (by omega) ⟨S 3 c, by rw [up2_id]; exact hM⟩ (FU_big (by omega))
  · rintro n i s hi ⟨ct, h1⟩ k
    show wp (M_anew_L49 (n + 1) (nI c) (nI p) w (nI (S 3 c)) (anP (ancN S P c p) (-1) i).1 (anP (ancN S P c p) (-1) i).2 (nI i) s) _
    rw [M_anew_L49, if_pos (show nI i < 100 from nI_lt (b := 100) hi (by decide)), ix, if_neg (nI_pos (by omega)), na_cl (by omega), if_neg (by omega)]
    have h2 : RM (up2 S 3 c i) I P (upd3 s 36 0 (3 * c + 1) (nI i)) := by
      have := h1.trait (g := 3) (c := c) (v := i) (by omega) (by omega) (by rw [up2n _ _ _ _ (by omega)]; exact hc)
      rw [up2_tw] at this
      exact this
    have hV' : SV (up2 S 3 c i) := hV.trait (by omega) (by omega) (by have : mostN 3 = 99 := rfl; omega)
    refine wp_bind (m_hours h2 hV' (c := c) (by rw [up2n _ _ _ _ (by omega)]; exact hc) hp) ?_
    rintro ⟨r, s2⟩ ⟨e2, f2⟩
    have f2 : Fr SF (upd3 s 36 0 (3 * c + 1) (nI i)) s2 := f2
    have e2 : r = nI (ancN S P c p i) := by
      have e2 : r = nI (hrsN (up2 S 3 c i) (P (up2 S 3 c i 5 1)) (up2 S 3 c i 1 c) (up2 S 3 c i 2 c) (up2 S 3 c i 3 c) (up2 S 3 c i 4 c) p) := e2
      rw [up2s, up2n _ _ _ _ (by omega), up2n _ _ _ _ (by omega), up2n _ _ _ _ (by omega), up2n _ _ _ _ (by omega)] at e2
      exact e2
    subst e2
    have kk := k s2 ⟨i, h2.fr (f2.mo fun g a j q => q.nm)⟩
    rw [show nI i + 1 = nI (i + 1) from (nI_succ i).symm]
    rw [← anP_st (fun h => ancN_le h) hi] at kk
    show wp (if (anP (ancN S P c p) (-1) i).2 < nI (ancN S P c p i) then M_anew_L49 n (nI c) (nI p) w (nI (S 3 c)) (nI i) (nI (ancN S P c p i)) (nI (i + 1)) s2 else M_anew_L49 n (nI c) (nI p) w (nI (S 3 c)) (anP (ancN S P c p) (-1) i).1 (anP (ancN S P c p) (-1) i).2 (nI (i + 1)) s2) _
    by_cases d : (anP (ancN S P c p) (-1) i).2 < nI (ancN S P c p i)
    · rw [if_pos d]; rw [if_pos d] at kk; exact kk
    · rw [if_neg d]; rw [if_neg d] at kk; exact kk
  · rintro n s ⟨ct, h1⟩
    show wp (M_anew_L49 (n + 1) (nI c) (nI p) w (nI (S 3 c)) (anP (ancN S P c p) (-1) 100).1 (anP (ancN S P c p) (-1) 100).2 (nI 100) s) _
    have h2 : RM S I P (upd3 s 36 0 (3 * c + 1) (nI (S 3 c))) := by
      have := h1.trait (g := 3) (c := c) (v := S 3 c) (by omega) (by omega) (by rw [up2n _ _ _ _ (by omega)]; exact hc)
      rw [up2_tw, up2_id] at this
      exact this
    rw [M_anew_L49, if_neg (by decide), ix, if_neg (nI_pos (by omega)), na_cl (by omega), if_neg (by omega)]
    by_cases d : w = 0
    · rw [if_pos d, if_pos d]; exact wp_some ⟨rfl, h2⟩
    · rw [if_neg d, if_neg d]; exact wp_some ⟨rfl, h2⟩
theorem q_anew (hR : Rel σ τ) (p1 p2 p3 : Int32) : CP (X_anew p1 p2 p3 σ) (M_anew p1 p2 p3 τ) := by
  obtain ⟨S, I, P, hX, hM, hV⟩ := id hR
  have v8 := hV.1.1
  unfold X_anew M_anew
  rw [s_X_isCoat hX.1.1 v8, s_M_isCoat hM.1.1 v8]
  simp only [Option.bind_some, b2_0]
  cases h1 : irB p1 (S 5 0) with
  | false => exact CP_same hR (-2)
  | true =>
    obtain ⟨c, hc, rfl⟩ := irB_t (by omega) h1
    rw [if_neg (show ¬ true = false by decide), if_neg (show ¬ true = false by decide), s_X_isOne', s_M_isOne']
    simp only [Option.bind_some, b2_0]
    cases h2 : irB p2 3 with
    | false => exact CP_same hR (-2)
    | true =>
      obtain ⟨p, hp, rfl⟩ := irB_t (by omega) h2
      rw [if_neg (show ¬ true = false by decide), if_neg (show ¬ true = false by decide), M_in_l p3 1 (by omega)]
      simp only [Option.bind_some, b2_0]
      cases h3 : irB p3 2 with
      | false =>
        refine CP_eq (o1' := some (-2, σ)) (o2' := some (-2, τ)) ?_ (if_pos rfl) (CP_same hR _)
        rcases irB_f (by omega) h3 with q | ⟨k, hk, hk7, rfl⟩
        · rw [if_pos q]
        · rw [if_neg (nI_pos hk), if_pos (show 1 < nI k from nI_lt (a := 1) (by omega) hk)]
      | true =>
        obtain ⟨w, hw, rfl⟩ := irB_t (by omega) h3
        have hC := hX.2.2.1 c hc
        have hD := hM.2.2.1 c hc
        refine CP_mk (r := if nI w = 0 then (anP (ancN S P c p) 0 100).1 else (anP (ancN S P c p) 0 100).2) (I := I) (P := P) ?_ ?_ hV
        · rw [if_neg (nI_pos (by omega)), if_neg (show ¬ 1 < nI w from nI_nlt (a := 1) (by omega) (by decide)), if_neg (nI_pos (by omega)), na_cl (by omega), if_neg (by omega)]
          obtain ⟨σ5, e5, k5, f5⟩ := s_become (a := 8) (c := c) (by omega) σ
          rw [e5]
          have hX5 : RX S I P σ5 := hX.fr hV (f5.mo fun g a j q => by unfold NX; omega)
          exact x_anew hX5 hV hM.tp hc hp _ ⟨(k5 0 (by omega)).trans hC.1, (k5 1 (by omega)).trans hC.2.1, (k5 2 (by omega)).trans hC.2.2.1, (k5 3 (by omega)).trans hC.2.2.2⟩
        · rw [if_neg (show ¬ true = false by decide), show (3 : Int32) * nI c + 1 = nI (3 * c + 1) by rw [show (3 : Int32) = nI 3 from rfl, na_mul]; exact na_add _ 1, if_neg (nI_pos (by omega)), na_cl (by omega), if_neg (by omega), hD.2.2.1]
          exact m_anew hM hV hc hp _
end
