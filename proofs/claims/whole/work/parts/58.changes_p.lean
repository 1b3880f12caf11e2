/-! the calls: the reference's changes, whole -/
section
variable {S : Nat → Nat → Nat} {I : Nat → Nat → Int32} {P : Nat → Txt} {σ τ : Sg}
def d0N (x c : Nat) : Nat := if x = 0 then 0 else if x.testBit c = true then 0 else 1000000
theorem DvP_1 {r : Nat → Nat} {n : Nat} (hn : 0 < n) (hr : r 0 < 2 ^ n) : DvP n (gsN r (2 ^ n - 1) 1) (d0N (r 0)) := by
  rw [gsN]
  by_cases c : r 0 = 0
  · rw [if_pos c]
    refine ⟨⟨0, hn, ?_⟩, fun a ha => ⟨fun _ => ?_, fun q => ?_⟩⟩
    · show (2 ^ n - 1).testBit 0 = true
      rw [Nat.testBit_two_pow_sub_one]
      exact decide_eq_true hn
    · show d0N (r 0) a = 0
      unfold d0N
      rw [if_pos c]
    · have q' : (2 ^ n - 1).testBit a = false := q
      rw [Nat.testBit_two_pow_sub_one, decide_eq_true ha] at q'
      exact absurd q' (by decide)
  · have e : ((2 ^ n - 1) &&& r 0) = r 0 := by rw [Nat.and_comm, full_and hr]
    rw [if_neg c]
    show DvP n (if ((2 ^ n - 1) &&& r 0) = 0 then (0 + 1, r 0) else (0, (2 ^ n - 1) &&& r 0)) _
    rw [e, if_neg c]
    refine ⟨bit_ex hr c, fun a ha => ⟨fun q => ?_, fun q => ?_⟩⟩
    · have q' : (r 0).testBit a = true := q
      show d0N (r 0) a = 0
      unfold d0N
      rw [if_neg c, if_pos q']
    · have q' : (r 0).testBit a = false := q
      show 0 + 1 ≤ d0N (r 0) a ∧ d0N (r 0) a ≤ 1000000
      unfold d0N
      rw [if_neg c, if_neg (by rw [q']; decide)]
      omega
theorem gsN_0 {r : Nat → Nat} (hr : ∀ h, r h = 0) (w : Nat) : ∀ h, (gsN r w h).1 = 0 := by
  intro h
  induction h with
  | zero => rfl
  | succ h ih => rw [gsN, if_pos (hr h)]; exact ih
theorem m_changes (hM : RM S I P τ) (hV : SV S) {p : Nat} (hp : p < 3) : wp (M_changesOf (nI p) τ) (fun q => q.1 = nI (gsN (rigS S P p) (2 ^ S 5 0 - 1) 24).1 ∧ RM S I P q.2) := by
  obtain ⟨v1, v2, v3, v4⟩ := hV.1
  have hp2 : 0 < 2 ^ S 5 0 := Nat.two_pow_pos _
  unfold M_changesOf
  refine wp_bind (m_rights hM hV hp) ?_
  rintro τ8 ⟨t1, t2⟩
  rw [t1.1.1]
  by_cases n0 : S 5 0 = 0
  · rw [if_pos (by rw [n0]; rfl)]
    refine wp_some ⟨?_, t1⟩
    have hz : ∀ h, rigS S P p h = 0 := fun h => by
      have := rigS_l2 (S := S) (P := P) p h
      rw [n0] at this
      omega
    show (0 : Int32) = _
    rw [gsN_0 hz]
    rfl
  · rw [if_neg (na_0 (by omega) n0)]
    refine loopW (fun N (z : Sg) i => M_changesOf_L16 N (nI i) z) (fun i z => RM S I P z ∧ (∀ h, h < 24 → z 37 0 h = nI (rigS S P p h)) ∧ ∀ k, k < i → z 38 0 k = nI (d0N (rigS S P p 0) k)) (S 5 0) _ ?_ ?_ 0 τ8 FU (Nat.zero_le _) ⟨t1, t2, fun k q => absurd q (by omega)⟩ (FU_big (by omega))
    · rintro N i z hi ⟨z1, z2, z3⟩ k
      have hr0 := rigS_lt (P := P) hV p 0
      have fin : ∀ x, x = nI (d0N (rigS S P p 0) i) → wp (M_changesOf_L16 N (nI (i + 1)) (upd3 z 38 0 i x)) (fun q => q.1 = nI (gsN (rigS S P p) (2 ^ S 5 0 - 1) 24).1 ∧ RM S I P q.2) := by
        intro x hx
        refine k _ ⟨z1.fr (Fr.rf.up (by unfold NM; omega)), fun a ha => ?_, fun a ha => ?_⟩
        · rw [u3n _ _ _ _ _ (by omega)]; exact z2 a ha
        · by_cases q : a = i
          · subst q; rw [u3s]; exact hx
          · rw [u3n _ _ _ _ _ (by omega)]; exact z3 a (by omega)
      show wp (M_changesOf_L16 (N + 1) (nI i) z) _
      rw [M_changesOf_L16, z1.1.1, if_pos (nI_lt hi (by omega)), z2 0 (by omega), show nI i + 1 = nI (i + 1) from (nI_succ _).symm]
      by_cases c : rigS S P p 0 = 0
      · rw [if_pos (by rw [c]; rfl), if_neg (nI_pos (by omega)), na_cl (a := i) (by omega), if_neg (show ¬ 9 ≤ i by omega)]
        refine fin 0 ?_
        unfold d0N
        rw [if_pos c]
        rfl
      · have hb := bt_all (rigS S P p 0) hr0 i (by omega)
        rw [if_neg (na_0 (by omega) c)]
        cases w : (rigS S P p 0).testBit i with
        | true =>
          rw [w] at hb
          rw [if_pos (of_decide_eq_true hb), if_neg (nI_pos (by omega)), na_cl (a := i) (by omega), if_neg (show ¬ 9 ≤ i by omega)]
          refine fin 0 ?_
          unfold d0N
          rw [if_neg c, if_pos w]
          rfl
        | false =>
          rw [w] at hb
          rw [if_neg (of_decide_eq_false hb), if_neg (nI_pos (by omega)), na_cl (a := i) (by omega), if_neg (show ¬ 9 ≤ i by omega)]
          refine fin 1000000 ?_
          unfold d0N
          rw [if_neg c, if_neg (by rw [w]; decide)]
          rfl
    · rintro N z ⟨z1, z2, z3⟩
      show wp (M_changesOf_L16 (N + 1) (nI (S 5 0)) z) _
      rw [M_changesOf_L16, z1.1.1, if_neg (nI_nlt (Nat.le_refl _) (by omega))]
      exact m_ch68 hV (rigS_l2 (S := S) (P := P) p) (by omega) ⟨z1, z2, z3⟩ (DvP_1 (by omega) (rigS_l2 (S := S) (P := P) p 0))
end
