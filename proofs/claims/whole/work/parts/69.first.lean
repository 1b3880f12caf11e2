/-! the two first worlds agree -/
def P0t : Txt := ([15], [5], [3])
def S0 : Nat → Nat → Nat := fun g k => if g = 0 then (if k < 72 then 50 else 0) else if g = 5 ∧ k = 2 then 1 else 0
def b0T : Nat → Int32 := fun p => if p < 32 then ab_nth 0 [101, 97, 115, 101, 115, 32, 49, 53, 32, 59, 32, 102, 105, 110, 101, 115, 32, 53, 32, 59, 32, 99, 111, 115, 116, 115, 32, 51, 32, 59, 32, 32] p else -1
set_option maxRecDepth 100000 in
theorem b0_sp : spT b0T = (some P0t, 9) := by decide +kernel
theorem b0_tab : ((List.range 32).all fun p => decide (b0T p = nI (b0T p).toNatClampNeg) && decide ((b0T p).toNatClampNeg < 256) && decide (sgM 31 0 (160 * 0 + p) = b0T p)) = true := by decide +kernel
theorem b0_at {p : Nat} (hp : p < 32) : b0T p = nI (b0T p).toNatClampNeg ∧ (b0T p).toNatClampNeg < 256 ∧ sgM 31 0 (160 * 0 + p) = b0T p := by
  have h := List.all_eq_true.mp b0_tab p (List.mem_range.mpr hp)
  rw [Bool.and_eq_true, Bool.and_eq_true] at h
  exact ⟨of_decide_eq_true h.1.1, of_decide_eq_true h.1.2, of_decide_eq_true h.2⟩
theorem b0_ok : ByteOK b0T 32 := ⟨by omega, fun p hp => if_neg (by omega), fun p hp => ⟨_, (b0_at hp).2.1, (b0_at hp).1⟩⟩
theorem sm_at (k : Nat) (hk : k < 72) : mf 72 k = nI (S0 0 k) := by
  unfold mf S0
  rw [if_pos hk, if_pos rfl, if_pos hk]
  rfl
theorem first_X : RX S0 (fun _ _ => 0) (fun _ => P0t) sgX := by
  refine ⟨⟨rfl, rfl, rfl, rfl⟩, fun k hk => sm_at k hk, fun c hc => absurd hc (Nat.not_lt_zero _), fun k hk => absurd hk (Nat.not_lt_zero _), fun s hs => ⟨?_, fun q => absurd rfl q⟩, ⟨fun _ => rfl, fun q => absurd rfl q⟩, fun i hi => ?_⟩
  · have h4 : s = 0 ∨ s = 1 ∨ s = 2 ∨ s = 3 := by omega
    rcases h4 with q | q | q | q <;> subst q <;> rfl
  · have h0 : i = 0 := by
      have : i < 1 := hi
      omega
    subst h0
    refine ⟨rfl, rfl, rfl, (show 3 ≤ 160 by omega), fun k hk => ?_⟩
    have hk : k < 3 := hk
    have h3 : k = 0 ∨ k = 1 ∨ k = 2 := by omega
    rcases h3 with q | q | q <;> subst q <;> rfl
theorem first_M : RM S0 (fun _ _ => 0) (fun _ => P0t) sgM := by
  refine ⟨⟨rfl, rfl, rfl, rfl⟩, fun k hk => sm_at k hk, fun c hc => absurd hc (Nat.not_lt_zero _), fun k hk => absurd hk (Nat.not_lt_zero _), fun s hs => ⟨?_, fun q => absurd rfl q⟩, ⟨fun _ => rfl, fun q => absurd rfl q⟩, fun i hi => ?_⟩
  · have h4 : s = 0 ∨ s = 1 ∨ s = 2 ∨ s = 3 := by omega
    rcases h4 with q | q | q | q <;> subst q <;> rfl
  · have h0 : i = 0 := by
      have : i < 1 := hi
      omega
    subst h0
    exact ⟨b0T, 32, 9, b0_ok, ⟨by omega, rfl, fun p hp => (b0_at hp).2.2⟩, b0_sp⟩
theorem first_V : SV S0 := by
  refine ⟨⟨by decide, by decide, by decide, by decide⟩, fun k hk => ?_, fun c hc => absurd hc (Nat.not_lt_zero _), fun k hk => absurd hk (Nat.not_lt_zero _), fun s hs => ⟨Nat.zero_le _, Nat.zero_le _⟩, fun q => absurd rfl q⟩
  unfold S0
  rw [if_pos rfl, if_pos hk]
  omega
theorem first_R : Rel sgX sgM := ⟨S0, _, _, first_X, first_M, first_V⟩
