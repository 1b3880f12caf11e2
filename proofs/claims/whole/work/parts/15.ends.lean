theorem ab_row_bk {o nL ty : Nat} {cc : ByteArray} {tab : List (Nat × List AOp)} (h : ∀ q ∈ tab, ab_bk o cc nL ty q.1 q.2 = true) (pc : Nat) : ab_bk o cc nL ty pc (ab_row tab pc) = true := by
  unfold ab_row
  split
  · rename_i ho
    exact h _ (ab_lk_mem ho)
  · rfl
theorem finI_inv {r : AV} {σ σ' : Sg} {x : Int32} (h : finI r σ = some (x, σ')) : r = vI x ∧ σ = σ' := by
  match r, h with
  | .inl y, h =>
    have h := Prod.mk.inj (Option.some.inj h)
    exact ⟨by rw [h.1], h.2⟩
theorem finL_inv {r : AV} {σ σ' : Sg} {x : Int64} (h : finL r σ = some (x, σ')) : r = vL x ∧ σ = σ' := by
  match r, h with
  | .inr (.inl y), h =>
    have h := Prod.mk.inj (Option.some.inj h)
    exact ⟨by rw [h.1], h.2⟩
theorem finV_inv {r : AV} {σ σ' : Sg} (h : finV r σ = some σ') : r = vU ∧ σ = σ' := by
  match r, h with
  | .inr (.inr (.inr ())), h => exact ⟨rfl, Option.some.inj h⟩
theorem cs_Str_length {l : Launch} {G : ab_Gt} (hG : ab_GG G) {R : Type} : ab_CS (R := R) l G 228 5 cp_Str_length := js_length hG
theorem cs_Str_charAt {l : Launch} {G : ab_Gt} (hG : ab_GG G) {R : Type} : ab_CS (R := R) l G 229 5 cp_Str_charAt := js_charAt hG
