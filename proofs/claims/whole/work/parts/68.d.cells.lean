/-! the worlds behind both makings, as cells of kinds (printed by wip/gen/ctor_g.py) -/
def gPX : List (Nat × Nat) := [(0, 0), (23, 0), (24, 0), (1, 8), (25, 0), (6, 0), (7, 0), (8, 0), (9, 0), (10, 0), (11, 0), (26, 0), (14, 0), (15, 0), (16, 0), (17, 0), (18, 0), (19, 0), (20, 0), (21, 0), (22, 0), (1, 9), (1, 10), (1, 11), (1, 12), (1, 13), (1, 14), (1, 15), (1, 16), (1, 0), (1, 1), (1, 2), (1, 3), (1, 4), (1, 5), (1, 6), (1, 7), (2, 1), (3, 1), (4, 1), (5, 1), (2, 2), (3, 2), (4, 2), (5, 2), (2, 3), (3, 3), (4, 3), (5, 3), (2, 4), (3, 4), (4, 4), (5, 4), (2, 5), (3, 5), (4, 5), (5, 5), (12, 0), (13, 0), (12, 1), (13, 1), (12, 2), (13, 2), (12, 3), (13, 3), (2, 0), (3, 0), (4, 0), (5, 0)]
def tabX : List (List Nat) := [[0], [29, 30, 31, 32, 33, 34, 35, 36, 3, 21, 22, 23, 24, 25, 26, 27, 28], [37, 41, 45, 49, 53, 57], [38, 42, 46, 50, 54, 58], [39, 43, 47, 51, 55, 59], [40, 44, 48, 52, 56, 60], [5], [6], [7], [8], [9], [10], [61, 63, 65, 67], [62, 64, 66, 68], [12], [13], [14], [15], [16], [17], [18], [19], [20], [1], [2], [4], [11]]
def gadX (adK : Nat → Nat) (a61 : Nat) (q : Nat → Nat) : Nat → Nat → Nat := fun g i => if g = 60 then adK i else if g = 61 then a61 else q (ab_nth 0 (ab_nth [] tabX g) i)
def gAsX (q : Nat → Nat) : Nat → Prop := fun a => ∃ k, k < 69 ∧ q k = a
def gWX (D : va_G) (dA : Nat → ClassId) (adK adV : Nat → Nat) (a61 : Nat) (q : Nat → Nat) : ab_Gt := (D, dA, gadX adK a61 q, adV, gAsX q, gPX)
def sgX : Sg := fun g i => match g with
  | 0 => match i with
    | 0 => fun j => ab_nth 0 [0, 0, 0, 0, 0, 1, 0, 0, 0, 0, 0, 0, 0] j
    | _ => fun _ => 0
  | 2 => match i with
    | 0 => fun j => ab_nth 0 [0, 0, 0, 3, 0] j
    | _ => fun _ => 0
  | 3 => match i with
    | 0 => upd (upd (upd (fun _ => 0) 0 (15)) 1 (5)) 2 (3)
    | _ => fun _ => 0
  | 4 => match i with
    | 0 => upd (upd (upd (fun _ => 0) 0 (1)) 1 (2)) 2 (3)
    | _ => fun _ => 0
  | 12 => match i with
    | 0 => fun j => ab_nth 0 [0, (-1), 0] j
    | 1 => fun j => ab_nth 0 [0, (-1), 0] j
    | 2 => fun j => ab_nth 0 [0, (-1), 0] j
    | 3 => fun j => ab_nth 0 [0, (-1), 0] j
    | _ => fun _ => 0
  | 14 => match i with
    | 0 => fun j => ab_nth 0 [0, 0, 0, 0, 1] j
    | _ => fun _ => 0
  | 20 => match i with
    | 0 => fun j => ab_nth 0 [0, 0, (-1), 0] j
    | _ => fun _ => 0
  | 23 => match i with
    | 0 => mf 72
    | _ => fun _ => 0
  | _ => fun _ => 0
-- rows of references: [(2, 'q2', 2, 8, (24, 0)), (4, 'q4', 3, 6, (25, 0)), (11, 'q11', 4, 4, (26, 0)), (20, 'q20', 2, 8, (22, 0))]
def gPM : List (Nat × Nat) := [(32, 0), (33, 0), (34, 0), (35, 0), (36, 0), (37, 0), (38, 0), (39, 0), (40, 0), (41, 0), (42, 0), (43, 0), (44, 0), (45, 0), (46, 0), (47, 0), (48, 0), (49, 0), (50, 0), (30, 0), (31, 0)]
def tabM : List (List Nat) := [[], [], [], [], [], [], [], [], [], [], [], [], [], [], [], [], [], [], [], [], [], [], [], [], [], [], [], [], [], [], [0], [1], [2], [3], [4], [5], [6], [7], [8], [9], [10], [11], [12], [13], [14], [15], [16], [17], [18], [19], [20]]
def gadM (adK : Nat → Nat) (a61 : Nat) (q : Nat → Nat) : Nat → Nat → Nat := fun g i => if g = 60 then adK i else if g = 61 then a61 else q (ab_nth 0 (ab_nth [] tabM g) i)
def gAsM (q : Nat → Nat) : Nat → Prop := fun a => ∃ k, k < 21 ∧ q k = a
def gWM (D : va_G) (dA : Nat → ClassId) (adK adV : Nat → Nat) (a61 : Nat) (q : Nat → Nat) : ab_Gt := (D, dA, gadM adK a61 q, adV, gAsM q, gPM)
def sgM : Sg := fun g i => match g with
  | 30 => match i with
    | 0 => fun j => ab_nth 0 [0, 0, 0, 1, 0, 0, 0, 0, 0, 0, 0, 0, 0, 0, 0, 0, 0, 0, 0, 0, 0, 0, 0, 0, 0, 0, 0, 0, 0, 0, 0, 0, 0, 0, 0, 0, (-1), 0, 0, 0, 0, 0] j
    | _ => fun _ => 0
  | 31 => match i with
    | 0 => upd (upd (upd (upd (upd (upd (upd (upd ((upd (upd (upd (upd (upd (upd (upd (upd ((upd (upd (upd (upd (upd (upd (upd (upd ((upd (upd (upd (upd (upd (upd (upd (upd ((fun _ => 0)) 0 (101)) 1 (97)) 2 (115)) 3 (101)) 4 (115)) 5 (32)) 6 (49)) 7 (53))) 8 (32)) 9 (59)) 10 (32)) 11 (102)) 12 (105)) 13 (110)) 14 (101)) 15 (115))) 16 (32)) 17 (53)) 18 (32)) 19 (59)) 20 (32)) 21 (99)) 22 (111)) 23 (115))) 24 (116)) 25 (115)) 26 (32)) 27 (51)) 28 (32)) 29 (59)) 30 (32)) 31 (32)
    | _ => fun _ => 0
  | 32 => match i with
    | 0 => upd (fun _ => 0) 0 (32)
    | _ => fun _ => 0
  | 34 => match i with
    | 0 => mf 72
    | _ => fun _ => 0
  | _ => fun _ => 0
theorem P_set {D : va_G} {cl : List vw_C} {ws : va_W} {H : Heap} {k : Nat} {q : Nat × va_E} (h : va_P D cl ws H) (hq : va_at D cl q H) : va_P D cl (ws.set k q) H := by
  intro i x hx
  rw [List.getElem?_set] at hx
  split at hx
  · split at hx
    · cases hx; exact hq
    · cases hx
  · exact h i x hx
theorem at_ref {D : va_G} {cl : List vw_C} {a n : Nat} {c : ClassId} {f g : Nat → Option Nat} {H : Heap} (h : va_at D cl (a, .inl (c, n, .inr (.inr (.inr (.inr f))))) H) (e : ∀ j, j < n → f j = g j) : va_at D cl (a, .inl (c, n, .inr (.inr (.inr (.inr g))))) H := by
  have h : H[a]? = some (vp_cell c (n, .inr (.inr (.inr (.inr f))))) := h
  show H[a]? = some (vp_cell c (n, .inr (.inr (.inr (.inr g)))))
  rw [h, vp_cell_q, vp_cell_q]
  unfold arrV
  congr 2
  exact congrArg Array.ofFn (funext fun j => congrArg va_rf (e j.val j.isLt))
theorem D_of_map {A : Nat → Prop} {w1 w2 : va_W} (h : va_D A w1) (e : w1.map Prod.fst = w2.map Prod.fst) : va_D A w2 := by
  have key : ∀ (k : Nat) (q : Nat × va_E), w2[k]? = some q → ∃ q', w1[k]? = some q' ∧ q'.1 = q.1 := by
    intro k q hq
    have h1 : (w2.map Prod.fst)[k]? = some q.1 := by rw [List.getElem?_map, hq]; rfl
    rw [← e, List.getElem?_map] at h1
    cases hw : w1[k]? with
    | none => rw [hw] at h1; cases h1
    | some q' => rw [hw] at h1; exact ⟨q', rfl, Option.some.inj h1⟩
  refine ⟨fun i j p q hp hq hpq => ?_, fun k q hq => ?_⟩
  · obtain ⟨p', h1, h2⟩ := key i p hp
    obtain ⟨q', h3, h4⟩ := key j q hq
    exact h.1 i j p' q' h1 h3 (by rw [h2, h4]; exact hpq)
  · obtain ⟨q', h1, h2⟩ := key k q hq
    rw [← h2]
    exact h.2 k q' h1
theorem ws_map (G : ab_Gt) (σ σ' : Sg) : (ab_ws G σ).map Prod.fst = (ab_ws G σ').map Prod.fst := by
  unfold ab_ws
  rw [List.map_map, List.map_map]
  rfl
theorem GG_of {D : va_G} {dA : Nat → ClassId} {ad : Nat → Nat → Nat} {adV : Nat → Nat} {A : Nat → Prop} {L : List (Nat × Nat)} {σ0 : Sg} (h0 : va_D A (ab_ws (D, dA, ad, adV, A, L) σ0)) (h1 : L.Nodup) (h2 : (L.all fun p => (ab_fds p.1).all fun f => !(f.1 == 2) || decide ((f.2.1, p.2 + f.2.2) ∈ L)) = true) (h3 : (L.all fun p => !(ab_kd p.1 == 3) || (List.range (ab_len p.1)).all fun j => decide (((ab_refs p.1).1, j + (ab_refs p.1).2) ∈ L)) = true) (h4 : (L.all fun p => !(ab_kd p.1 == 9)) = true) : ab_GG (D, dA, ad, adV, A, L) := by
  refine ⟨fun σ => D_of_map h0 (ws_map _ _ _), h1, fun g i hg k f hf hf2 => ?_, fun g i hg hk j hj => ?_, fun q hq => ?_⟩
  · have a := List.all_eq_true.mp (List.all_eq_true.mp h2 _ hg) f (List.mem_of_getElem? hf)
    rw [hf2] at a
    exact of_decide_eq_true (by simpa using a)
  · have a := List.all_eq_true.mp h3 _ hg
    have hk : ab_kd g = 3 := hk
    simp only [hk, beq_self_eq_true, Bool.not_true, Bool.false_or] at a
    exact of_decide_eq_true (List.all_eq_true.mp a j (List.mem_range.mpr hj))
  · have a := List.all_eq_true.mp h4 _ hq
    simpa using a
section
variable {D : va_G} {dA : Nat → ClassId} {adK adV : Nat → Nat} {a61 : Nat} {q : Nat → Nat} {A : Nat → Prop} {H : Heap}
set_option maxRecDepth 100000 in
theorem wX_map : (wdX dA q).map Prod.fst = (ab_ws (gWX D dA adK adV a61 q) sgX).map Prod.fst := rfl
set_option maxRecDepth 100000 in
theorem wM_eq : wdM dA q = ab_ws (gWM D dA adK adV a61 q) sgM := rfl
set_option maxRecDepth 100000 in
theorem wX_P (h : va_P D ab_cl (wdX dA q) H) : va_P D ab_cl (ab_ws (gWX D dA adK adV a61 q) sgX) H := by
  have e0 := h 2 _ rfl
  have e1 := h 4 _ rfl
  have e2 := h 11 _ rfl
  have e3 := h 20 _ rfl
  have f0 : va_at D ab_cl (q 2, .inl (dA 2, 8, .inr (.inr (.inr (.inr (fun j => some (gadX adK a61 q 1 (j + 0)))))))) H := at_ref e0 (fun j hj => by rcases (show j = 0 ∨ j = 1 ∨ j = 2 ∨ j = 3 ∨ j = 4 ∨ j = 5 ∨ j = 6 ∨ j = 7 by omega) with rfl | rfl | rfl | rfl | rfl | rfl | rfl | rfl <;> rfl)
  have f1 : va_at D ab_cl (q 4, .inl (dA 3, 6, .inr (.inr (.inr (.inr (fun j => some (gadX adK a61 q 2 (j + 0)))))))) H := at_ref e1 (fun j hj => by rcases (show j = 0 ∨ j = 1 ∨ j = 2 ∨ j = 3 ∨ j = 4 ∨ j = 5 by omega) with rfl | rfl | rfl | rfl | rfl | rfl <;> rfl)
  have f2 : va_at D ab_cl (q 11, .inl (dA 4, 4, .inr (.inr (.inr (.inr (fun j => some (gadX adK a61 q 12 (j + 0)))))))) H := at_ref e2 (fun j hj => by rcases (show j = 0 ∨ j = 1 ∨ j = 2 ∨ j = 3 by omega) with rfl | rfl | rfl | rfl <;> rfl)
  have f3 : va_at D ab_cl (q 20, .inl (dA 2, 8, .inr (.inr (.inr (.inr (fun j => some (gadX adK a61 q 1 (j + 9)))))))) H := at_ref e3 (fun j hj => by rcases (show j = 0 ∨ j = 1 ∨ j = 2 ∨ j = 3 ∨ j = 4 ∨ j = 5 ∨ j = 6 ∨ j = 7 by omega) with rfl | rfl | rfl | rfl | rfl | rfl | rfl | rfl <;> rfl)
  exact (P_set (k := 20) (P_set (k := 11) (P_set (k := 4) (P_set (k := 2) h f0) f1) f2) f3)
end
