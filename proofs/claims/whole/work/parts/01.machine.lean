/-! An abstract machine over which the methods' bytecode is read: cells are (kind, number, place), answers are carried on (a text's 'k'); what it answers, the machine answers (part 02). -/
abbrev AV : Type := Int32 ⊕ (Int64 ⊕ ((Nat × Nat) ⊕ Unit))
abbrev vI (x : Int32) : AV := .inl x
abbrev vL (x : Int64) : AV := .inr (.inl x)
abbrev vR (g i : Nat) : AV := .inr (.inr (.inl (g, i)))
abbrev vU : AV := .inr (.inr (.inr ()))
abbrev Sg : Type := Nat → Nat → Nat → Int32
def upd3 (σ : Sg) (g i j : Nat) (x : Int32) : Sg := fun g' i' j' => if g' = g ∧ i' = i ∧ j' = j then x else σ g' i' j'
/-- n numbers of a row come to another one -/
def cpy3 (σ : Sg) (g i sp g' i' dp n : Nat) : Sg := fun a b j => if a = g' ∧ b = i' ∧ dp ≤ j ∧ j < dp + n then σ g i (sp + (j - dp)) else σ a b j
abbrev AOp : Type := Nat × Nat × Nat × AV × List (Int × Nat)
def ab_nth {α : Type} (d : α) : List α → Nat → α
  | [], _ => d
  | x :: _, 0 => x
  | _ :: r, n + 1 => ab_nth d r n
/-- the lengths of the rows, by kind -/
def ab_lens : List Nat := [0, 0, 0, 160, 3, 40, 0, 160, 161, 161, 161, 0, 0, 40, 0, 216, 216, 216, 216, 24, 0, 72, 8, 72, 8, 6, 4, 0, 0, 0, 0, 960, 6, 160, 72, 8, 24, 24, 9, 9, 225, 216, 216, 24, 24, 72, 24, 4, 4, 4, 160]
abbrev ab_len (g : Nat) : Nat := ab_nth 0 ab_lens g
/-- of rows of references: the kind and the first number that they hold -/
def ab_refs : Nat → Nat × Nat := fun g => match g with
  | 22 => (1, 9)
  | 24 => (1, 0)
  | 25 => (2, 0)
  | 26 => (12, 0)
  | _ => (0, 0)
def ab_i2 (a : Nat) (x y : Int32) : Int32 := match a with
  | 0 => x + y
  | 1 => x - y
  | 2 => x * y
  | 3 => x &&& y
  | 4 => x ||| y
  | 5 => x <<< (y &&& 31)
  | 6 => x >>> (y &&& 31)
  | _ => (x.toUInt32 >>> (y.toUInt32 &&& 31)).toInt32
def ab_l2 (a : Nat) (x y : Int64) : Int64 := match a with
  | 0 => x + y
  | 1 => x - y
  | _ => x * y
def ab_ka (j : Nat) : Int32 := ab_nth 0 [-1, 0, 0, 1, 2, 0] j
/-- the 12 words of the class: their letters -/
def ab_words : List (List Nat) := [[101, 97, 115, 101, 115], [102, 105, 110, 101, 115], [99, 111, 115, 116, 115], [111, 114], [97, 110, 100], [110, 111, 116], [99, 117, 116], [109, 111, 111, 100], [110, 117, 109, 98, 101, 114], [104, 111, 117, 114], [119, 111, 114, 110], [111, 102, 102]]
def ab_word (k : Nat) : List Nat := ab_nth [] ab_words k
def ab_set (L : List AV) (i : Nat) (v : AV) : List AV := match L, i with
  | [], _ => []
  | _ :: r, 0 => v :: r
  | x :: r, n + 1 => x :: ab_set r n v
def ab_isL (v : AV) : Bool := match v with
  | .inr (.inl _) => true
  | _ => false
def ab_un (v : AV) : AV := match v with
  | .inr (.inl _) => vU
  | v => v
/-- a local is laid; a long whose half it takes is gone -/
def ab_sto (L : List AV) (i : Nat) (v : AV) : List AV := match i with
  | 0 => ab_set L 0 v
  | n + 1 => ab_set (ab_set L n (ab_un (ab_nth vU L n))) (n + 1) v
def ab_cat (v : AV) : Nat := match v with
  | .inr (.inl _) => 2
  | _ => 1
def ab_cats : List AV → Nat
  | [] => 0
  | v :: r => ab_cat v + ab_cats r
/-- one step that neither jumps nor calls -/
def ab_st {R : Type} (op : AOp) (L st : List AV) (σ : Sg) (k : List AV → List AV → Sg → Option R) : Option R := match op with
  | (0, _, _, v, _) => k L (v :: st) σ
  | (1, a, _, _, _) => match ab_nth vU L a with
    | .inl x => k L (vI x :: st) σ
    | _ => none
  | (2, a, _, _, _) => match ab_nth vU L a with
    | .inr (.inl x) => k L (vL x :: st) σ
    | _ => none
  | (3, a, _, _, _) => match ab_nth vU L a with
    | .inr (.inr (.inl r)) => k L (.inr (.inr (.inl r)) :: st) σ
    | _ => none
  | (4, a, _, _, _) => match st with
    | .inl x :: st => k (ab_sto L a (vI x)) st σ
    | _ => none
  | (5, a, _, _, _) => match st with
    | .inr (.inl x) :: st => k (ab_set (ab_sto L a (vL x)) (a + 1) vU) st σ
    | _ => none
  | (6, a, _, _, _) => match st with
    | .inr (.inr (.inl r)) :: st => k (ab_sto L a (.inr (.inr (.inl r)))) st σ
    | _ => none
  | (7, a, _, v, _) => match ab_nth vU L a, v with
    | .inl x, .inl y => k (ab_set L a (vI (x + y))) st σ
    | _, _ => none
  | (8, a, _, _, _) => match st with
    | .inl y :: .inl x :: st => k L (vI (ab_i2 a x y) :: st) σ
    | _ => none
  | (9, a, _, _, _) => match st with
    | .inl y :: .inl x :: st => if y = 0 then none else k L (vI (match a with | 0 => x / y | _ => x - x / y * y) :: st) σ
    | _ => none
  | (10, a, _, _, _) => match st with
    | .inl x :: st => k L (vI (match a with | 0 => -x | 1 => x.toInt8.toInt32 | _ => x.toInt16.toInt32) :: st) σ
    | _ => none
  | (11, _, _, _, _) => match st with
    | .inl x :: st => k L (vL x.toInt64 :: st) σ
    | _ => none
  | (12, _, _, _, _) => match st with
    | .inr (.inl x) :: st => k L (vI x.toInt32 :: st) σ
    | _ => none
  | (13, a, _, _, _) => match st with
    | .inr (.inl y) :: .inr (.inl x) :: st => k L (vL (ab_l2 a x y) :: st) σ
    | _ => none
  | (14, a, _, _, _) => match st with
    | .inr (.inl y) :: .inr (.inl x) :: st => if y = 0 then none else k L (vL (match a with | 0 => x / y | _ => x - x / y * y) :: st) σ
    | _ => none
  | (15, _, _, _, _) => match st with
    | .inr (.inl y) :: .inr (.inl x) :: st => k L (vI (lg_cmp x y) :: st) σ
    | _ => none
  | (16, _, _, _, _) => match st with
    | .inl x :: st => k L (vI x :: vI x :: st) σ
    | .inr (.inr (.inl r)) :: st => k L (.inr (.inr (.inl r)) :: .inr (.inr (.inl r)) :: st) σ
    | _ => none
  | (17, _, _, _, _) => match st with
    | .inl _ :: st => k L st σ
    | _ => none
  | (18, a, b, _, _) => match st with
    | .inr (.inr (.inl (g, i))) :: st => match Nat.beq g a with
      | true => k L (vI (σ a i b) :: st) σ
      | false => none
    | _ => none
  | (19, a, b, _, _) => match st with
    | .inr (.inr (.inl (g, i))) :: st => match Nat.beq g a with
      | true => k L (vL (σ a i b).toInt64 :: st) σ
      | false => none
    | _ => none
  | (20, a, _, v, _) => match st, v with
    | .inr (.inr (.inl (g, i))) :: st, .inr (.inr (.inl (g', o))) => match Nat.beq g a with
      | true => k L (vR g' (i + o) :: st) σ
      | false => none
    | _, _ => none
  | (21, a, b, _, _) => match st with
    | .inl x :: .inr (.inr (.inl (g, i))) :: st => match Nat.beq g a with
      | true => k L st (upd3 σ a i b x)
      | false => none
    | _ => none
  | (22, a, b, _, _) => match st with
    | .inl x :: .inr (.inr (.inl (g, i))) :: st => match Nat.beq g a with
      | true => if x = 0 then k L st (upd3 σ a i b 0) else if x = 1 then k L st (upd3 σ a i b 1) else none
      | false => none
    | _ => none
  | (23, a, b, _, _) => match st with
    | .inr (.inl x) :: .inr (.inr (.inl (g, i))) :: st => match Nat.beq g a with
      | true => if x.toInt32.toInt64 = x then k L st (upd3 σ a i b x.toInt32) else none
      | false => none
    | _ => none
  | (24, a, _, _, _) => match st with
    | .inl j :: .inr (.inr (.inl (g, i))) :: st => match Nat.beq g a with
      | true => if j < 0 then none else if ab_len a ≤ j.toNatClampNeg then none else k L (vI (σ a i j.toNatClampNeg) :: st) σ
      | false => none
    | _ => none
  | (25, a, _, _, _) => match st with
    | .inl x :: .inl j :: .inr (.inr (.inl (g, i))) :: st => match Nat.beq g a with
      | true => if j < 0 then none else if ab_len a ≤ j.toNatClampNeg then none else k L st (upd3 σ a i j.toNatClampNeg x)
      | false => none
    | _ => none
  | (26, a, _, _, _) => match st with
    | .inl j :: .inr (.inr (.inl (g, i))) :: st => match Nat.beq g a with
      | true => if j < 0 then none else if ab_len a ≤ j.toNatClampNeg then none else k L (vI (σ a i j.toNatClampNeg) :: st) σ
      | false => none
    | _ => none
  | (27, a, _, _, _) => match st with
    | .inl x :: .inl j :: .inr (.inr (.inl (g, i))) :: st => match Nat.beq g a with
      | true => if j < 0 then none else if ab_len a ≤ j.toNatClampNeg then none else k L st (upd3 σ a i j.toNatClampNeg (x &&& 1))
      | false => none
    | _ => none
  | (28, a, _, _, _) => match st with
    | .inl j :: .inr (.inr (.inl (g, _))) :: st => match Nat.beq g a with
      | true => if j < 0 then none else if ab_len a ≤ j.toNatClampNeg then none else k L (vR (ab_refs a).1 (j.toNatClampNeg + (ab_refs a).2) :: st) σ
      | false => none
    | _ => none
  | (29, a, _, _, _) => match st with
    | .inl y :: .inl x :: st => match Nat.ble (ab_cats st) 8 with
      | true => k L (vI (match a with | 0 => if x < y then y else x | _ => if y < x then y else x) :: st) σ
      | false => none
    | _ => none
  | (30, _, _, _, _) => match st with
    | .inl x :: st => match Nat.ble (ab_cats st) 8 with
      | true => k L (vI (if 0 ≤ x then x else 0 - x) :: st) σ
      | false => none
    | _ => none
  | (31, a, b, _, _) => match st with
    | .inl n :: .inl dp :: .inr (.inr (.inl (g', i'))) :: .inl sp :: .inr (.inr (.inl (g, i))) :: st => match Nat.beq g a && Nat.beq g' b && Nat.ble (ab_cats st) 8 with
      | true => if sp < 0 then none else if dp < 0 then none else if n < 0 then none else if ab_len a < sp.toNatClampNeg + n.toNatClampNeg then none else if ab_len b < dp.toNatClampNeg + n.toNatClampNeg then none else k L st (cpy3 σ a i sp.toNatClampNeg b i' dp.toNatClampNeg n.toNatClampNeg)
      | false => none
    | _ => none
  | (34, _, _, _, _) => match st with
    | .inl j :: .inr (.inr (.inl (61, _))) :: st => if j < 0 then none else if 6 ≤ j.toNatClampNeg then none else k L (vI (ab_ka j.toNatClampNeg) :: st) σ
    | _ => none
  | _ => none
def ab_lk {α : Type} : List (Nat × α) → Nat → Option α
  | [], _ => none
  | (i, x) :: r, n => match Nat.beq i n with
    | true => some x
    | false => ab_lk r n
abbrev ACall (R : Type) : Type := List AV → Sg → (AV → Sg → Option R) → Option R
abbrev ACut (R : Type) : Type := List AV → List AV → Sg → Option R
def ab_sw {R : Type} (x : Int32) (j : Nat → Option R) (d : Nat) : List (Int × Nat) → Option R
  | [] => j d
  | (c, t) :: r => if x = Int32.ofInt c then j t else ab_sw x j d r
def ab_cnd {R : Type} (c : Nat) (x y : Int32) (A B : Option R) : Option R := match c with
  | 0 => if x = y then A else B
  | 1 => if x = y then B else A
  | 2 => if x < y then A else B
  | 3 => if x < y then B else A
  | 4 => if y < x then A else B
  | _ => if y < x then B else A
/-- n of the stack, the deepest first -/
def ab_pop : Nat → List AV → List AV → Option (List AV × List AV)
  | 0, st, acc => some (acc, st)
  | _ + 1, [], _ => none
  | n + 1, v :: st, acc => ab_pop n st (v :: acc)
def ab_ev {R : Type} (tab : List (Nat × List AOp)) (Os : List (Nat × ACall R)) (Ks : List (Nat × ACut R)) (fin : AV → Sg → Option R) : Nat → List AOp → List AV → List AV → Sg → Option R
  | 0, _, _, _, _ => none
  | _ + 1, [], _, _, _ => none
  | n + 1, (k, a, b, v, ts) :: ops, L, st, σ => match k with
    | 40 => match ab_lk Ks a with
      | some c => c L st σ
      | none => match ab_lk tab a with
        | some o => ab_ev tab Os Ks fin n o L st σ
        | none => none
    | 41 => match st with
      | .inl x :: st => ab_cnd a x 0 (match ab_lk Ks b with
          | some c => c L st σ
          | none => match ab_lk tab b with
            | some o => ab_ev tab Os Ks fin n o L st σ
            | none => none) (ab_ev tab Os Ks fin n ops L st σ)
      | _ => none
    | 42 => match st with
      | .inl y :: .inl x :: st => ab_cnd a x y (match ab_lk Ks b with
          | some c => c L st σ
          | none => match ab_lk tab b with
            | some o => ab_ev tab Os Ks fin n o L st σ
            | none => none) (ab_ev tab Os Ks fin n ops L st σ)
      | _ => none
    | 43 => match st with
      | .inl x :: st => ab_sw x (fun t => match ab_lk Ks t with
          | some c => c L st σ
          | none => match ab_lk tab t with
            | some o => ab_ev tab Os Ks fin n o L st σ
            | none => none) a ts
      | _ => none
    | 44 => match ab_pop b st [] with
      | some (as, st') => match Nat.ble (ab_cats st') 8 with
        | true => match ab_lk Os a with
          | some f => f as σ (fun r σ1 => match r with
            | .inr (.inr (.inr _)) => ab_ev tab Os Ks fin n ops L st' σ1
            | .inl x => ab_ev tab Os Ks fin n ops L (vI x :: st') σ1
            | .inr (.inl x) => ab_ev tab Os Ks fin n ops L (vL x :: st') σ1
            | _ => none)
          | none => none
        | false => none
      | none => none
    | 45 => match a with
      | 0 => match st with
        | [] => fin vU σ
        | _ => none
      | 1 => match st with
        | [.inl x] => fin (vI x) σ
        | _ => none
      | 3 => match st with
        | [.inl x] => fin (vI (x &&& 1)) σ
        | _ => none
      | _ => match st with
        | [.inr (.inl x)] => fin (vL x) σ
        | _ => none
    | _ => ab_st (k, a, b, v, ts) L st σ (fun L' st' σ' => ab_ev tab Os Ks fin n ops L' st' σ')
/-- 1000, but nothing unfolds it -/
noncomputable def FU : Nat := Classical.choose (⟨1000, rfl⟩ : ∃ n : Nat, n = 1000)
theorem FU_eq : FU = 1000 := Classical.choose_spec (⟨1000, rfl⟩ : ∃ n : Nat, n = 1000)
/-- 40, but nothing unfolds it -/
noncomputable def RD : Nat := Classical.choose (⟨40, rfl⟩ : ∃ n : Nat, n = 40)
theorem RD_eq : RD = 40 := Classical.choose_spec (⟨40, rfl⟩ : ∃ n : Nat, n = 40)
abbrev finI (r : AV) (σ : Sg) : Option (Int32 × Sg) := match r with
  | .inl x => some (x, σ)
  | _ => none
abbrev finL (r : AV) (σ : Sg) : Option (Int64 × Sg) := match r with
  | .inr (.inl x) => some (x, σ)
  | _ => none
abbrev finV (r : AV) (σ : Sg) : Option Sg := match r with
  | .inr (.inr (.inr _)) => some σ
  | _ => none
