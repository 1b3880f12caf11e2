section
/-! An abstract machine over which the methods' bytecode is read: cells are (kind, number, place), answers are carried on (a text's 'k'); what it answers, the machine answers (part 02). -/
abbrev AV : Type := Int32 ⊕ (Int64 ⊕ ((Nat × Nat) ⊕ Unit))
abbrev vI (x : Int32) : AV := .inl x
abbrev vL (x : Int64) : AV := .inr (.inl x)
abbrev vR (g i : Nat) : AV := .inr (.inr (.inl (g, i)))
abbrev vU : AV := .inr (.inr (.inr ()))
abbrev Sg : Type := Nat → Nat → Nat → Int32
def upd3 (σ : Sg) (g i j : Nat) (x : Int32) : Sg := fun g' i' j' => if g' = g ∧ i' = i ∧ j' = j then x else σ g' i' j'
/-- n numbers of a row come to another one -/
def cpy3 (σ : Sg) (g i sp g' i' dp n : Nat) : Sg := fun a b j => if a = g' ∧ b = i' ∧ dp ≤ j ∧ j < dp + n then σ g i (sp + (j - dp)) else σ a b j
abbrev AOp : Type := Nat × Nat × Nat × AV × List (Int × Nat)
def ab_nth {α : Type} (d : α) : List α → Nat → α
  | [], _ => d
  | x :: _, 0 => x
  | _ :: r, n + 1 => ab_nth d r n
/-- the lengths of the rows, by kind -/
def ab_lens : List Nat := [0, 0, 0, 160, 3, 40, 0, 160, 161, 161, 161, 0, 0, 40, 0, 216, 216, 216, 216, 24, 0, 72, 8, 72, 8, 6, 4, 0, 0, 0, 0, 960, 6, 160, 72, 8, 24, 24, 9, 9, 225, 216, 216, 24, 24, 72, 24, 4, 4, 4, 160]
abbrev ab_len (g : Nat) : Nat := ab_nth 0 ab_lens g
/-- of rows of references: the kind and the first number that they hold -/
def ab_refs : Nat → Nat × Nat := fun g => match g with
  | 22 => (1, 9)
  | 24 => (1, 0)
  | 25 => (2, 0)
  | 26 => (12, 0)
  | _ => (0, 0)
def ab_i2 (a : Nat) (x y : Int32) : Int32 := match a with
  | 0 => x + y
  | 1 => x - y
  | 2 => x * y
  | 3 => x &&& y
  | 4 => x ||| y
  | 5 => x <<< (y &&& 31)
  | 6 => x >>> (y &&& 31)
  | _ => (x.toUInt32 >>> (y.toUInt32 &&& 31)).toInt32
def ab_l2 (a : Nat) (x y : Int64) : Int64 := match a with
  | 0 => x + y
  | 1 => x - y
  | _ => x * y
def ab_ka (j : Nat) : Int32 := ab_nth 0 [-1, 0, 0, 1, 2, 0] j
/-- the 12 words of the class: their letters -/
def ab_words : List (List Nat) := [[101, 97, 115, 101, 115], [102, 105, 110, 101, 115], [99, 111, 115, 116, 115], [111, 114], [97, 110, 100], [110, 111, 116], [99, 117, 116], [109, 111, 111, 100], [110, 117, 109, 98, 101, 114], [104, 111, 117, 114], [119, 111, 114, 110], [111, 102, 102]]
def ab_word (k : Nat) : List Nat := ab_nth [] ab_words k
def ab_set (L : List AV) (i : Nat) (v : AV) : List AV := match L, i with
  | [], _ => []
  | _ :: r, 0 => v :: r
  | x :: r, n + 1 => x :: ab_set r n v
def ab_isL (v : AV) : Bool := match v with
  | .inr (.inl _) => true
  | _ => false
def ab_un (v : AV) : AV := match v with
  | .inr (.inl _) => vU
  | v => v
/-- a local is laid; a long whose half it takes is gone -/
def ab_sto (L : List AV) (i : Nat) (v : AV) : List AV := match i with
  | 0 => ab_set L 0 v
  | n + 1 => ab_set (ab_set L n (ab_un (ab_nth vU L n))) (n + 1) v
def ab_cat (v : AV) : Nat := match v with
  | .inr (.inl _) => 2
  | _ => 1
def ab_cats : List AV → Nat
  | [] => 0
  | v :: r => ab_cat v + ab_cats r
/-- one step that neither jumps nor calls -/
def ab_st {R : Type} (op : AOp) (L st : List AV) (σ : Sg) (k : List AV → List AV → Sg → Option R) : Option R := match op with
  | (0, _, _, v, _) => k L (v :: st) σ
  | (1, a, _, _, _) => match ab_nth vU L a with
    | .inl x => k L (vI x :: st) σ
    | _ => none
  | (2, a, _, _, _) => match ab_nth vU L a with
    | .inr (.inl x) => k L (vL x :: st) σ
    | _ => none
  | (3, a, _, _, _) => match ab_nth vU L a with
    | .inr (.inr (.inl r)) => k L (.inr (.inr (.inl r)) :: st) σ
    | _ => none
  | (4, a, _, _, _) => match st with
    | .inl x :: st => k (ab_sto L a (vI x)) st σ
    | _ => none
  | (5, a, _, _, _) => match st with
    | .inr (.inl x) :: st => k (ab_set (ab_sto L a (vL x)) (a + 1) vU) st σ
    | _ => none
  | (6, a, _, _, _) => match st with
    | .inr (.inr (.inl r)) :: st => k (ab_sto L a (.inr (.inr (.inl r)))) st σ
    | _ => none
  | (7, a, _, v, _) => match ab_nth vU L a, v with
    | .inl x, .inl y => k (ab_set L a (vI (x + y))) st σ
    | _, _ => none
  | (8, a, _, _, _) => match st with
    | .inl y :: .inl x :: st => k L (vI (ab_i2 a x y) :: st) σ
    | _ => none
  | (9, a, _, _, _) => match st with
    | .inl y :: .inl x :: st => if y = 0 then none else k L (vI (match a with | 0 => x / y | _ => x - x / y * y) :: st) σ
    | _ => none
  | (10, a, _, _, _) => match st with
    | .inl x :: st => k L (vI (match a with | 0 => -x | 1 => x.toInt8.toInt32 | _ => x.toInt16.toInt32) :: st) σ
    | _ => none
  | (11, _, _, _, _) => match st with
    | .inl x :: st => k L (vL x.toInt64 :: st) σ
    | _ => none
  | (12, _, _, _, _) => match st with
    | .inr (.inl x) :: st => k L (vI x.toInt32 :: st) σ
    | _ => none
  | (13, a, _, _, _) => match st with
    | .inr (.inl y) :: .inr (.inl x) :: st => k L (vL (ab_l2 a x y) :: st) σ
    | _ => none
  | (14, a, _, _, _) => match st with
    | .inr (.inl y) :: .inr (.inl x) :: st => if y = 0 then none else k L (vL (match a with | 0 => x / y | _ => x - x / y * y) :: st) σ
    | _ => none
  | (15, _, _, _, _) => match st with
    | .inr (.inl y) :: .inr (.inl x) :: st => k L (vI (lg_cmp x y) :: st) σ
    | _ => none
  | (16, _, _, _, _) => match st with
    | .inl x :: st => k L (vI x :: vI x :: st) σ
    | .inr (.inr (.inl r)) :: st => k L (.inr (.inr (.inl r)) :: .inr (.inr (.inl r)) :: st) σ
    | _ => none
  | (17, _, _, _, _) => match st with
    | .inl _ :: st => k L st σ
    | _ => none
  | (18, a, b, _, _) => match st with
    | .inr (.inr (.inl (g, i))) :: st => match Nat.beq g a with
      | true => k L (vI (σ a i b) :: st) σ
      | false => none
    | _ => none
  | (19, a, b, _, _) => match st with
    | .inr (.inr (.inl (g, i))) :: st => match Nat.beq g a with
      | true => k L (vL (σ a i b).toInt64 :: st) σ
      | false => none
    | _ => none
  | (20, a, _, v, _) => match st, v with
    | .inr (.inr (.inl (g, i))) :: st, .inr (.inr (.inl (g', o))) => match Nat.beq g a with
      | true => k L (vR g' (i + o) :: st) σ
      | false => none
    | _, _ => none
  | (21, a, b, _, _) => match st with
    | .inl x :: .inr (.inr (.inl (g, i))) :: st => match Nat.beq g a with
      | true => k L st (upd3 σ a i b x)
      | false => none
    | _ => none
  | (22, a, b, _, _) => match st with
    | .inl x :: .inr (.inr (.inl (g, i))) :: st => match Nat.beq g a with
      | true => if x = 0 then k L st (upd3 σ a i b 0) else if x = 1 then k L st (upd3 σ a i b 1) else none
      | false => none
    | _ => none
  | (23, a, b, _, _) => match st with
    | .inr (.inl x) :: .inr (.inr (.inl (g, i))) :: st => match Nat.beq g a with
      | true => if x.toInt32.toInt64 = x then k L st (upd3 σ a i b x.toInt32) else none
      | false => none
    | _ => none
  | (24, a, _, _, _) => match st with
    | .inl j :: .inr (.inr (.inl (g, i))) :: st => match Nat.beq g a with
      | true => if j < 0 then none else if ab_len a ≤ j.toNatClampNeg then none else k L (vI (σ a i j.toNatClampNeg) :: st) σ
      | false => none
    | _ => none
  | (25, a, _, _, _) => match st with
    | .inl x :: .inl j :: .inr (.inr (.inl (g, i))) :: st => match Nat.beq g a with
      | true => if j < 0 then none else if ab_len a ≤ j.toNatClampNeg then none else k L st (upd3 σ a i j.toNatClampNeg x)
      | false => none
    | _ => none
  | (26, a, _, _, _) => match st with
    | .inl j :: .inr (.inr (.inl (g, i))) :: st => match Nat.beq g a with
      | true => if j < 0 then none else if ab_len a ≤ j.toNatClampNeg then none else k L (vI (σ a i j.toNatClampNeg) :: st) σ
      | false => none
    | _ => none
  | (27, a, _, _, _) => match st with
    | .inl x :: .inl j :: .inr (.inr (.inl (g, i))) :: st => match Nat.beq g a with
      | true => if j < 0 then none else if ab_len a ≤ j.toNatClampNeg then none else k L st (upd3 σ a i j.toNatClampNeg (x &&& 1))
      | false => none
    | _ => none
  | (28, a, _, _, _) => match st with
    | .inl j :: .inr (.inr (.inl (g, _))) :: st => match Nat.beq g a with
      | true => if j < 0 then none else if ab_len a ≤ j.toNatClampNeg then none else k L (vR (ab_refs a).1 (j.toNatClampNeg + (ab_refs a).2) :: st) σ
      | false => none
    | _ => none
  | (29, a, _, _, _) => match st with
    | .inl y :: .inl x :: st => match Nat.ble (ab_cats st) 8 with
      | true => k L (vI (match a with | 0 => if x < y then y else x | _ => if y < x then y else x) :: st) σ
      | false => none
    | _ => none
  | (30, _, _, _, _) => match st with
    | .inl x :: st => match Nat.ble (ab_cats st) 8 with
      | true => k L (vI (if 0 ≤ x then x else 0 - x) :: st) σ
      | false => none
    | _ => none
  | (31, a, b, _, _) => match st with
    | .inl n :: .inl dp :: .inr (.inr (.inl (g', i'))) :: .inl sp :: .inr (.inr (.inl (g, i))) :: st => match Nat.beq g a && Nat.beq g' b && Nat.ble (ab_cats st) 8 with
      | true => if sp < 0 then none else if dp < 0 then none else if n < 0 then none else if ab_len a < sp.toNatClampNeg + n.toNatClampNeg then none else if ab_len b < dp.toNatClampNeg + n.toNatClampNeg then none else k L st (cpy3 σ a i sp.toNatClampNeg b i' dp.toNatClampNeg n.toNatClampNeg)
      | false => none
    | _ => none
  | (34, _, _, _, _) => match st with
    | .inl j :: .inr (.inr (.inl (61, _))) :: st => if j < 0 then none else if 6 ≤ j.toNatClampNeg then none else k L (vI (ab_ka j.toNatClampNeg) :: st) σ
    | _ => none
  | _ => none
def ab_lk {α : Type} : List (Nat × α) → Nat → Option α
  | [], _ => none
  | (i, x) :: r, n => match Nat.beq i n with
    | true => some x
    | false => ab_lk r n
abbrev ACall (R : Type) : Type := List AV → Sg → (AV → Sg → Option R) → Option R
abbrev ACut (R : Type) : Type := List AV → List AV → Sg → Option R
def ab_sw {R : Type} (x : Int32) (j : Nat → Option R) (d : Nat) : List (Int × Nat) → Option R
  | [] => j d
  | (c, t) :: r => if x = Int32.ofInt c then j t else ab_sw x j d r
def ab_cnd {R : Type} (c : Nat) (x y : Int32) (A B : Option R) : Option R := match c with
  | 0 => if x = y then A else B
  | 1 => if x = y then B else A
  | 2 => if x < y then A else B
  | 3 => if x < y then B else A
  | 4 => if y < x then A else B
  | _ => if y < x then B else A
/-- n of the stack, the deepest first -/
def ab_pop : Nat → List AV → List AV → Option (List AV × List AV)
  | 0, st, acc => some (acc, st)
  | _ + 1, [], _ => none
  | n + 1, v :: st, acc => ab_pop n st (v :: acc)
def ab_ev {R : Type} (tab : List (Nat × List AOp)) (Os : List (Nat × ACall R)) (Ks : List (Nat × ACut R)) (fin : AV → Sg → Option R) : Nat → List AOp → List AV → List AV → Sg → Option R
  | 0, _, _, _, _ => none
  | _ + 1, [], _, _, _ => none
  | n + 1, (k, a, b, v, ts) :: ops, L, st, σ => match k with
    | 40 => match ab_lk Ks a with
      | some c => c L st σ
      | none => match ab_lk tab a with
        | some o => ab_ev tab Os Ks fin n o L st σ
        | none => none
    | 41 => match st with
      | .inl x :: st => ab_cnd a x 0 (match ab_lk Ks b with
          | some c => c L st σ
          | none => match ab_lk tab b with
            | some o => ab_ev tab Os Ks fin n o L st σ
            | none => none) (ab_ev tab Os Ks fin n ops L st σ)
      | _ => none
    | 42 => match st with
      | .inl y :: .inl x :: st => ab_cnd a x y (match ab_lk Ks b with
          | some c => c L st σ
          | none => match ab_lk tab b with
            | some o => ab_ev tab Os Ks fin n o L st σ
            | none => none) (ab_ev tab Os Ks fin n ops L st σ)
      | _ => none
    | 43 => match st with
      | .inl x :: st => ab_sw x (fun t => match ab_lk Ks t with
          | some c => c L st σ
          | none => match ab_lk tab t with
            | some o => ab_ev tab Os Ks fin n o L st σ
            | none => none) a ts
      | _ => none
    | 44 => match ab_pop b st [] with
      | some (as, st') => match Nat.ble (ab_cats st') 8 with
        | true => match ab_lk Os a with
          | some f => f as σ (fun r σ1 => match r with
            | .inr (.inr (.inr _)) => ab_ev tab Os Ks fin n ops L st' σ1
            | .inl x => ab_ev tab Os Ks fin n ops L (vI x :: st') σ1
            | .inr (.inl x) => ab_ev tab Os Ks fin n ops L (vL x :: st') σ1
            | _ => none)
          | none => none
        | false => none
      | none => none
    | 45 => match a with
      | 0 => match st with
        | [] => fin vU σ
        | _ => none
      | 1 => match st with
        | [.inl x] => fin (vI x) σ
        | _ => none
      | 3 => match st with
        | [.inl x] => fin (vI (x &&& 1)) σ
        | _ => none
      | _ => match st with
        | [.inr (.inl x)] => fin (vL x) σ
        | _ => none
    | _ => ab_st (k, a, b, v, ts) L st σ (fun L' st' σ' => ab_ev tab Os Ks fin n ops L' st' σ')
/-- 1000, but nothing unfolds it -/
noncomputable def FU : Nat := Classical.choose (⟨1000, rfl⟩ : ∃ n : Nat, n = 1000)
theorem FU_eq : FU = 1000 := Classical.choose_spec (⟨1000, rfl⟩ : ∃ n : Nat, n = 1000)
/-- 40, but nothing unfolds it -/
noncomputable def RD : Nat := Classical.choose (⟨40, rfl⟩ : ∃ n : Nat, n = 40)
theorem RD_eq : RD = 40 := Classical.choose_spec (⟨40, rfl⟩ : ∃ n : Nat, n = 40)
abbrev finI (r : AV) (σ : Sg) : Option (Int32 × Sg) := match r with
  | .inl x => some (x, σ)
  | _ => none
abbrev finL (r : AV) (σ : Sg) : Option (Int64 × Sg) := match r with
  | .inr (.inl x) => some (x, σ)
  | _ => none
abbrev finV (r : AV) (σ : Sg) : Option Sg := match r with
  | .inr (.inr (.inr _)) => some σ
  | _ => none
end
section
noncomputable section
def ab_row (tab : List (Nat × List AOp)) (p : Nat) : List AOp := match ab_lk tab p with
  | some o => o
  | none => []
/-- the length of a word, and its letter at a place -/
def cp_Str_length {R : Type} (as : List AV) (σ : Sg) (k : AV → Sg → Option R) : Option R := match as with
  | [.inr (.inr (.inl (g1, w)))] => match Nat.beq g1 60 with
    | true => k (vI (Int32.ofNat (ab_word w).length)) σ
    | false => none
  | _ => none
def cp_Str_charAt {R : Type} (as : List AV) (σ : Sg) (k : AV → Sg → Option R) : Option R := match as with
  | [.inr (.inr (.inl (g1, w))), .inl j] => match Nat.beq g1 60 with
    | true => if j < 0 then none else if (ab_word w).length ≤ j.toNatClampNeg then none else k (vI (Int32.ofNat (ab_nth 0 (ab_word w) j.toNatClampNeg))) σ
    | false => none
  | _ => none
-- X_isOne (I)Z
def X_isOne (p0 : Int32) (σ : Sg) : Option (Int32 × Sg) :=
  if p0 < 0 then
    some ((0 : Int32), σ)
  else
    if p0 < (3 : Int32) then
      some ((1 : Int32), σ)
    else
      some ((0 : Int32), σ)
def cp_X_isOne {R : Type} (as : List AV) (σ : Sg) (k : AV → Sg → Option R) : Option R := match as with
  | [.inl p0] => (X_isOne p0 σ).bind fun q => k (vI q.1) q.2
  | _ => none
-- X_isHour (I)Z
def X_isHour (p0 : Int32) (σ : Sg) : Option (Int32 × Sg) :=
  if p0 < 0 then
    some ((0 : Int32), σ)
  else
    if p0 < (24 : Int32) then
      some ((1 : Int32), σ)
    else
      some ((0 : Int32), σ)
def cp_X_isHour {R : Type} (as : List AV) (σ : Sg) (k : AV → Sg → Option R) : Option R := match as with
  | [.inl p0] => (X_isHour p0 σ).bind fun q => k (vI q.1) q.2
  | _ => none
-- X_isPlace (I)Z
def X_isPlace (p0 : Int32) (σ : Sg) : Option (Int32 × Sg) :=
  if p0 < 0 then
    some ((0 : Int32), σ)
  else
    (X_isOne (p0 / (100 : Int32)) σ).bind fun q1 =>
    if q1.1 = 0 then
      some ((0 : Int32), q1.2)
    else
      (X_isHour (p0 - p0 / (100 : Int32) * (100 : Int32)) q1.2).bind fun q2 =>
      if q2.1 = 0 then
        some ((0 : Int32), q2.2)
      else
        some ((1 : Int32), q2.2)
def cp_X_isPlace {R : Type} (as : List AV) (σ : Sg) (k : AV → Sg → Option R) : Option R := match as with
  | [.inl p0] => (X_isPlace p0 σ).bind fun q => k (vI q.1) q.2
  | _ => none
-- X_moodAt (II)I
def X_moodAt (p1 : Int32) (p2 : Int32) (σ : Sg) : Option (Int32 × Sg) :=
  (X_isOne p1 σ).bind fun q1 =>
  if q1.1 = 0 then
    some ((50 : Int32), q1.2)
  else
    (X_isHour p2 q1.2).bind fun q2 =>
    if q2.1 = 0 then
      some ((50 : Int32), q2.2)
    else
      if ((p1 * (24 : Int32)) + p2) < 0 then none else if 72 ≤ ((p1 * (24 : Int32)) + p2).toNatClampNeg then none else
      some ((q2.2 23 0 ((p1 * (24 : Int32)) + p2).toNatClampNeg), q2.2)
def cp_X_moodAt {R : Type} (as : List AV) (σ : Sg) (k : AV → Sg → Option R) : Option R := match as with
  | [.inr (.inr (.inl (g1, i1))), .inl p1, .inl p2] => match Nat.beq g1 0 && Nat.beq i1 0 with
    | true => (X_moodAt p1 p2 σ).bind fun q => k (vI q.1) q.2
    | false => none
  | _ => none
-- X_giveMood (III)V
def X_giveMood (p1 : Int32) (p2 : Int32) (p3 : Int32) (σ : Sg) : Option (Sg) :=
  (X_isOne p1 σ).bind fun q1 =>
  if q1.1 = 0 then
    some q1.2
  else
    (X_isHour p2 q1.2).bind fun q2 =>
    if q2.1 = 0 then
      some q2.2
    else
      if ((p1 * (24 : Int32)) + p2) < 0 then none else if 72 ≤ ((p1 * (24 : Int32)) + p2).toNatClampNeg then none else
      let σ3 := upd3 q2.2 23 0 (((p1 * (24 : Int32)) + p2).toNatClampNeg) p3
      some σ3
def cp_X_giveMood {R : Type} (as : List AV) (σ : Sg) (k : AV → Sg → Option R) : Option R := match as with
  | [.inr (.inr (.inl (g1, i1))), .inl p1, .inl p2, .inl p3] => match Nat.beq g1 0 && Nat.beq i1 0 with
    | true => (X_giveMood p1 p2 p3 σ).bind fun q => k vU q
    | false => none
  | _ => none
-- X_setMood (II)I
def X_setMood (p1 : Int32) (p2 : Int32) (σ : Sg) : Option (Int32 × Sg) :=
  (X_isPlace p1 σ).bind fun q1 =>
  if q1.1 = 0 then
    some ((-2 : Int32), q1.2)
  else
    if p2 < 0 then
      some ((-2 : Int32), q1.2)
    else
      if p2 < (100 : Int32) then
        (X_moodAt (p1 / (100 : Int32)) (p1 - p1 / (100 : Int32) * (100 : Int32)) q1.2).bind fun q2 =>
        (X_giveMood (p1 / (100 : Int32)) (p1 - p1 / (100 : Int32) * (100 : Int32)) p2 q2.2).bind fun σ3 =>
        some (q2.1, σ3)
      else
        some ((-2 : Int32), q1.2)
def cp_X_setMood {R : Type} (as : List AV) (σ : Sg) (k : AV → Sg → Option R) : Option R := match as with
  | [.inr (.inr (.inl (g1, i1))), .inl p1, .inl p2] => match Nat.beq g1 0 && Nat.beq i1 0 with
    | true => (X_setMood p1 p2 σ).bind fun q => k (vI q.1) q.2
    | false => none
  | _ => none
-- X_isCoat (I)Z
def X_isCoat (p1 : Int32) (σ : Sg) : Option (Int32 × Sg) :=
  if p1 < 0 then
    some ((0 : Int32), σ)
  else
    if p1 < (σ 0 0 2) then
      if p1 < (8 : Int32) then
        some ((1 : Int32), σ)
      else
        some ((0 : Int32), σ)
    else
      some ((0 : Int32), σ)
def cp_X_isCoat {R : Type} (as : List AV) (σ : Sg) (k : AV → Sg → Option R) : Option R := match as with
  | [.inr (.inr (.inl (g1, i1))), .inl p1] => match Nat.beq g1 0 && Nat.beq i1 0 with
    | true => (X_isCoat p1 σ).bind fun q => k (vI q.1) q.2
    | false => none
  | _ => none
-- X_mostOf (I)I
def X_mostOf (p0 : Int32) (σ : Sg) : Option (Int32 × Sg) :=
  if p0 = (1 : Int32) then
    some ((9 : Int32), σ)
  else
    if p0 = (2 : Int32) then
      some ((99 : Int32), σ)
    else
      some ((999 : Int32), σ)
def cp_X_mostOf {R : Type} (as : List AV) (σ : Sg) (k : AV → Sg → Option R) : Option R := match as with
  | [.inl p0] => (X_mostOf p0 σ).bind fun q => k (vI q.1) q.2
  | _ => none
-- Coat_trait (I)I
def Coat_trait (p0 : Nat) (p1 : Int32) (σ : Sg) : Option (Int32 × Sg) :=
  if p1 = 1 then
    some ((σ 1 p0 1), σ)
  else if p1 = 2 then
    some ((σ 1 p0 2), σ)
  else if p1 = 3 then
    some ((σ 1 p0 3), σ)
  else
    some ((σ 1 p0 0), σ)
def cp_Coat_trait {R : Type} (as : List AV) (σ : Sg) (k : AV → Sg → Option R) : Option R := match as with
  | [.inr (.inr (.inl (g1, p0))), .inl p1] => match Nat.beq g1 1 with
    | true => (Coat_trait p0 p1 σ).bind fun q => k (vI q.1) q.2
    | false => none
  | _ => none
-- Coat_giveTrait (II)V
def Coat_giveTrait_J20 (v0 : Nat) (v1 : Int32) (v2 : Int32) (σ : Sg) : Option (Sg) :=
  if v1 = (3 : Int32) then
    let σ2 := upd3 σ 1 v0 3 v2
    if v1 = (4 : Int32) then
      let σ3 := upd3 σ2 1 v0 0 v2
      some σ3
    else
      some σ2
  else
    if v1 = (4 : Int32) then
      let σ1 := upd3 σ 1 v0 0 v2
      some σ1
    else
      some σ
def Coat_giveTrait_J10 (v0 : Nat) (v1 : Int32) (v2 : Int32) (σ : Sg) : Option (Sg) :=
  if v1 = (2 : Int32) then
    let σ4 := upd3 σ 1 v0 2 v2
    Coat_giveTrait_J20 v0 v1 v2 σ4
  else
    Coat_giveTrait_J20 v0 v1 v2 σ
def Coat_giveTrait (p0 : Nat) (p1 : Int32) (p2 : Int32) (σ : Sg) : Option (Sg) :=
  if p1 = (1 : Int32) then
    let σ5 := upd3 σ 1 p0 1 p2
    Coat_giveTrait_J10 p0 p1 p2 σ5
  else
    Coat_giveTrait_J10 p0 p1 p2 σ
def cp_Coat_giveTrait {R : Type} (as : List AV) (σ : Sg) (k : AV → Sg → Option R) : Option R := match as with
  | [.inr (.inr (.inl (g1, p0))), .inl p1, .inl p2] => match Nat.beq g1 1 with
    | true => (Coat_giveTrait p0 p1 p2 σ).bind fun q => k vU q
    | false => none
  | _ => none
-- X_set (III)I
def X_set (p1 : Int32) (p2 : Int32) (p3 : Int32) (σ : Sg) : Option (Int32 × Sg) :=
  if p1 = 0 then
    (X_setMood p2 p3 σ).bind fun q5 =>
    some (q5.1, q5.2)
  else
    if p1 < (1 : Int32) then
      some ((-2 : Int32), σ)
    else
      if (3 : Int32) < p1 then
        some ((-2 : Int32), σ)
      else
        (X_isCoat p2 σ).bind fun q1 =>
        if q1.1 = 0 then
          some ((-2 : Int32), q1.2)
        else
          if p3 < 0 then
            some ((-2 : Int32), q1.2)
          else
            (X_mostOf p1 q1.2).bind fun q2 =>
            if q2.1 < p3 then
              some ((-2 : Int32), q2.2)
            else
              if p2 < 0 then none else if 8 ≤ p2.toNatClampNeg then none else
              (Coat_trait p2.toNatClampNeg p1 q2.2).bind fun q3 =>
              if p2 < 0 then none else if 8 ≤ p2.toNatClampNeg then none else
              (Coat_giveTrait p2.toNatClampNeg p1 p3 q3.2).bind fun σ4 =>
              some (q3.1, σ4)
def cp_X_set {R : Type} (as : List AV) (σ : Sg) (k : AV → Sg → Option R) : Option R := match as with
  | [.inr (.inr (.inl (g1, i1))), .inl p1, .inl p2, .inl p3] => match Nat.beq g1 0 && Nat.beq i1 0 with
    | true => (X_set p1 p2 p3 σ).bind fun q => k (vI q.1) q.2
    | false => none
  | _ => none
-- Coat_comeAs (III)V
def Coat_comeAs (p0 : Nat) (p1 : Int32) (p2 : Int32) (p3 : Int32) (σ : Sg) : Option (Sg) :=
  let σ1 := upd3 σ 1 p0 0 p1
  let σ2 := upd3 σ1 1 p0 1 p2
  let σ3 := upd3 σ2 1 p0 2 p3
  let σ4 := upd3 σ3 1 p0 3 (0 : Int32)
  some σ4
def cp_Coat_comeAs {R : Type} (as : List AV) (σ : Sg) (k : AV → Sg → Option R) : Option R := match as with
  | [.inr (.inr (.inl (g1, p0))), .inl p1, .inl p2, .inl p3] => match Nat.beq g1 1 with
    | true => (Coat_comeAs p0 p1 p2 p3 σ).bind fun q => k vU q
    | false => none
  | _ => none
-- X_coat (III)I
def X_coat (p1 : Int32) (p2 : Int32) (p3 : Int32) (σ : Sg) : Option (Int32 × Sg) :=
  if p1 < 0 then
    some ((-2 : Int32), σ)
  else
    if p1 < (6 : Int32) then
      if p2 < 0 then
        some ((-2 : Int32), σ)
      else
        if p2 < (10 : Int32) then
          if p3 < 0 then
            some ((-2 : Int32), σ)
          else
            if p3 < (100 : Int32) then
              if (σ 0 0 2) < (8 : Int32) then
                if (σ 0 0 2) < 0 then none else if 8 ≤ (σ 0 0 2).toNatClampNeg then none else
                (Coat_comeAs (σ 0 0 2).toNatClampNeg p1 p2 p3 σ).bind fun σ1 =>
                let σ2 := upd3 σ1 0 0 2 ((σ1 0 0 2) + (1 : Int32))
                some (((σ2 0 0 2) - (1 : Int32)), σ2)
              else
                some ((-4 : Int32), σ)
            else
              some ((-2 : Int32), σ)
        else
          some ((-2 : Int32), σ)
    else
      some ((-2 : Int32), σ)
def cp_X_coat {R : Type} (as : List AV) (σ : Sg) (k : AV → Sg → Option R) : Option R := match as with
  | [.inr (.inr (.inl (g1, i1))), .inl p1, .inl p2, .inl p3] => match Nat.beq g1 0 && Nat.beq i1 0 with
    | true => (X_coat p1 p2 p3 σ).bind fun q => k (vI q.1) q.2
    | false => none
  | _ => none
-- Coat_off (I)I
def Coat_off (p0 : Nat) (p1 : Int32) (σ : Sg) : Option (Int32 × Sg) :=
  if p1 < (σ 1 p0 2) then
    some (((σ 1 p0 2) - p1), σ)
  else
    some ((p1 - (σ 1 p0 2)), σ)
def cp_Coat_off {R : Type} (as : List AV) (σ : Sg) (k : AV → Sg → Option R) : Option R := match as with
  | [.inr (.inr (.inl (g1, p0))), .inl p1] => match Nat.beq g1 1 with
    | true => (Coat_off p0 p1 σ).bind fun q => k (vI q.1) q.2
    | false => none
  | _ => none
-- Coat_fits (II)Z
def Coat_fits (p0 : Nat) (p1 : Int32) (p2 : Int32) (σ : Sg) : Option (Int32 × Sg) :=
  (Coat_off p0 p1 σ).bind fun q1 =>
  if (q1.2 1 p0 0) = 1 then
    if p2 < ((2 : Int32) * q1.1) then
      some ((0 : Int32), q1.2)
    else
      some ((1 : Int32), q1.2)
  else if (q1.2 1 p0 0) = 2 then
    if ((10 : Int32) + p2) < q1.1 then
      some ((0 : Int32), q1.2)
    else
      some ((1 : Int32), q1.2)
  else if (q1.2 1 p0 0) = 3 then
    if p2 < ((2 : Int32) * q1.1) then
      some ((0 : Int32), q1.2)
    else
      if p1 < (50 : Int32) then
        some ((1 : Int32), q1.2)
      else
        some ((0 : Int32), q1.2)
  else if (q1.2 1 p0 0) = 4 then
    if ((10 : Int32) + p2) < q1.1 then
      some ((1 : Int32), q1.2)
    else
      some ((0 : Int32), q1.2)
  else if (q1.2 1 p0 0) = 5 then
    if p2 < q1.1 then
      if (p1 - p1 / (10 : Int32) * (10 : Int32)) = (q1.2 1 p0 1) then
        some ((1 : Int32), q1.2)
      else
        some ((0 : Int32), q1.2)
    else
      some ((1 : Int32), q1.2)
  else
    if p2 < q1.1 then
      some ((0 : Int32), q1.2)
    else
      some ((1 : Int32), q1.2)
def cp_Coat_fits {R : Type} (as : List AV) (σ : Sg) (k : AV → Sg → Option R) : Option R := match as with
  | [.inr (.inr (.inl (g1, p0))), .inl p1, .inl p2] => match Nat.beq g1 1 with
    | true => (Coat_fits p0 p1 p2 σ).bind fun q => k (vI q.1) q.2
    | false => none
  | _ => none
-- X_bounded (I)I
def X_bounded (p0 : Int32) (σ : Sg) : Option (Int32 × Sg) :=
  some ((if (0 : Int32) < (if p0 < (99 : Int32) then p0 else (99 : Int32)) then (if p0 < (99 : Int32) then p0 else (99 : Int32)) else (0 : Int32)), σ)
def cp_X_bounded {R : Type} (as : List AV) (σ : Sg) (k : AV → Sg → Option R) : Option R := match as with
  | [.inl p0] => (X_bounded p0 σ).bind fun q => k (vI q.1) q.2
  | _ => none
-- Text_lay (I)V
def Text_lay (p0 : Nat) (p1 : Int32) (σ : Sg) : Option (Sg) :=
  if (σ 2 p0 4) < 0 then
    some σ
  else
    if (σ 2 p0 4) < (40 : Int32) then
      if (σ 2 p0 4) < 0 then none else if 40 ≤ (σ 2 p0 4).toNatClampNeg then none else
      let σ1 := upd3 σ 5 p0 ((σ 2 p0 4).toNatClampNeg) p1
      let σ2 := upd3 σ1 2 p0 4 ((σ1 2 p0 4) + (1 : Int32))
      some σ2
    else
      some σ
def cp_Text_lay {R : Type} (as : List AV) (σ : Sg) (k : AV → Sg → Option R) : Option R := match as with
  | [.inr (.inr (.inl (g1, p0))), .inl p1] => match Nat.beq g1 2 with
    | true => (Text_lay p0 p1 σ).bind fun q => k vU q
    | false => none
  | _ => none
-- Text_lift ()I
def Text_lift (p0 : Nat) (σ : Sg) : Option (Int32 × Sg) :=
  if 0 < (σ 2 p0 4) then
    if (40 : Int32) < (σ 2 p0 4) then
      some ((0 : Int32), σ)
    else
      let σ1 := upd3 σ 2 p0 4 ((σ 2 p0 4) - (1 : Int32))
      if (σ1 2 p0 4) < 0 then none else if 40 ≤ (σ1 2 p0 4).toNatClampNeg then none else
      some ((σ1 5 p0 (σ1 2 p0 4).toNatClampNeg), σ1)
  else
    some ((0 : Int32), σ)
def cp_Text_lift {R : Type} (as : List AV) (σ : Sg) (k : AV → Sg → Option R) : Option R := match as with
  | [.inr (.inr (.inl (g1, p0)))] => match Nat.beq g1 2 with
    | true => (Text_lift p0 σ).bind fun q => k (vI q.1) q.2
    | false => none
  | _ => none
-- Text_named (ILCoatsFitTheMood$Coat;II)I
def Text_named (p0 : Int32) (p1 : Nat) (p2 : Int32) (p3 : Int32) (σ : Sg) : Option (Int32 × Sg) :=
  if p0 = 310 then
    some ((σ 1 p1 2), σ)
  else if p0 = 311 then
    some (p2, σ)
  else if p0 = 312 then
    some ((σ 1 p1 1), σ)
  else if p0 = 313 then
    some (p3, σ)
  else if p0 = 314 then
    some ((σ 1 p1 3), σ)
  else
    (Coat_off p1 p2 σ).bind fun q1 =>
    some (q1.1, q1.2)
def cp_Text_named {R : Type} (as : List AV) (σ : Sg) (k : AV → Sg → Option R) : Option R := match as with
  | [.inl p0, .inr (.inr (.inl (g1, p1))), .inl p2, .inl p3] => match Nat.beq g1 1 with
    | true => (Text_named p0 p1 p2 p3 σ).bind fun q => k (vI q.1) q.2
    | false => none
  | _ => none
-- Text_joined (III)I
def Text_joined (p0 : Int32) (p1 : Int32) (p2 : Int32) (σ : Sg) : Option (Int32 × Sg) :=
  if p0 = 43 then
    some ((p1 + p2), σ)
  else if p0 = 45 then
    some ((p1 - p2), σ)
  else if p0 = 60 then
    if p1 < p2 then
      some ((1 : Int32), σ)
    else
      some ((0 : Int32), σ)
  else if p0 = 61 then
    if p1 = p2 then
      some ((1 : Int32), σ)
    else
      some ((0 : Int32), σ)
  else if p0 = 303 then
    if p1 = 0 then
      if p2 = 0 then
        some ((0 : Int32), σ)
      else
        some ((1 : Int32), σ)
    else
      some ((1 : Int32), σ)
  else if p0 = 304 then
    if p1 = 0 then
      some ((0 : Int32), σ)
    else
      if p2 = 0 then
        some ((0 : Int32), σ)
      else
        some ((1 : Int32), σ)
  else
    some ((p1 * p2), σ)
def cp_Text_joined {R : Type} (as : List AV) (σ : Sg) (k : AV → Sg → Option R) : Option R := match as with
  | [.inl p0, .inl p1, .inl p2] => (Text_joined p0 p1 p2 σ).bind fun q => k (vI q.1) q.2
  | _ => none
-- Text_join (I)V
def Text_join (p0 : Nat) (p1 : Int32) (σ : Sg) : Option (Sg) :=
  (Text_lift p0 σ).bind fun q1 =>
  if p1 = (305 : Int32) then
    if q1.1 = 0 then
      (Text_lay p0 (1 : Int32) q1.2).bind fun σ7 =>
      some σ7
    else
      (Text_lay p0 (0 : Int32) q1.2).bind fun σ6 =>
      some σ6
  else
    if p1 = (306 : Int32) then
      (Text_lay p0 (-q1.1) q1.2).bind fun σ5 =>
      some σ5
    else
      (Text_lift p0 q1.2).bind fun q2 =>
      (Text_joined p1 q2.1 q1.1 q2.2).bind fun q3 =>
      (Text_lay p0 q3.1 q3.2).bind fun σ4 =>
      some σ4
def cp_Text_join {R : Type} (as : List AV) (σ : Sg) (k : AV → Sg → Option R) : Option R := match as with
  | [.inr (.inr (.inl (g1, p0))), .inl p1] => match Nat.beq g1 2 with
    | true => (Text_join p0 p1 σ).bind fun q => k vU q
    | false => none
  | _ => none
-- Text_value (ILCoatsFitTheMood$Coat;II)I
def Text_value_L38 : Nat → Nat → Int32 → Nat → Int32 → Int32 → Int32 → Sg → Option (Int32 × Sg)
  | 0, _, _, _, _, _, _, _ => none
  | n + 1, v0, v1, v2, v3, v4, v6, σ =>
    if v1 < 0 then none else if 3 ≤ v1.toNatClampNeg then none else
    if v6 < (σ 4 v0 v1.toNatClampNeg) then
      if v6 < (160 : Int32) then
        if v6 < 0 then none else if 160 ≤ v6.toNatClampNeg then none else
        if (σ 3 v0 v6.toNatClampNeg) < 0 then
          if v6 < 0 then none else if 160 ≤ v6.toNatClampNeg then none else
          if (-310 : Int32) < (σ 3 v0 v6.toNatClampNeg) then
            if v6 < 0 then none else if 160 ≤ v6.toNatClampNeg then none else
            (Text_join v0 (-(σ 3 v0 v6.toNatClampNeg)) σ).bind fun σ5 =>
            Text_value_L38 n v0 v1 v2 v3 v4 (v6 + 1) σ5
          else
            if v6 < 0 then none else if 160 ≤ v6.toNatClampNeg then none else
            (Text_named (-(σ 3 v0 v6.toNatClampNeg)) v2 v3 v4 σ).bind fun q6 =>
            (Text_lay v0 q6.1 q6.2).bind fun σ7 =>
            Text_value_L38 n v0 v1 v2 v3 v4 (v6 + 1) σ7
        else
          if v6 < 0 then none else if 160 ≤ v6.toNatClampNeg then none else
          (Text_lay v0 (σ 3 v0 v6.toNatClampNeg) σ).bind fun σ8 =>
          Text_value_L38 n v0 v1 v2 v3 v4 (v6 + 1) σ8
      else
        (Text_lift v0 σ).bind fun q3 =>
        (X_bounded q3.1 q3.2).bind fun q4 =>
        some (q4.1, q4.2)
    else
      (Text_lift v0 σ).bind fun q1 =>
      (X_bounded q1.1 q1.2).bind fun q2 =>
      some (q2.1, q2.2)
def Text_value (p0 : Nat) (p1 : Int32) (p2 : Nat) (p3 : Int32) (p4 : Int32) (σ : Sg) : Option (Int32 × Sg) :=
  if p1 < 0 then
    some ((0 : Int32), σ)
  else
    if p1 < (3 : Int32) then
      let σ9 := upd3 σ 2 p0 4 (0 : Int32)
      if p1 = 0 then
        Text_value_L38 FU p0 p1 p2 p3 p4 (0 : Int32) σ9
      else
        if (p1 - (1 : Int32)) < 0 then none else if 3 ≤ (p1 - (1 : Int32)).toNatClampNeg then none else
        Text_value_L38 FU p0 p1 p2 p3 p4 (σ9 4 p0 (p1 - (1 : Int32)).toNatClampNeg) σ9
    else
      some ((0 : Int32), σ)
def cp_Text_value {R : Type} (as : List AV) (σ : Sg) (k : AV → Sg → Option R) : Option R := match as with
  | [.inr (.inr (.inl (g1, p0))), .inl p1, .inr (.inr (.inl (g2, p2))), .inl p3, .inl p4] => match Nat.beq g1 2 && Nat.beq g2 1 with
    | true => (Text_value p0 p1 p2 p3 p4 σ).bind fun q => k (vI q.1) q.2
    | false => none
  | _ => none
-- X_fitsAt (LCoatsFitTheMood$Text;LCoatsFitTheMood$Coat;II)Z
def X_fitsAt (p0 : Nat) (p1 : Nat) (p2 : Int32) (p3 : Int32) (σ : Sg) : Option (Int32 × Sg) :=
  (Text_value p0 (0 : Int32) p1 p2 p3 σ).bind fun q1 =>
  (Coat_fits p1 p2 q1.1 q1.2).bind fun q2 =>
  some ((q2.1 &&& 1), q2.2)
def cp_X_fitsAt {R : Type} (as : List AV) (σ : Sg) (k : AV → Sg → Option R) : Option R := match as with
  | [.inr (.inr (.inl (g1, p0))), .inr (.inr (.inl (g2, p1))), .inl p2, .inl p3] => match Nat.beq g1 2 && Nat.beq g2 1 with
    | true => (X_fitsAt p0 p1 p2 p3 σ).bind fun q => k (vI q.1) q.2
    | false => none
  | _ => none
-- X_rightAt (II)I
def X_rightAt_L5 : Nat → Int32 → Int32 → Int32 → Int32 → Sg → Option (Int32 × Sg)
  | 0, _, _, _, _, _ => none
  | n + 1, v1, v2, v3, v4, σ =>
    if v4 < (σ 0 0 2) then
      if (σ 0 0 6) < 0 then none else if 6 ≤ (σ 0 0 6).toNatClampNeg then none else
      if v4 < 0 then none else if 8 ≤ v4.toNatClampNeg then none else
      (X_moodAt v1 v2 σ).bind fun q1 =>
      (X_fitsAt (σ 0 0 6).toNatClampNeg v4.toNatClampNeg q1.1 v2 q1.2).bind fun q2 =>
      if q2.1 = 0 then
        X_rightAt_L5 n v1 v2 v3 (v4 + 1) q2.2
      else
        X_rightAt_L5 n v1 v2 (v3 ||| ((1 : Int32) <<< (v4 &&& 31))) (v4 + 1) q2.2
    else
      some (v3, σ)
def X_rightAt (p1 : Int32) (p2 : Int32) (σ : Sg) : Option (Int32 × Sg) :=
  X_rightAt_L5 FU p1 p2 (0 : Int32) (0 : Int32) σ
def cp_X_rightAt {R : Type} (as : List AV) (σ : Sg) (k : AV → Sg → Option R) : Option R := match as with
  | [.inr (.inr (.inl (g1, i1))), .inl p1, .inl p2] => match Nat.beq g1 0 && Nat.beq i1 0 with
    | true => (X_rightAt p1 p2 σ).bind fun q => k (vI q.1) q.2
    | false => none
  | _ => none
-- X_hoursOf (LCoatsFitTheMood$Coat;I)I
def X_hoursOf_L5 : Nat → Nat → Int32 → Int32 → Int32 → Sg → Option (Int32 × Sg)
  | 0, _, _, _, _, _ => none
  | n + 1, v1, v2, v3, v4, σ =>
    if v4 < (24 : Int32) then
      if (σ 0 0 6) < 0 then none else if 6 ≤ (σ 0 0 6).toNatClampNeg then none else
      (X_moodAt v2 v4 σ).bind fun q1 =>
      (X_fitsAt (σ 0 0 6).toNatClampNeg v1 q1.1 v4 q1.2).bind fun q2 =>
      if q2.1 = 0 then
        X_hoursOf_L5 n v1 v2 v3 (v4 + 1) q2.2
      else
        X_hoursOf_L5 n v1 v2 (v3 + 1) (v4 + 1) q2.2
    else
      some (v3, σ)
def X_hoursOf (p1 : Nat) (p2 : Int32) (σ : Sg) : Option (Int32 × Sg) :=
  X_hoursOf_L5 FU p1 p2 (0 : Int32) (0 : Int32) σ
def cp_X_hoursOf {R : Type} (as : List AV) (σ : Sg) (k : AV → Sg → Option R) : Option R := match as with
  | [.inr (.inr (.inl (g1, i1))), .inr (.inr (.inl (g2, p1))), .inl p2] => match Nat.beq g1 0 && Nat.beq i1 0 && Nat.beq g2 1 with
    | true => (X_hoursOf p1 p2 σ).bind fun q => k (vI q.1) q.2
    | false => none
  | _ => none
-- X_hoursOfEverybody (LCoatsFitTheMood$Coat;)I
def X_hoursOfEverybody_L4 : Nat → Nat → Int32 → Int32 → Sg → Option (Int32 × Sg)
  | 0, _, _, _, _ => none
  | n + 1, v1, v2, v3, σ =>
    if v3 < (3 : Int32) then
      (X_hoursOf v1 v3 σ).bind fun q1 =>
      X_hoursOfEverybody_L4 n v1 (v2 + q1.1) (v3 + 1) q1.2
    else
      some (v2, σ)
def X_hoursOfEverybody (p1 : Nat) (σ : Sg) : Option (Int32 × Sg) :=
  X_hoursOfEverybody_L4 FU p1 (0 : Int32) (0 : Int32) σ
def cp_X_hoursOfEverybody {R : Type} (as : List AV) (σ : Sg) (k : AV → Sg → Option R) : Option R := match as with
  | [.inr (.inr (.inl (g1, i1))), .inr (.inr (.inl (g2, p1)))] => match Nat.beq g1 0 && Nat.beq i1 0 && Nat.beq g2 1 with
    | true => (X_hoursOfEverybody p1 σ).bind fun q => k (vI q.1) q.2
    | false => none
  | _ => none
-- X_told (II)I
def X_told (p1 : Int32) (p2 : Int32) (σ : Sg) : Option (Int32 × Sg) :=
  if p2 = 0 then
    (X_isPlace p1 σ).bind fun q6 =>
    if q6.1 = 0 then
      some ((-2 : Int32), q6.2)
    else
      (X_moodAt (p1 / (100 : Int32)) (p1 - p1 / (100 : Int32) * (100 : Int32)) q6.2).bind fun q7 =>
      some (q7.1, q7.2)
  else
    if p2 = (5 : Int32) then
      (X_isPlace p1 σ).bind fun q4 =>
      if q4.1 = 0 then
        some ((-2 : Int32), q4.2)
      else
        (X_rightAt (p1 / (100 : Int32)) (p1 - p1 / (100 : Int32) * (100 : Int32)) q4.2).bind fun q5 =>
        some (q5.1, q5.2)
    else
      if p2 < 0 then
        some ((-2 : Int32), σ)
      else
        if (6 : Int32) < p2 then
          some ((-2 : Int32), σ)
        else
          (X_isCoat p1 σ).bind fun q1 =>
          if q1.1 = 0 then
            some ((-2 : Int32), q1.2)
          else
            if p2 = (6 : Int32) then
              if p1 < 0 then none else if 8 ≤ p1.toNatClampNeg then none else
              (X_hoursOfEverybody p1.toNatClampNeg q1.2).bind fun q3 =>
              some (q3.1, q3.2)
            else
              if p1 < 0 then none else if 8 ≤ p1.toNatClampNeg then none else
              (Coat_trait p1.toNatClampNeg p2 q1.2).bind fun q2 =>
              some (q2.1, q2.2)
def cp_X_told {R : Type} (as : List AV) (σ : Sg) (k : AV → Sg → Option R) : Option R := match as with
  | [.inr (.inr (.inl (g1, i1))), .inl p1, .inl p2] => match Nat.beq g1 0 && Nat.beq i1 0 with
    | true => (X_told p1 p2 σ).bind fun q => k (vI q.1) q.2
    | false => none
  | _ => none
-- Coat_fine (I)I
def Coat_fine (p0 : Nat) (p1 : Int32) (σ : Sg) : Option (Int32 × Sg) :=
  if (σ 1 p0 0) = 1 then
    (X_bounded (p1 + (2 : Int32)) σ).bind fun q1 =>
    some (q1.1, q1.2)
  else if (σ 1 p0 0) = 2 then
    some ((p1 / (2 : Int32)), σ)
  else if (σ 1 p0 0) = 3 then
    (X_bounded ((2 : Int32) * (p1 + (2 : Int32))) σ).bind fun q2 =>
    some (q2.1, q2.2)
  else if (σ 1 p0 0) = 4 then
    some ((σ 1 p0 1), σ)
  else if (σ 1 p0 0) = 5 then
    some ((99 : Int32), σ)
  else
    some (p1, σ)
def cp_Coat_fine {R : Type} (as : List AV) (σ : Sg) (k : AV → Sg → Option R) : Option R := match as with
  | [.inr (.inr (.inl (g1, p0))), .inl p1] => match Nat.beq g1 1 with
    | true => (Coat_fine p0 p1 σ).bind fun q => k (vI q.1) q.2
    | false => none
  | _ => none
-- X_fineAt (III)I
def X_fineAt (p1 : Int32) (p2 : Int32) (p3 : Int32) (σ : Sg) : Option (Int32 × Sg) :=
  (X_isCoat p1 σ).bind fun q1 =>
  if q1.1 = 0 then
    some ((99 : Int32), q1.2)
  else
    if p1 < 0 then none else if 8 ≤ p1.toNatClampNeg then none else
    if (q1.2 0 0 6) < 0 then none else if 6 ≤ (q1.2 0 0 6).toNatClampNeg then none else
    if p1 < 0 then none else if 8 ≤ p1.toNatClampNeg then none else
    (Text_value (q1.2 0 0 6).toNatClampNeg (1 : Int32) p1.toNatClampNeg p2 p3 q1.2).bind fun q2 =>
    (Coat_fine p1.toNatClampNeg q2.1 q2.2).bind fun q3 =>
    some (q3.1, q3.2)
def cp_X_fineAt {R : Type} (as : List AV) (σ : Sg) (k : AV → Sg → Option R) : Option R := match as with
  | [.inr (.inr (.inl (g1, i1))), .inl p1, .inl p2, .inl p3] => match Nat.beq g1 0 && Nat.beq i1 0 with
    | true => (X_fineAt p1 p2 p3 σ).bind fun q => k (vI q.1) q.2
    | false => none
  | _ => none
-- Coat_cost (I)I
def Coat_cost (p0 : Nat) (p1 : Int32) (σ : Sg) : Option (Int32 × Sg) :=
  if (σ 1 p0 0) = 1 then
    (X_bounded (p1 + (σ 1 p0 1)) σ).bind fun q1 =>
    some (q1.1, q1.2)
  else if (σ 1 p0 0) = 2 then
    some (p1, σ)
  else if (σ 1 p0 0) = 3 then
    (X_bounded (p1 + (σ 1 p0 1)) σ).bind fun q2 =>
    some (q2.1, q2.2)
  else if (σ 1 p0 0) = 4 then
    (X_bounded (p1 + (3 : Int32)) σ).bind fun q3 =>
    some (q3.1, q3.2)
  else if (σ 1 p0 0) = 5 then
    some ((0 : Int32), σ)
  else
    some (p1, σ)
def cp_Coat_cost {R : Type} (as : List AV) (σ : Sg) (k : AV → Sg → Option R) : Option R := match as with
  | [.inr (.inr (.inl (g1, p0))), .inl p1] => match Nat.beq g1 1 with
    | true => (Coat_cost p0 p1 σ).bind fun q => k (vI q.1) q.2
    | false => none
  | _ => none
-- X_costAt (III)I
def X_costAt (p1 : Int32) (p2 : Int32) (p3 : Int32) (σ : Sg) : Option (Int32 × Sg) :=
  (X_isCoat p1 σ).bind fun q1 =>
  if q1.1 = 0 then
    some ((0 : Int32), q1.2)
  else
    if p1 < 0 then none else if 8 ≤ p1.toNatClampNeg then none else
    if (q1.2 0 0 6) < 0 then none else if 6 ≤ (q1.2 0 0 6).toNatClampNeg then none else
    if p1 < 0 then none else if 8 ≤ p1.toNatClampNeg then none else
    (Text_value (q1.2 0 0 6).toNatClampNeg (2 : Int32) p1.toNatClampNeg p2 p3 q1.2).bind fun q2 =>
    (Coat_cost p1.toNatClampNeg q2.1 q2.2).bind fun q3 =>
    some (q3.1, q3.2)
def cp_X_costAt {R : Type} (as : List AV) (σ : Sg) (k : AV → Sg → Option R) : Option R := match as with
  | [.inr (.inr (.inl (g1, i1))), .inl p1, .inl p2, .inl p3] => match Nat.beq g1 0 && Nat.beq i1 0 with
    | true => (X_costAt p1 p2 p3 σ).bind fun q => k (vI q.1) q.2
    | false => none
  | _ => none
-- X_asks (III)I
def X_asks_J16 (v1 : Int32) (v2 : Int32) (v3 : Int32) (σ : Sg) : Option (Int32 × Sg) :=
  if v2 < 0 then
    some ((-2 : Int32), σ)
  else
    if (v2 / (100 : Int32)) < (100 : Int32) then
      if (v2 - v2 / (100 : Int32) * (100 : Int32)) < (24 : Int32) then
        if v3 = 0 then
          if v1 = (-1 : Int32) then
            some ((0 : Int32), σ)
          else
            if (σ 0 0 6) < 0 then none else if 6 ≤ (σ 0 0 6).toNatClampNeg then none else
            if v1 < 0 then none else if 8 ≤ v1.toNatClampNeg then none else
            (X_fitsAt (σ 0 0 6).toNatClampNeg v1.toNatClampNeg (v2 / (100 : Int32)) (v2 - v2 / (100 : Int32) * (100 : Int32)) σ).bind fun q1 =>
            if q1.1 = 0 then
              some ((0 : Int32), q1.2)
            else
              some ((1 : Int32), q1.2)
        else if v3 = 1 then
          (X_fineAt v1 (v2 / (100 : Int32)) (v2 - v2 / (100 : Int32) * (100 : Int32)) σ).bind fun q2 =>
          some (q2.1, q2.2)
        else if v3 = 2 then
          (X_costAt v1 (v2 / (100 : Int32)) (v2 - v2 / (100 : Int32) * (100 : Int32)) σ).bind fun q3 =>
          some (q3.1, q3.2)
        else if v3 = 3 then
          if v1 = (-1 : Int32) then
            some ((99 : Int32), σ)
          else
            if v1 < 0 then none else if 8 ≤ v1.toNatClampNeg then none else
            (Coat_off v1.toNatClampNeg (v2 / (100 : Int32)) σ).bind fun q4 =>
            some (q4.1, q4.2)
        else
          some ((-2 : Int32), σ)
      else
        some ((-2 : Int32), σ)
    else
      some ((-2 : Int32), σ)
def X_asks (p1 : Int32) (p2 : Int32) (p3 : Int32) (σ : Sg) : Option (Int32 × Sg) :=
  if p1 = (-1 : Int32) then
    X_asks_J16 p1 p2 p3 σ
  else
    (X_isCoat p1 σ).bind fun q5 =>
    if q5.1 = 0 then
      some ((-2 : Int32), q5.2)
    else
      X_asks_J16 p1 p2 p3 q5.2
def cp_X_asks {R : Type} (as : List AV) (σ : Sg) (k : AV → Sg → Option R) : Option R := match as with
  | [.inr (.inr (.inl (g1, i1))), .inl p1, .inl p2, .inl p3] => match Nat.beq g1 0 && Nat.beq i1 0 with
    | true => (X_asks p1 p2 p3 σ).bind fun q => k (vI q.1) q.2
    | false => none
  | _ => none
-- Tape_add (I)Z
def Tape_add (p1 : Int32) (σ : Sg) : Option (Int32 × Sg) :=
  if (σ 6 0 4) < (160 : Int32) then
    if (σ 6 0 4) < 0 then none else if 160 ≤ (σ 6 0 4).toNatClampNeg then none else
    let σ1 := upd3 σ 7 0 ((σ 6 0 4).toNatClampNeg) p1
    let σ2 := upd3 σ1 6 0 4 ((σ1 6 0 4) + (1 : Int32))
    some ((1 : Int32), σ2)
  else
    some ((0 : Int32), σ)
def cp_Tape_add {R : Type} (as : List AV) (σ : Sg) (k : AV → Sg → Option R) : Option R := match as with
  | [.inr (.inr (.inl (g1, i1))), .inl p1] => match Nat.beq g1 6 && Nat.beq i1 0 with
    | true => (Tape_add p1 σ).bind fun q => k (vI q.1) q.2
    | false => none
  | _ => none
-- X_feed (I)I
def X_feed (p1 : Int32) (σ : Sg) : Option (Int32 × Sg) :=
  if p1 < 0 then
    some ((-2 : Int32), σ)
  else
    if (255 : Int32) < p1 then
      some ((-2 : Int32), σ)
    else
      (Tape_add p1 σ).bind fun q1 =>
      if q1.1 = 0 then
        some ((-4 : Int32), q1.2)
      else
        some ((q1.2 6 0 4), q1.2)
def cp_X_feed {R : Type} (as : List AV) (σ : Sg) (k : AV → Sg → Option R) : Option R := match as with
  | [.inr (.inr (.inl (g1, i1))), .inl p1] => match Nat.beq g1 0 && Nat.beq i1 0 with
    | true => (X_feed p1 σ).bind fun q => k (vI q.1) q.2
    | false => none
  | _ => none
-- Tape_token (I)I
def Tape_token (p1 : Int32) (σ : Sg) : Option (Int32 × Sg) :=
  if p1 < 0 then
    some ((0 : Int32), σ)
  else
    if p1 < (σ 6 0 6) then
      if (160 : Int32) < p1 then
        some ((0 : Int32), σ)
      else
        if p1 < 0 then none else if 161 ≤ p1.toNatClampNeg then none else
        some ((σ 8 0 p1.toNatClampNeg), σ)
    else
      some ((0 : Int32), σ)
def cp_Tape_token {R : Type} (as : List AV) (σ : Sg) (k : AV → Sg → Option R) : Option R := match as with
  | [.inr (.inr (.inl (g1, i1))), .inl p1] => match Nat.beq g1 6 && Nat.beq i1 0 with
    | true => (Tape_token p1 σ).bind fun q => k (vI q.1) q.2
    | false => none
  | _ => none
-- Reader_stepOver (I)Z
def Reader_stepOver (p1 : Int32) (σ : Sg) : Option (Int32 × Sg) :=
  (Tape_token (σ 11 0 1) σ).bind fun q1 =>
  if q1.1 = p1 then
    let σ2 := upd3 q1.2 11 0 1 ((q1.2 11 0 1) + (1 : Int32))
    some ((1 : Int32), σ2)
  else
    some ((0 : Int32), q1.2)
def cp_Reader_stepOver {R : Type} (as : List AV) (σ : Sg) (k : AV → Sg → Option R) : Option R := match as with
  | [.inr (.inr (.inl (g1, i1))), .inl p1] => match Nat.beq g1 11 && Nat.beq i1 0 with
    | true => (Reader_stepOver p1 σ).bind fun q => k (vI q.1) q.2
    | false => none
  | _ => none
-- Reader_joins (II)Z
def Reader_joins (p0 : Int32) (p1 : Int32) (σ : Sg) : Option (Int32 × Sg) :=
  if p0 = 0 then
    if p1 = (303 : Int32) then
      some ((1 : Int32), σ)
    else
      some ((0 : Int32), σ)
  else if p0 = 1 then
    if p1 = (304 : Int32) then
      some ((1 : Int32), σ)
    else
      some ((0 : Int32), σ)
  else if p0 = 2 then
    if p1 = (60 : Int32) then
      some ((1 : Int32), σ)
    else
      if p1 = (61 : Int32) then
        some ((1 : Int32), σ)
      else
        some ((0 : Int32), σ)
  else if p0 = 3 then
    if p1 = (43 : Int32) then
      some ((1 : Int32), σ)
    else
      if p1 = (45 : Int32) then
        some ((1 : Int32), σ)
      else
        some ((0 : Int32), σ)
  else if p0 = 4 then
    if p1 = (42 : Int32) then
      some ((1 : Int32), σ)
    else
      some ((0 : Int32), σ)
  else
    some ((0 : Int32), σ)
def cp_Reader_joins {R : Type} (as : List AV) (σ : Sg) (k : AV → Sg → Option R) : Option R := match as with
  | [.inl p0, .inl p1] => (Reader_joins p0 p1 σ).bind fun q => k (vI q.1) q.2
  | _ => none
-- Text_addNumber (I)V
def Text_addNumber (p0 : Nat) (p1 : Int32) (σ : Sg) : Option (Sg) :=
  if (σ 2 p0 3) < (160 : Int32) then
    if (σ 2 p0 3) < 0 then none else if 160 ≤ (σ 2 p0 3).toNatClampNeg then none else
    let σ1 := upd3 σ 3 p0 ((σ 2 p0 3).toNatClampNeg) p1
    let σ2 := upd3 σ1 2 p0 3 ((σ1 2 p0 3) + (1 : Int32))
    some σ2
  else
    some σ
def cp_Text_addNumber {R : Type} (as : List AV) (σ : Sg) (k : AV → Sg → Option R) : Option R := match as with
  | [.inr (.inr (.inl (g1, p0))), .inl p1] => match Nat.beq g1 2 with
    | true => (Text_addNumber p0 p1 σ).bind fun q => k vU q
    | false => none
  | _ => none
-- Text_addToken (I)V
def Text_addToken (p0 : Nat) (p1 : Int32) (σ : Sg) : Option (Sg) :=
  (Text_addNumber p0 (-p1) σ).bind fun σ1 =>
  some σ1
def cp_Text_addToken {R : Type} (as : List AV) (σ : Sg) (k : AV → Sg → Option R) : Option R := match as with
  | [.inr (.inr (.inl (g1, p0))), .inl p1] => match Nat.beq g1 2 with
    | true => (Text_addToken p0 p1 σ).bind fun q => k vU q
    | false => none
  | _ => none
-- Tape_number (I)I
def Tape_number (p1 : Int32) (σ : Sg) : Option (Int32 × Sg) :=
  if p1 < 0 then
    some ((0 : Int32), σ)
  else
    if p1 < (σ 6 0 6) then
      if (160 : Int32) < p1 then
        some ((0 : Int32), σ)
      else
        if p1 < 0 then none else if 161 ≤ p1.toNatClampNeg then none else
        some ((σ 10 0 p1.toNatClampNeg), σ)
    else
      some ((0 : Int32), σ)
def cp_Tape_number {R : Type} (as : List AV) (σ : Sg) (k : AV → Sg → Option R) : Option R := match as with
  | [.inr (.inr (.inl (g1, i1))), .inl p1] => match Nat.beq g1 6 && Nat.beq i1 0 with
    | true => (Tape_number p1 σ).bind fun q => k (vI q.1) q.2
    | false => none
  | _ => none
-- Tape_place (I)I
def Tape_place (p1 : Int32) (σ : Sg) : Option (Int32 × Sg) :=
  if p1 < 0 then
    some ((σ 6 0 4), σ)
  else
    if p1 < (σ 6 0 6) then
      if (160 : Int32) < p1 then
        some ((σ 6 0 4), σ)
      else
        if p1 < 0 then none else if 161 ≤ p1.toNatClampNeg then none else
        some ((σ 9 0 p1.toNatClampNeg), σ)
    else
      some ((σ 6 0 4), σ)
def cp_Tape_place {R : Type} (as : List AV) (σ : Sg) (k : AV → Sg → Option R) : Option R := match as with
  | [.inr (.inr (.inl (g1, i1))), .inl p1] => match Nat.beq g1 6 && Nat.beq i1 0 with
    | true => (Tape_place p1 σ).bind fun q => k (vI q.1) q.2
    | false => none
  | _ => none
-- Tape_byteAt (I)I
def Tape_byteAt (p1 : Int32) (σ : Sg) : Option (Int32 × Sg) :=
  if p1 < 0 then
    some ((-1 : Int32), σ)
  else
    if p1 < (σ 6 0 4) then
      if p1 < (160 : Int32) then
        if p1 < 0 then none else if 160 ≤ p1.toNatClampNeg then none else
        some ((σ 7 0 p1.toNatClampNeg), σ)
      else
        some ((-1 : Int32), σ)
    else
      some ((-1 : Int32), σ)
def cp_Tape_byteAt {R : Type} (as : List AV) (σ : Sg) (k : AV → Sg → Option R) : Option R := match as with
  | [.inr (.inr (.inl (g1, i1))), .inl p1] => match Nat.beq g1 6 && Nat.beq i1 0 with
    | true => (Tape_byteAt p1 σ).bind fun q => k (vI q.1) q.2
    | false => none
  | _ => none
-- Tape_isDigit (I)Z
def Tape_isDigit (p0 : Int32) (σ : Sg) : Option (Int32 × Sg) :=
  if p0 < (48 : Int32) then
    some ((0 : Int32), σ)
  else
    if (57 : Int32) < p0 then
      some ((0 : Int32), σ)
    else
      some ((1 : Int32), σ)
def cp_Tape_isDigit {R : Type} (as : List AV) (σ : Sg) (k : AV → Sg → Option R) : Option R := match as with
  | [.inl p0] => (Tape_isDigit p0 σ).bind fun q => k (vI q.1) q.2
  | _ => none
-- Tape_scanNumber (I)I
def Tape_scanNumber_L4 : Nat → Int32 → Int32 → Int32 → Sg → Option (Int32 × Sg)
  | 0, _, _, _, _ => none
  | n + 1, v1, v2, v3, σ =>
    if v3 < (160 : Int32) then
      (Tape_byteAt (σ 6 0 5) σ).bind fun q1 =>
      (Tape_isDigit q1.1 q1.2).bind fun q2 =>
      if q2.1 = 0 then
        if (4 : Int32) < v2 then
          some ((1 : Int32), q2.2)
        else
          some ((2 : Int32), q2.2)
      else
        if v2 < (4 : Int32) then
          if v1 < 0 then none else if 161 ≤ v1.toNatClampNeg then none else
          (Tape_byteAt (q2.2 6 0 5) q2.2).bind fun q4 =>
          if v1 < 0 then none else if 161 ≤ v1.toNatClampNeg then none else
          let σ5 := upd3 q4.2 10 0 v1.toNatClampNeg ((((10 : Int32) * (q2.2 10 0 v1.toNatClampNeg)) + q4.1) - (48 : Int32))
          let σ6 := upd3 σ5 6 0 5 ((σ5 6 0 5) + (1 : Int32))
          Tape_scanNumber_L4 n v1 (v2 + 1) (v3 + 1) σ6
        else
          let σ3 := upd3 q2.2 6 0 5 ((q2.2 6 0 5) + (1 : Int32))
          Tape_scanNumber_L4 n v1 (v2 + 1) (v3 + 1) σ3
    else
      if (4 : Int32) < v2 then
        some ((1 : Int32), σ)
      else
        some ((2 : Int32), σ)
def Tape_scanNumber (p1 : Int32) (σ : Sg) : Option (Int32 × Sg) :=
  Tape_scanNumber_L4 FU p1 (0 : Int32) (0 : Int32) σ
def cp_Tape_scanNumber {R : Type} (as : List AV) (σ : Sg) (k : AV → Sg → Option R) : Option R := match as with
  | [.inr (.inr (.inl (g1, i1))), .inl p1] => match Nat.beq g1 6 && Nat.beq i1 0 with
    | true => (Tape_scanNumber p1 σ).bind fun q => k (vI q.1) q.2
    | false => none
  | _ => none
-- Tape_isWord (ILjava/lang/String;)Z
def Tape_isWord_L17 : Nat → Int32 → Nat → Int32 → Sg → Option (Int32 × Sg)
  | 0, _, _, _, _ => none
  | n + 1, v1, v2, v3, σ =>
    if v3 < (Int32.ofNat (ab_word v2).length) then
      (Tape_byteAt (v1 + v3) σ).bind fun q1 =>
      if v3 < 0 then none else if (ab_word v2).length ≤ v3.toNatClampNeg then none else
      if q1.1 = (Int32.ofNat (ab_nth 0 (ab_word v2) v3.toNatClampNeg)) then
        Tape_isWord_L17 n v1 v2 (v3 + 1) q1.2
      else
        some ((0 : Int32), q1.2)
    else
      some ((1 : Int32), σ)
def Tape_isWord (p1 : Int32) (p2 : Nat) (σ : Sg) : Option (Int32 × Sg) :=
  if (Int32.ofNat (ab_word p2).length) = ((σ 6 0 5) - p1) then
    Tape_isWord_L17 FU p1 p2 (0 : Int32) σ
  else
    some ((0 : Int32), σ)
def cp_Tape_isWord {R : Type} (as : List AV) (σ : Sg) (k : AV → Sg → Option R) : Option R := match as with
  | [.inr (.inr (.inl (g1, i1))), .inl p1, .inr (.inr (.inl (g2, p2)))] => match Nat.beq g1 6 && Nat.beq i1 0 && Nat.beq g2 60 with
    | true => (Tape_isWord p1 p2 σ).bind fun q => k (vI q.1) q.2
    | false => none
  | _ => none
-- Tape_isLetter (I)Z
def Tape_isLetter (p0 : Int32) (σ : Sg) : Option (Int32 × Sg) :=
  if p0 < (97 : Int32) then
    some ((0 : Int32), σ)
  else
    if (122 : Int32) < p0 then
      some ((0 : Int32), σ)
    else
      some ((1 : Int32), σ)
def cp_Tape_isLetter {R : Type} (as : List AV) (σ : Sg) (k : AV → Sg → Option R) : Option R := match as with
  | [.inl p0] => (Tape_isLetter p0 σ).bind fun q => k (vI q.1) q.2
  | _ => none
-- Tape_scanWord (I)I
def Tape_scanWord_J39 (v1 : Int32) (σ : Sg) : Option (Int32 × Sg) :=
  (Tape_isWord v1 0 σ).bind fun q1 =>
  if q1.1 = 0 then
    (Tape_isWord v1 1 q1.2).bind fun q2 =>
    if q2.1 = 0 then
      (Tape_isWord v1 2 q2.2).bind fun q3 =>
      if q3.1 = 0 then
        (Tape_isWord v1 3 q3.2).bind fun q4 =>
        if q4.1 = 0 then
          (Tape_isWord v1 4 q4.2).bind fun q5 =>
          if q5.1 = 0 then
            (Tape_isWord v1 5 q5.2).bind fun q6 =>
            if q6.1 = 0 then
              (Tape_isWord v1 6 q6.2).bind fun q7 =>
              if q7.1 = 0 then
                (Tape_isWord v1 7 q7.2).bind fun q8 =>
                if q8.1 = 0 then
                  (Tape_isWord v1 8 q8.2).bind fun q9 =>
                  if q9.1 = 0 then
                    (Tape_isWord v1 9 q9.2).bind fun q10 =>
                    if q10.1 = 0 then
                      (Tape_isWord v1 10 q10.2).bind fun q11 =>
                      if q11.1 = 0 then
                        (Tape_isWord v1 11 q11.2).bind fun q12 =>
                        if q12.1 = 0 then
                          some ((1 : Int32), q12.2)
                        else
                          some ((315 : Int32), q12.2)
                      else
                        some ((314 : Int32), q11.2)
                    else
                      some ((313 : Int32), q10.2)
                  else
                    some ((312 : Int32), q9.2)
                else
                  some ((311 : Int32), q8.2)
              else
                some ((310 : Int32), q7.2)
            else
              some ((305 : Int32), q6.2)
          else
            some ((304 : Int32), q5.2)
        else
          some ((303 : Int32), q4.2)
      else
        some ((302 : Int32), q3.2)
    else
      some ((301 : Int32), q2.2)
  else
    some ((300 : Int32), q1.2)
def Tape_scanWord_L2 : Nat → Int32 → Int32 → Sg → Option (Int32 × Sg)
  | 0, _, _, _ => none
  | n + 1, v1, v2, σ =>
    if v2 < (160 : Int32) then
      (Tape_byteAt (σ 6 0 5) σ).bind fun q13 =>
      (Tape_isLetter q13.1 q13.2).bind fun q14 =>
      if q14.1 = 0 then
        Tape_scanWord_J39 v1 q14.2
      else
        let σ15 := upd3 q14.2 6 0 5 ((q14.2 6 0 5) + (1 : Int32))
        Tape_scanWord_L2 n v1 (v2 + 1) σ15
    else
      Tape_scanWord_J39 v1 σ
def Tape_scanWord (p1 : Int32) (σ : Sg) : Option (Int32 × Sg) :=
  Tape_scanWord_L2 FU p1 (0 : Int32) σ
def cp_Tape_scanWord {R : Type} (as : List AV) (σ : Sg) (k : AV → Sg → Option R) : Option R := match as with
  | [.inr (.inr (.inl (g1, i1))), .inl p1] => match Nat.beq g1 6 && Nat.beq i1 0 with
    | true => (Tape_scanWord p1 σ).bind fun q => k (vI q.1) q.2
    | false => none
  | _ => none
-- Tape_isSign (I)Z
def Tape_isSign (p0 : Int32) (σ : Sg) : Option (Int32 × Sg) :=
  if p0 = 40 then
    some ((1 : Int32), σ)
  else if p0 = 41 then
    some ((1 : Int32), σ)
  else if p0 = 42 then
    some ((1 : Int32), σ)
  else if p0 = 43 then
    some ((1 : Int32), σ)
  else if p0 = 44 then
    some ((0 : Int32), σ)
  else if p0 = 45 then
    some ((1 : Int32), σ)
  else if p0 = 46 then
    some ((0 : Int32), σ)
  else if p0 = 47 then
    some ((0 : Int32), σ)
  else if p0 = 48 then
    some ((0 : Int32), σ)
  else if p0 = 49 then
    some ((0 : Int32), σ)
  else if p0 = 50 then
    some ((0 : Int32), σ)
  else if p0 = 51 then
    some ((0 : Int32), σ)
  else if p0 = 52 then
    some ((0 : Int32), σ)
  else if p0 = 53 then
    some ((0 : Int32), σ)
  else if p0 = 54 then
    some ((0 : Int32), σ)
  else if p0 = 55 then
    some ((0 : Int32), σ)
  else if p0 = 56 then
    some ((0 : Int32), σ)
  else if p0 = 57 then
    some ((0 : Int32), σ)
  else if p0 = 58 then
    some ((0 : Int32), σ)
  else if p0 = 59 then
    some ((1 : Int32), σ)
  else if p0 = 60 then
    some ((1 : Int32), σ)
  else if p0 = 61 then
    some ((1 : Int32), σ)
  else
    some ((0 : Int32), σ)
def cp_Tape_isSign {R : Type} (as : List AV) (σ : Sg) (k : AV → Sg → Option R) : Option R := match as with
  | [.inl p0] => (Tape_isSign p0 σ).bind fun q => k (vI q.1) q.2
  | _ => none
-- Tape_scanOne (I)I
def Tape_scanOne (p1 : Int32) (σ : Sg) : Option (Int32 × Sg) :=
  (Tape_byteAt (σ 6 0 5) σ).bind fun q1 =>
  if q1.1 < 0 then
    some ((0 : Int32), q1.2)
  else
    (Tape_isLetter q1.1 q1.2).bind fun q2 =>
    if q2.1 = 0 then
      (Tape_isDigit q1.1 q2.2).bind fun q3 =>
      if q3.1 = 0 then
        let σ4 := upd3 q3.2 6 0 5 ((q3.2 6 0 5) + (1 : Int32))
        (Tape_isSign q1.1 σ4).bind fun q5 =>
        if q5.1 = 0 then
          some ((1 : Int32), q5.2)
        else
          some (q1.1, q5.2)
      else
        (Tape_scanNumber p1 q3.2).bind fun q6 =>
        some (q6.1, q6.2)
    else
      (Tape_scanWord (q2.2 6 0 5) q2.2).bind fun q7 =>
      some (q7.1, q7.2)
def cp_Tape_scanOne {R : Type} (as : List AV) (σ : Sg) (k : AV → Sg → Option R) : Option R := match as with
  | [.inr (.inr (.inl (g1, i1))), .inl p1] => match Nat.beq g1 6 && Nat.beq i1 0 with
    | true => (Tape_scanOne p1 σ).bind fun q => k (vI q.1) q.2
    | false => none
  | _ => none
-- Tape_isBlank (I)Z
def Tape_isBlank (p0 : Int32) (σ : Sg) : Option (Int32 × Sg) :=
  if p0 = (32 : Int32) then
    some ((1 : Int32), σ)
  else
    if p0 = (10 : Int32) then
      some ((1 : Int32), σ)
    else
      some ((0 : Int32), σ)
def cp_Tape_isBlank {R : Type} (as : List AV) (σ : Sg) (k : AV → Sg → Option R) : Option R := match as with
  | [.inl p0] => (Tape_isBlank p0 σ).bind fun q => k (vI q.1) q.2
  | _ => none
-- Tape_scan ()V
def Tape_scan_J58 (k12 : Int32 → Sg → Option (Sg)) (v1 : Int32) (σ : Sg) : Option (Sg) :=
  if v1 < 0 then none else if 161 ≤ v1.toNatClampNeg then none else
  let σ1 := upd3 σ 9 0 v1.toNatClampNeg (σ 6 0 5)
  if v1 < 0 then none else if 161 ≤ v1.toNatClampNeg then none else
  let σ2 := upd3 σ1 10 0 v1.toNatClampNeg (0 : Int32)
  (Tape_scanOne v1 σ2).bind fun q3 =>
  if v1 < 0 then none else if 161 ≤ v1.toNatClampNeg then none else
  let σ4 := upd3 q3.2 8 0 v1.toNatClampNeg q3.1
  let σ5 := upd3 σ4 6 0 6 ((σ4 6 0 6) + (1 : Int32))
  if v1 < 0 then none else if 161 ≤ v1.toNatClampNeg then none else
  if (σ5 8 0 v1.toNatClampNeg) = 0 then
    some σ5
  else
    k12 (v1 + 1) σ5
def Tape_scan_L21 (k12 : Int32 → Sg → Option (Sg)) : Nat → Int32 → Int32 → Sg → Option (Sg)
  | 0, _, _, _ => none
  | n + 1, v1, v2, σ =>
    if v2 < (160 : Int32) then
      (Tape_byteAt (σ 6 0 5) σ).bind fun q6 =>
      (Tape_isBlank q6.1 q6.2).bind fun q7 =>
      if q7.1 = 0 then
        Tape_scan_J58 k12 v1 q7.2
      else
        let σ8 := upd3 q7.2 6 0 5 ((q7.2 6 0 5) + (1 : Int32))
        Tape_scan_L21 k12 n v1 (v2 + 1) σ8
    else
      Tape_scan_J58 k12 v1 σ
def Tape_scan_L12 : Nat → Int32 → Sg → Option (Sg)
  | 0, _, _ => none
  | n + 1, v1, σ =>
    if (160 : Int32) < v1 then
      some σ
    else
      Tape_scan_L21 (fun y0 τ => Tape_scan_L12 n y0 τ) FU v1 (0 : Int32) σ
def Tape_scan (σ : Sg) : Option (Sg) :=
  let σ9 := upd3 σ 6 0 5 (0 : Int32)
  let σ10 := upd3 σ9 6 0 6 (0 : Int32)
  Tape_scan_L12 FU (0 : Int32) σ10
def cp_Tape_scan {R : Type} (as : List AV) (σ : Sg) (k : AV → Sg → Option R) : Option R := match as with
  | [.inr (.inr (.inl (g1, i1)))] => match Nat.beq g1 6 && Nat.beq i1 0 with
    | true => (Tape_scan σ).bind fun q => k vU q
    | false => none
  | _ => none
-- Text_clear ()V
def Text_clear (p0 : Nat) (σ : Sg) : Option (Sg) :=
  let σ1 := upd3 σ 2 p0 3 (0 : Int32)
  some σ1
def cp_Text_clear {R : Type} (as : List AV) (σ : Sg) (k : AV → Sg → Option R) : Option R := match as with
  | [.inr (.inr (.inl (g1, p0)))] => match Nat.beq g1 2 with
    | true => (Text_clear p0 σ).bind fun q => k vU q
    | false => none
  | _ => none
-- Text_endPart (I)V
def Text_endPart (p0 : Nat) (p1 : Int32) (σ : Sg) : Option (Sg) :=
  if p1 < 0 then
    some σ
  else
    if p1 < (3 : Int32) then
      if p1 < 0 then none else if 3 ≤ p1.toNatClampNeg then none else
      let σ1 := upd3 σ 4 p0 p1.toNatClampNeg (σ 2 p0 3)
      some σ1
    else
      some σ
def cp_Text_endPart {R : Type} (as : List AV) (σ : Sg) (k : AV → Sg → Option R) : Option R := match as with
  | [.inr (.inr (.inl (g1, p0))), .inl p1] => match Nat.beq g1 2 with
    | true => (Text_endPart p0 p1 σ).bind fun q => k vU q
    | false => none
  | _ => none
def cp_Reader_level (rc : Nat → Int32 → Int32 → Sg → Option (Int32 × Sg)) {R : Type} (as : List AV) (σ : Sg) (k : AV → Sg → Option R) : Option R := match as with
  | [.inr (.inr (.inl (g1, i1))), .inr (.inr (.inl (g2, p1))), .inl p2, .inl p3] => match Nat.beq g1 11 && Nat.beq i1 0 && Nat.beq g2 2 with
    | true => (rc p1 p2 p3 σ).bind fun q => k (vI q.1) q.2
    | false => none
  | _ => none
-- Reader_prefixed (LCoatsFitTheMood$Text;III)Z
def Reader_prefixed (rc : Nat → Int32 → Int32 → Sg → Option (Int32 × Sg)) (p1 : Nat) (p2 : Int32) (p3 : Int32) (p4 : Int32) (σ : Sg) : Option (Int32 × Sg) :=
  if p4 < (5 : Int32) then
    let σ1 := upd3 σ 11 0 1 ((σ 11 0 1) + (1 : Int32))
    (rc p1 p3 (p4 + (1 : Int32)) σ1).bind fun q2 =>
    if q2.1 = 0 then
      some ((0 : Int32), q2.2)
    else
      (Text_addToken p1 p2 q2.2).bind fun σ3 =>
      some ((1 : Int32), σ3)
  else
    some ((0 : Int32), σ)
def cp_Reader_prefixed (rc : Nat → Int32 → Int32 → Sg → Option (Int32 × Sg)) {R : Type} (as : List AV) (σ : Sg) (k : AV → Sg → Option R) : Option R := match as with
  | [.inr (.inr (.inl (g1, i1))), .inr (.inr (.inl (g2, p1))), .inl p2, .inl p3, .inl p4] => match Nat.beq g1 11 && Nat.beq i1 0 && Nat.beq g2 2 with
    | true => (Reader_prefixed rc p1 p2 p3 p4 σ).bind fun q => k (vI q.1) q.2
    | false => none
  | _ => none
-- Reader_bracketed (LCoatsFitTheMood$Text;I)Z
def Reader_bracketed (rc : Nat → Int32 → Int32 → Sg → Option (Int32 × Sg)) (p1 : Nat) (p2 : Int32) (σ : Sg) : Option (Int32 × Sg) :=
  if p2 < (5 : Int32) then
    let σ1 := upd3 σ 11 0 1 ((σ 11 0 1) + (1 : Int32))
    (rc p1 (0 : Int32) (p2 + (1 : Int32)) σ1).bind fun q2 =>
    if q2.1 = 0 then
      some ((0 : Int32), q2.2)
    else
      (Reader_stepOver (41 : Int32) q2.2).bind fun q3 =>
      if q3.1 = 0 then
        some ((0 : Int32), q3.2)
      else
        some ((1 : Int32), q3.2)
  else
    some ((0 : Int32), σ)
def cp_Reader_bracketed (rc : Nat → Int32 → Int32 → Sg → Option (Int32 × Sg)) {R : Type} (as : List AV) (σ : Sg) (k : AV → Sg → Option R) : Option R := match as with
  | [.inr (.inr (.inl (g1, i1))), .inr (.inr (.inl (g2, p1))), .inl p2] => match Nat.beq g1 11 && Nat.beq i1 0 && Nat.beq g2 2 with
    | true => (Reader_bracketed rc p1 p2 σ).bind fun q => k (vI q.1) q.2
    | false => none
  | _ => none
-- Reader_one (LCoatsFitTheMood$Text;I)Z
def Reader_one (rc : Nat → Int32 → Int32 → Sg → Option (Int32 × Sg)) (p1 : Nat) (p2 : Int32) (σ : Sg) : Option (Int32 × Sg) :=
  (Tape_token (σ 11 0 1) σ).bind fun q1 =>
  if q1.1 = (45 : Int32) then
    (Reader_prefixed rc p1 (306 : Int32) (5 : Int32) p2 q1.2).bind fun q8 =>
    some ((q8.1 &&& 1), q8.2)
  else
    if q1.1 = (40 : Int32) then
      (Reader_bracketed rc p1 p2 q1.2).bind fun q7 =>
      some ((q7.1 &&& 1), q7.2)
    else
      if q1.1 = (2 : Int32) then
        (Tape_number (q1.2 11 0 1) q1.2).bind fun q4 =>
        (Text_addNumber p1 q4.1 q4.2).bind fun σ5 =>
        let σ6 := upd3 σ5 11 0 1 ((σ5 11 0 1) + (1 : Int32))
        some ((1 : Int32), σ6)
      else
        if q1.1 < (310 : Int32) then
          some ((0 : Int32), q1.2)
        else
          (Text_addToken p1 q1.1 q1.2).bind fun σ2 =>
          let σ3 := upd3 σ2 11 0 1 ((σ2 11 0 1) + (1 : Int32))
          some ((1 : Int32), σ3)
def cp_Reader_one (rc : Nat → Int32 → Int32 → Sg → Option (Int32 × Sg)) {R : Type} (as : List AV) (σ : Sg) (k : AV → Sg → Option R) : Option R := match as with
  | [.inr (.inr (.inl (g1, i1))), .inr (.inr (.inl (g2, p1))), .inl p2] => match Nat.beq g1 11 && Nat.beq i1 0 && Nat.beq g2 2 with
    | true => (Reader_one rc p1 p2 σ).bind fun q => k (vI q.1) q.2
    | false => none
  | _ => none
-- Reader_level (LCoatsFitTheMood$Text;II)Z
def Reader_level_L76 (rc : Nat → Int32 → Int32 → Sg → Option (Int32 × Sg)) : Nat → Nat → Int32 → Int32 → Int32 → Int32 → Sg → Option (Int32 × Sg)
  | 0, _, _, _, _, _, _ => none
  | n + 1, v1, v2, v3, v4, v5, σ =>
    if v5 < v4 then
      (Tape_token (σ 11 0 1) σ).bind fun q1 =>
      (Reader_joins v2 q1.1 q1.2).bind fun q2 =>
      if q2.1 = 0 then
        some ((1 : Int32), q2.2)
      else
        (Tape_token (q2.2 11 0 1) q2.2).bind fun q3 =>
        let σ4 := upd3 q3.2 11 0 1 ((q3.2 11 0 1) + (1 : Int32))
        (rc v1 (v2 + (1 : Int32)) v3 σ4).bind fun q5 =>
        if q5.1 = 0 then
          some ((0 : Int32), q5.2)
        else
          (Text_addToken v1 q3.1 q5.2).bind fun σ6 =>
          Reader_level_L76 rc n v1 v2 v3 v4 (v5 + 1) σ6
    else
      some ((1 : Int32), σ)
def Reader_level_J45 (rc : Nat → Int32 → Int32 → Sg → Option (Int32 × Sg)) (v1 : Nat) (v2 : Int32) (v3 : Int32) (σ : Sg) : Option (Int32 × Sg) :=
  (rc v1 (v2 + (1 : Int32)) v3 σ).bind fun q7 =>
  if q7.1 = 0 then
    some ((0 : Int32), q7.2)
  else
    if v2 = (2 : Int32) then
      Reader_level_L76 rc FU v1 v2 v3 (1 : Int32) (0 : Int32) q7.2
    else
      Reader_level_L76 rc FU v1 v2 v3 (160 : Int32) (0 : Int32) q7.2
def Reader_levelB (rc : Nat → Int32 → Int32 → Sg → Option (Int32 × Sg)) (p1 : Nat) (p2 : Int32) (p3 : Int32) (σ : Sg) : Option (Int32 × Sg) :=
  if p2 < (5 : Int32) then
    if p2 = (2 : Int32) then
      (Tape_token (σ 11 0 1) σ).bind fun q8 =>
      if q8.1 = (305 : Int32) then
        (Reader_prefixed rc p1 (305 : Int32) (2 : Int32) p3 q8.2).bind fun q9 =>
        some ((q9.1 &&& 1), q9.2)
      else
        Reader_level_J45 rc p1 p2 p3 q8.2
    else
      Reader_level_J45 rc p1 p2 p3 σ
  else
    (Reader_one rc p1 p3 σ).bind fun q10 =>
    some ((q10.1 &&& 1), q10.2)
def Reader_level : Nat → Nat → Int32 → Int32 → Sg → Option (Int32 × Sg)
  | 0, _, _, _, _ => none
  | n + 1, i, w, o, σ => Reader_levelB (Reader_level n) i w o σ
-- Reader_readText (LCoatsFitTheMood$Text;)I
def Reader_readText_L18 : Nat → Nat → Int32 → Sg → Option (Int32 × Sg)
  | 0, _, _, _ => none
  | n + 1, v1, v2, σ =>
    if v2 < (3 : Int32) then
      (Reader_stepOver ((300 : Int32) + v2) σ).bind fun q3 =>
      if q3.1 = 0 then
        (Tape_place (q3.2 11 0 1) q3.2).bind fun q4 =>
        some (q4.1, q4.2)
      else
        (Reader_level RD v1 (0 : Int32) (0 : Int32) q3.2).bind fun q5 =>
        if q5.1 = 0 then
          (Tape_place (q5.2 11 0 1) q5.2).bind fun q6 =>
          some (q6.1, q6.2)
        else
          (Reader_stepOver (59 : Int32) q5.2).bind fun q7 =>
          if q7.1 = 0 then
            (Tape_place (q7.2 11 0 1) q7.2).bind fun q9 =>
            some (q9.1, q9.2)
          else
            (Text_endPart v1 v2 q7.2).bind fun σ8 =>
            Reader_readText_L18 n v1 (v2 + 1) σ8
    else
      (Tape_token (σ 11 0 1) σ).bind fun q1 =>
      if q1.1 = 0 then
        some ((-1 : Int32), q1.2)
      else
        (Tape_place (q1.2 11 0 1) q1.2).bind fun q2 =>
        some (q2.1, q2.2)
def Reader_readText (p1 : Nat) (σ : Sg) : Option (Int32 × Sg) :=
  (Text_clear p1 σ).bind fun σ10 =>
  (Tape_scan σ10).bind fun σ11 =>
  let σ12 := upd3 σ11 11 0 1 (0 : Int32)
  Reader_readText_L18 FU p1 (0 : Int32) σ12
def cp_Reader_readText {R : Type} (as : List AV) (σ : Sg) (k : AV → Sg → Option R) : Option R := match as with
  | [.inr (.inr (.inl (g1, i1))), .inr (.inr (.inl (g2, p1)))] => match Nat.beq g1 11 && Nat.beq i1 0 && Nat.beq g2 2 with
    | true => (Reader_readText p1 σ).bind fun q => k (vI q.1) q.2
    | false => none
  | _ => none
-- Tape_clear ()V
def Tape_clear (σ : Sg) : Option (Sg) :=
  let σ1 := upd3 σ 6 0 4 (0 : Int32)
  some σ1
def cp_Tape_clear {R : Type} (as : List AV) (σ : Sg) (k : AV → Sg → Option R) : Option R := match as with
  | [.inr (.inr (.inl (g1, i1)))] => match Nat.beq g1 6 && Nat.beq i1 0 with
    | true => (Tape_clear σ).bind fun q => k vU q
    | false => none
  | _ => none
-- X_text ()I
def X_text (σ : Sg) : Option (Int32 × Sg) :=
  if (σ 0 0 5) < (6 : Int32) then
    if (σ 0 0 5) < 0 then none else if 6 ≤ (σ 0 0 5).toNatClampNeg then none else
    (Reader_readText (σ 0 0 5).toNatClampNeg σ).bind fun q1 =>
    (Tape_clear q1.2).bind fun σ2 =>
    if q1.1 = (-1 : Int32) then
      let σ3 := upd3 σ2 0 0 5 ((σ2 0 0 5) + (1 : Int32))
      some (((σ3 0 0 5) - (1 : Int32)), σ3)
    else
      some (((-100 : Int32) - q1.1), σ2)
  else
    some ((-4 : Int32), σ)
def cp_X_text {R : Type} (as : List AV) (σ : Sg) (k : AV → Sg → Option R) : Option R := match as with
  | [.inr (.inr (.inl (g1, i1)))] => match Nat.beq g1 0 && Nat.beq i1 0 with
    | true => (X_text σ).bind fun q => k (vI q.1) q.2
    | false => none
  | _ => none
-- X_force (I)I
def X_force (p1 : Int32) (σ : Sg) : Option (Int32 × Sg) :=
  if p1 < 0 then
    some ((-2 : Int32), σ)
  else
    if p1 < (σ 0 0 5) then
      let σ1 := upd3 σ 0 0 6 p1
      some ((σ 0 0 6), σ1)
    else
      some ((-2 : Int32), σ)
def cp_X_force {R : Type} (as : List AV) (σ : Sg) (k : AV → Sg → Option R) : Option R := match as with
  | [.inr (.inr (.inl (g1, i1))), .inl p1] => match Nat.beq g1 0 && Nat.beq i1 0 with
    | true => (X_force p1 σ).bind fun q => k (vI q.1) q.2
    | false => none
  | _ => none
-- X_isPush (I)Z
def X_isPush (p0 : Int32) (σ : Sg) : Option (Int32 × Sg) :=
  if p0 < (-99 : Int32) then
    some ((0 : Int32), σ)
  else
    if (99 : Int32) < p0 then
      some ((0 : Int32), σ)
    else
      some ((1 : Int32), σ)
def cp_X_isPush {R : Type} (as : List AV) (σ : Sg) (k : AV → Sg → Option R) : Option R := match as with
  | [.inl p0] => (X_isPush p0 σ).bind fun q => k (vI q.1) q.2
  | _ => none
-- X_push (III)I
def X_push_L27 : Nat → Int32 → Int32 → Int32 → Int32 → Sg → Option (Int32 × Sg)
  | 0, _, _, _, _, _ => none
  | n + 1, v1, v2, v3, v4, σ =>
    if v4 < (24 : Int32) then
      (X_moodAt v1 v4 σ).bind fun q2 =>
      (X_bounded (q2.1 + v3) q2.2).bind fun q3 =>
      (X_giveMood v1 v4 q3.1 q3.2).bind fun σ4 =>
      X_push_L27 n v1 v2 v3 (v4 + 1) σ4
    else
      (X_moodAt v1 v2 σ).bind fun q1 =>
      some (q1.1, q1.2)
def X_push (p1 : Int32) (p2 : Int32) (p3 : Int32) (σ : Sg) : Option (Int32 × Sg) :=
  (X_isOne p1 σ).bind fun q5 =>
  if q5.1 = 0 then
    some ((-2 : Int32), q5.2)
  else
    (X_isHour p2 q5.2).bind fun q6 =>
    if q6.1 = 0 then
      some ((-2 : Int32), q6.2)
    else
      (X_isPush p3 q6.2).bind fun q7 =>
      if q7.1 = 0 then
        some ((-2 : Int32), q7.2)
      else
        X_push_L27 FU p1 p2 p3 p2 q7.2
def cp_X_push {R : Type} (as : List AV) (σ : Sg) (k : AV → Sg → Option R) : Option R := match as with
  | [.inr (.inr (.inl (g1, i1))), .inl p1, .inl p2, .inl p3] => match Nat.beq g1 0 && Nat.beq i1 0 with
    | true => (X_push p1 p2 p3 σ).bind fun q => k (vI q.1) q.2
    | false => none
  | _ => none
-- X_isSheet (I)Z
def X_isSheet (p0 : Int32) (σ : Sg) : Option (Int32 × Sg) :=
  if p0 < 0 then
    some ((0 : Int32), σ)
  else
    if p0 < (4 : Int32) then
      some ((1 : Int32), σ)
    else
      some ((0 : Int32), σ)
def cp_X_isSheet {R : Type} (as : List AV) (σ : Sg) (k : AV → Sg → Option R) : Option R := match as with
  | [.inl p0] => (X_isSheet p0 σ).bind fun q => k (vI q.1) q.2
  | _ => none
-- Sheet_hasRow (II)Z
def Sheet_hasRow (p0 : Nat) (p1 : Int32) (p2 : Int32) (σ : Sg) : Option (Int32 × Sg) :=
  if p1 < 0 then
    some ((0 : Int32), σ)
  else
    if p2 < 0 then
      some ((0 : Int32), σ)
    else
      if (σ 12 p0 2) < p2 then
        some ((0 : Int32), σ)
      else
        if ((σ 12 p0 2) - p2) < p1 then
          some ((0 : Int32), σ)
        else
          some ((1 : Int32), σ)
def cp_Sheet_hasRow {R : Type} (as : List AV) (σ : Sg) (k : AV → Sg → Option R) : Option R := match as with
  | [.inr (.inr (.inl (g1, p0))), .inl p1, .inl p2] => match Nat.beq g1 12 with
    | true => (Sheet_hasRow p0 p1 p2 σ).bind fun q => k (vI q.1) q.2
    | false => none
  | _ => none
-- Sheet_item (I)I
def Sheet_item (p0 : Nat) (p1 : Int32) (σ : Sg) : Option (Int32 × Sg) :=
  (Sheet_hasRow p0 p1 (1 : Int32) σ).bind fun q1 =>
  if q1.1 = 0 then
    some ((0 : Int32), q1.2)
  else
    if p1 < 0 then none else if 40 ≤ p1.toNatClampNeg then none else
    some ((q1.2 13 p0 p1.toNatClampNeg), q1.2)
def cp_Sheet_item {R : Type} (as : List AV) (σ : Sg) (k : AV → Sg → Option R) : Option R := match as with
  | [.inr (.inr (.inl (g1, p0))), .inl p1] => match Nat.beq g1 12 with
    | true => (Sheet_item p0 p1 σ).bind fun q => k (vI q.1) q.2
    | false => none
  | _ => none
-- X_planRefusal (LCoatsFitTheMood$Sheet;)I
def X_planRefusal_L25 : Nat → Nat → Int32 → Sg → Option (Int32 × Sg)
  | 0, _, _, _ => none
  | n + 1, v1, v2, σ =>
    if v2 < (σ 12 v1 2) then
      (Sheet_item v1 v2 σ).bind fun q1 =>
      if q1.1 = (-1 : Int32) then
        X_planRefusal_L25 n v1 (v2 + 1) q1.2
      else
        (X_isCoat q1.1 q1.2).bind fun q2 =>
        if q2.1 = 0 then
          some ((-2 : Int32), q2.2)
        else
          X_planRefusal_L25 n v1 (v2 + 1) q2.2
    else
      some ((0 : Int32), σ)
def X_planRefusal (p1 : Nat) (σ : Sg) : Option (Int32 × Sg) :=
  if (σ 12 p1 1) = (-1 : Int32) then
    some ((-11 : Int32), σ)
  else
    if (24 : Int32) < (σ 12 p1 2) then
      some ((-2 : Int32), σ)
    else
      X_planRefusal_L25 FU p1 (0 : Int32) σ
def cp_X_planRefusal {R : Type} (as : List AV) (σ : Sg) (k : AV → Sg → Option R) : Option R := match as with
  | [.inr (.inr (.inl (g1, i1))), .inr (.inr (.inl (g2, p1)))] => match Nat.beq g1 0 && Nat.beq i1 0 && Nat.beq g2 12 with
    | true => (X_planRefusal p1 σ).bind fun q => k (vI q.1) q.2
    | false => none
  | _ => none
-- X_planTold (LCoatsFitTheMood$Sheet;II)I
def X_planTold_J105 (k15 : Nat → Int32 → Int32 → Int32 → Int32 → Int32 → Int32 → Int32 → Sg → Option (Int32 × Sg)) (v1 : Nat) (v2 : Int32) (v3 : Int32) (v4 : Int32) (v5 : Int32) (v6 : Int32) (v7 : Int32) (v8 : Int32) (v9 : Int32) (v10 : Int32) (σ : Sg) : Option (Int32 × Sg) :=
  if v9 = v7 then
    k15 v1 v2 v3 v4 v5 v6 v9 (v8 + 1) σ
  else
    (X_costAt v9 v10 v8 σ).bind fun q1 =>
    k15 v1 v2 v3 v4 (v5 + q1.1) v6 v9 (v8 + 1) q1.2
def X_planTold_J87 (k15 : Nat → Int32 → Int32 → Int32 → Int32 → Int32 → Int32 → Int32 → Sg → Option (Int32 × Sg)) (v1 : Nat) (v2 : Int32) (v3 : Int32) (v4 : Int32) (v5 : Int32) (v6 : Int32) (v7 : Int32) (v8 : Int32) (v9 : Int32) (v10 : Int32) (σ : Sg) : Option (Int32 × Sg) :=
  (X_fineAt v9 v10 v8 σ).bind fun q2 =>
  X_planTold_J105 k15 v1 v2 v3 (v4 + q2.1) v5 (v6 + 1) v7 v8 v9 v10 q2.2
def X_planTold_J41 (k15 : Nat → Int32 → Int32 → Int32 → Int32 → Int32 → Int32 → Int32 → Sg → Option (Int32 × Sg)) (v1 : Nat) (v2 : Int32) (v3 : Int32) (v4 : Int32) (v5 : Int32) (v6 : Int32) (v7 : Int32) (v8 : Int32) (w0 : Int32) (σ : Sg) : Option (Int32 × Sg) :=
  (X_moodAt v2 v8 σ).bind fun q3 =>
  (X_isCoat w0 q3.2).bind fun q4 =>
  if q4.1 = 0 then
    X_planTold_J87 k15 v1 v2 v3 v4 v5 v6 v7 v8 w0 q3.1 q4.2
  else
    if (q4.2 0 0 6) < 0 then none else if 6 ≤ (q4.2 0 0 6).toNatClampNeg then none else
    if w0 < 0 then none else if 8 ≤ w0.toNatClampNeg then none else
    (X_fitsAt (q4.2 0 0 6).toNatClampNeg w0.toNatClampNeg q3.1 v8 q4.2).bind fun q5 =>
    if q5.1 = 0 then
      X_planTold_J87 k15 v1 v2 v3 v4 v5 v6 v7 v8 w0 q3.1 q5.2
    else
      X_planTold_J105 k15 v1 v2 v3 v4 v5 v6 v7 v8 w0 q3.1 q5.2
def X_planTold_L15 : Nat → Nat → Int32 → Int32 → Int32 → Int32 → Int32 → Int32 → Int32 → Sg → Option (Int32 × Sg)
  | 0, _, _, _, _, _, _, _, _, _ => none
  | n + 1, v1, v2, v3, v4, v5, v6, v7, v8, σ =>
    if v8 < (24 : Int32) then
      if v8 < (σ 12 v1 2) then
        (Sheet_item v1 v8 σ).bind fun q6 =>
        X_planTold_J41 (fun y0 y1 y2 y3 y4 y5 y6 y7 τ => X_planTold_L15 n y0 y1 y2 y3 y4 y5 y6 y7 τ) v1 v2 v3 v4 v5 v6 v7 v8 q6.1 q6.2
      else
        X_planTold_J41 (fun y0 y1 y2 y3 y4 y5 y6 y7 τ => X_planTold_L15 n y0 y1 y2 y3 y4 y5 y6 y7 τ) v1 v2 v3 v4 v5 v6 v7 v8 (-1 : Int32) σ
    else
      if v3 = (2 : Int32) then
        some (v6, σ)
      else
        if v3 = (1 : Int32) then
          some (v4, σ)
        else
          some ((v4 + v5), σ)
def X_planTold (p1 : Nat) (p2 : Int32) (p3 : Int32) (σ : Sg) : Option (Int32 × Sg) :=
  X_planTold_L15 FU p1 p2 p3 (0 : Int32) (0 : Int32) (0 : Int32) (-1 : Int32) (0 : Int32) σ
def cp_X_planTold {R : Type} (as : List AV) (σ : Sg) (k : AV → Sg → Option R) : Option R := match as with
  | [.inr (.inr (.inl (g1, i1))), .inr (.inr (.inl (g2, p1))), .inl p2, .inl p3] => match Nat.beq g1 0 && Nat.beq i1 0 && Nat.beq g2 12 with
    | true => (X_planTold p1 p2 p3 σ).bind fun q => k (vI q.1) q.2
    | false => none
  | _ => none
-- X_plan (III)I
def X_plan (p1 : Int32) (p2 : Int32) (p3 : Int32) (σ : Sg) : Option (Int32 × Sg) :=
  (X_isSheet p1 σ).bind fun q1 =>
  if q1.1 = 0 then
    some ((-2 : Int32), q1.2)
  else
    (X_isOne p2 q1.2).bind fun q2 =>
    if q2.1 = 0 then
      some ((-2 : Int32), q2.2)
    else
      if p3 < 0 then
        some ((-2 : Int32), q2.2)
      else
        if (2 : Int32) < p3 then
          some ((-2 : Int32), q2.2)
        else
          if p1 < 0 then none else if 4 ≤ p1.toNatClampNeg then none else
          (X_planRefusal p1.toNatClampNeg q2.2).bind fun q3 =>
          if q3.1 = 0 then
            if p1 < 0 then none else if 4 ≤ p1.toNatClampNeg then none else
            (X_planTold p1.toNatClampNeg p2 p3 q3.2).bind fun q4 =>
            some (q4.1, q4.2)
          else
            some (q3.1, q3.2)
def cp_X_plan {R : Type} (as : List AV) (σ : Sg) (k : AV → Sg → Option R) : Option R := match as with
  | [.inr (.inr (.inl (g1, i1))), .inl p1, .inl p2, .inl p3] => match Nat.beq g1 0 && Nat.beq i1 0 with
    | true => (X_plan p1 p2 p3 σ).bind fun q => k (vI q.1) q.2
    | false => none
  | _ => none
-- Coat_wornLonger ()V
def Coat_wornLonger (p0 : Nat) (σ : Sg) : Option (Sg) :=
  let σ1 := upd3 σ 1 p0 3 (if ((σ 1 p0 3) + (1 : Int32)) < (999 : Int32) then ((σ 1 p0 3) + (1 : Int32)) else (999 : Int32))
  some σ1
def cp_Coat_wornLonger {R : Type} (as : List AV) (σ : Sg) (k : AV → Sg → Option R) : Option R := match as with
  | [.inr (.inr (.inl (g1, p0)))] => match Nat.beq g1 1 with
    | true => (Coat_wornLonger p0 σ).bind fun q => k vU q
    | false => none
  | _ => none
-- X_wear (II)I
def X_wear_L51 : Nat → Nat → Int32 → Int32 → Sg → Option (Int32 × Sg)
  | 0, _, _, _, _ => none
  | n + 1, v3, v5, v6, σ =>
    if v6 < (σ 12 v3 2) then
      (Sheet_item v3 v6 σ).bind fun q1 =>
      (X_isCoat q1.1 q1.2).bind fun q2 =>
      if q2.1 = 0 then
        X_wear_L51 n v3 v5 (v6 + 1) q2.2
      else
        if q1.1 < 0 then none else if 8 ≤ q1.1.toNatClampNeg then none else
        (Coat_wornLonger q1.1.toNatClampNeg q2.2).bind fun σ3 =>
        X_wear_L51 n v3 v5 (v6 + 1) σ3
    else
      some (v5, σ)
def X_wear (p1 : Int32) (p2 : Int32) (σ : Sg) : Option (Int32 × Sg) :=
  (X_isSheet p1 σ).bind fun q4 =>
  if q4.1 = 0 then
    some ((-2 : Int32), q4.2)
  else
    (X_isOne p2 q4.2).bind fun q5 =>
    if q5.1 = 0 then
      some ((-2 : Int32), q5.2)
    else
      if p1 < 0 then none else if 4 ≤ p1.toNatClampNeg then none else
      (X_planRefusal p1.toNatClampNeg q5.2).bind fun q6 =>
      if q6.1 = 0 then
        (X_planTold p1.toNatClampNeg p2 (0 : Int32) q6.2).bind fun q7 =>
        X_wear_L51 FU p1.toNatClampNeg q7.1 (0 : Int32) q7.2
      else
        some (q6.1, q6.2)
def cp_X_wear {R : Type} (as : List AV) (σ : Sg) (k : AV → Sg → Option R) : Option R := match as with
  | [.inr (.inr (.inl (g1, i1))), .inl p1, .inl p2] => match Nat.beq g1 0 && Nat.beq i1 0 with
    | true => (X_wear p1 p2 σ).bind fun q => k (vI q.1) q.2
    | false => none
  | _ => none
-- Day_tell (IIII)V
def Day_tell (p1 : Int32) (p2 : Int32) (p3 : Int32) (p4 : Int32) (σ : Sg) : Option (Sg) :=
  (X_isHour p1 σ).bind fun q1 =>
  if q1.1 = 0 then
    some q1.2
  else
    if p2 < 0 then
      some q1.2
    else
      if p2 < (9 : Int32) then
        if ((p1 * (9 : Int32)) + p2) < 0 then none else if 216 ≤ ((p1 * (9 : Int32)) + p2).toNatClampNeg then none else
        let σ2 := upd3 q1.2 15 0 (((p1 * (9 : Int32)) + p2).toNatClampNeg) p3
        if ((p1 * (9 : Int32)) + p2) < 0 then none else if 216 ≤ ((p1 * (9 : Int32)) + p2).toNatClampNeg then none else
        let σ3 := upd3 σ2 16 0 (((p1 * (9 : Int32)) + p2).toNatClampNeg) p4
        some σ3
      else
        some q1.2
def cp_Day_tell {R : Type} (as : List AV) (σ : Sg) (k : AV → Sg → Option R) : Option R := match as with
  | [.inr (.inr (.inl (g1, i1))), .inl p1, .inl p2, .inl p3, .inl p4] => match Nat.beq g1 14 && Nat.beq i1 0 with
    | true => (Day_tell p1 p2 p3 p4 σ).bind fun q => k vU q
    | false => none
  | _ => none
-- X_tellHour (II)V
def X_tellHour_L14 : Nat → Int32 → Int32 → Int32 → Sg → Option (Sg)
  | 0, _, _, _, _ => none
  | n + 1, v1, v2, v3, σ =>
    if v3 < (σ 0 0 2) then
      if (σ 0 0 6) < 0 then none else if 6 ≤ (σ 0 0 6).toNatClampNeg then none else
      if v3 < 0 then none else if 8 ≤ v3.toNatClampNeg then none else
      (X_fitsAt (σ 0 0 6).toNatClampNeg v3.toNatClampNeg v2 v1 σ).bind fun q2 =>
      if q2.1 = 0 then
        (X_fineAt v3 v2 v1 q2.2).bind fun q3 =>
        (X_costAt v3 v2 v1 q3.2).bind fun q4 =>
        (Day_tell v1 (v3 + (1 : Int32)) q3.1 q4.1 q4.2).bind fun σ5 =>
        X_tellHour_L14 n v1 v2 (v3 + 1) σ5
      else
        (X_costAt v3 v2 v1 q2.2).bind fun q6 =>
        (Day_tell v1 (v3 + (1 : Int32)) (0 : Int32) q6.1 q6.2).bind fun σ7 =>
        X_tellHour_L14 n v1 v2 (v3 + 1) σ7
    else
      let σ1 := upd3 σ 14 0 4 ((σ 0 0 2) + (1 : Int32))
      some σ1
def X_tellHour (p1 : Int32) (p2 : Int32) (σ : Sg) : Option (Sg) :=
  (Day_tell p1 (0 : Int32) (99 : Int32) (0 : Int32) σ).bind fun σ8 =>
  X_tellHour_L14 FU p1 p2 (0 : Int32) σ8
def cp_X_tellHour {R : Type} (as : List AV) (σ : Sg) (k : AV → Sg → Option R) : Option R := match as with
  | [.inr (.inr (.inl (g1, i1))), .inl p1, .inl p2] => match Nat.beq g1 0 && Nat.beq i1 0 with
    | true => (X_tellHour p1 p2 σ).bind fun q => k vU q
    | false => none
  | _ => none
-- X_tellDay (I)V
def X_tellDay_L2 : Nat → Int32 → Int32 → Sg → Option (Sg)
  | 0, _, _, _ => none
  | n + 1, v1, v2, σ =>
    if v2 < (24 : Int32) then
      (X_moodAt v1 v2 σ).bind fun q1 =>
      (X_tellHour v2 q1.1 q1.2).bind fun σ2 =>
      X_tellDay_L2 n v1 (v2 + 1) σ2
    else
      some σ
def X_tellDay (p1 : Int32) (σ : Sg) : Option (Sg) :=
  X_tellDay_L2 FU p1 (0 : Int32) σ
def cp_X_tellDay {R : Type} (as : List AV) (σ : Sg) (k : AV → Sg → Option R) : Option R := match as with
  | [.inr (.inr (.inl (g1, i1))), .inl p1] => match Nat.beq g1 0 && Nat.beq i1 0 with
    | true => (X_tellDay p1 σ).bind fun q => k vU q
    | false => none
  | _ => none
-- Day_cheapest ()I
def Day_cheapest_L97 (k3 : Int32 → Sg → Option (Int32 × Sg)) : Nat → Int32 → Int32 → Int32 → Sg → Option (Int32 × Sg)
  | 0, _, _, _, _ => none
  | n + 1, v1, v2, v3, σ =>
    if v3 < (σ 14 0 4) then
      if v3 < (9 : Int32) then
        if ((v1 * (9 : Int32)) + v3) < 0 then none else if 216 ≤ ((v1 * (9 : Int32)) + v3).toNatClampNeg then none else
        if ((v1 * (9 : Int32)) + v3) < 0 then none else if 216 ≤ ((v1 * (9 : Int32)) + v3).toNatClampNeg then none else
        let σ1 := upd3 σ 18 0 (((v1 * (9 : Int32)) + v3).toNatClampNeg) (if v2 < (σ 17 0 ((v1 * (9 : Int32)) + v3).toNatClampNeg) then v2 else (σ 17 0 ((v1 * (9 : Int32)) + v3).toNatClampNeg))
        Day_cheapest_L97 k3 n v1 v2 (v3 + 1) σ1
      else
        k3 (v1 + (-1)) σ
    else
      k3 (v1 + (-1)) σ
def Day_cheapest_J67 (k3 : Int32 → Sg → Option (Int32 × Sg)) (k12 : Int32 → Int32 → Int32 → Sg → Option (Int32 × Sg)) (v1 : Int32) (v2 : Int32) (v3 : Int32) (v4 : Int32) (w1 : Int32) (w2 : Int32) (w3 : Int32) (σ : Sg) : Option (Int32 × Sg) :=
  if w1 < 0 then none else if 216 ≤ w1.toNatClampNeg then none else
  let σ2 := upd3 σ 17 0 w1.toNatClampNeg (w2 + w3)
  if v4 < 0 then none else if 216 ≤ v4.toNatClampNeg then none else
  if v4 < 0 then none else if 216 ≤ v4.toNatClampNeg then none else
  let x3 := (if ((σ2 17 0 v4.toNatClampNeg) + (σ2 16 0 v4.toNatClampNeg)) < v2 then ((σ2 17 0 v4.toNatClampNeg) + (σ2 16 0 v4.toNatClampNeg)) else v2)
  k12 v1 x3 (v3 + 1) σ2
def Day_cheapest_L12 (k3 : Int32 → Sg → Option (Int32 × Sg)) : Nat → Int32 → Int32 → Int32 → Sg → Option (Int32 × Sg)
  | 0, _, _, _, _ => none
  | n + 1, v1, v2, v3, σ =>
    if v3 < (σ 14 0 4) then
      if v3 < (9 : Int32) then
        if ((v1 * (9 : Int32)) + v3) < 0 then none else if 216 ≤ ((v1 * (9 : Int32)) + v3).toNatClampNeg then none else
        if v1 = (23 : Int32) then
          Day_cheapest_J67 k3 (fun y0 y1 y2 τ => Day_cheapest_L12 k3 n y0 y1 y2 τ) v1 v2 v3 ((v1 * (9 : Int32)) + v3) ((v1 * (9 : Int32)) + v3) (σ 15 0 ((v1 * (9 : Int32)) + v3).toNatClampNeg) (0 : Int32) σ
        else
          if (((v1 * (9 : Int32)) + v3) + (9 : Int32)) < 0 then none else if 216 ≤ (((v1 * (9 : Int32)) + v3) + (9 : Int32)).toNatClampNeg then none else
          Day_cheapest_J67 k3 (fun y0 y1 y2 τ => Day_cheapest_L12 k3 n y0 y1 y2 τ) v1 v2 v3 ((v1 * (9 : Int32)) + v3) ((v1 * (9 : Int32)) + v3) (σ 15 0 ((v1 * (9 : Int32)) + v3).toNatClampNeg) (σ 18 0 (((v1 * (9 : Int32)) + v3) + (9 : Int32)).toNatClampNeg) σ
      else
        Day_cheapest_L97 k3 FU v1 v2 (0 : Int32) σ
    else
      Day_cheapest_L97 k3 FU v1 v2 (0 : Int32) σ
def Day_cheapest_L3 : Nat → Int32 → Sg → Option (Int32 × Sg)
  | 0, _, _ => none
  | n + 1, v1, σ =>
    if v1 < 0 then
      some ((σ 18 0 0), σ)
    else
      Day_cheapest_L12 (fun y0 τ => Day_cheapest_L3 n y0 τ) FU v1 (1000000 : Int32) (0 : Int32) σ
def Day_cheapest (σ : Sg) : Option (Int32 × Sg) :=
  Day_cheapest_L3 FU (23 : Int32) σ
def cp_Day_cheapest {R : Type} (as : List AV) (σ : Sg) (k : AV → Sg → Option R) : Option R := match as with
  | [.inr (.inr (.inl (g1, i1)))] => match Nat.beq g1 14 && Nat.beq i1 0 with
    | true => (Day_cheapest σ).bind fun q => k (vI q.1) q.2
    | false => none
  | _ => none
-- X_cheapCost (I)I
def X_cheapCost (p1 : Int32) (σ : Sg) : Option (Int32 × Sg) :=
  (X_tellDay p1 σ).bind fun σ1 =>
  (Day_cheapest σ1).bind fun q2 =>
  some (q2.1, q2.2)
def cp_X_cheapCost {R : Type} (as : List AV) (σ : Sg) (k : AV → Sg → Option R) : Option R := match as with
  | [.inr (.inr (.inl (g1, i1))), .inl p1] => match Nat.beq g1 0 && Nat.beq i1 0 with
    | true => (X_cheapCost p1 σ).bind fun q => k (vI q.1) q.2
    | false => none
  | _ => none
-- X_bare (I)I
def X_bare_L4 : Nat → Int32 → Int32 → Int32 → Sg → Option (Int32 × Sg)
  | 0, _, _, _, _ => none
  | n + 1, v1, v2, v3, σ =>
    if v3 < (24 : Int32) then
      (X_rightAt v1 v3 σ).bind fun q1 =>
      if q1.1 = 0 then
        X_bare_L4 n v1 (v2 ||| ((1 : Int32) <<< (v3 &&& 31))) (v3 + 1) q1.2
      else
        X_bare_L4 n v1 v2 (v3 + 1) q1.2
    else
      some (v2, σ)
def X_bare (p1 : Int32) (σ : Sg) : Option (Int32 × Sg) :=
  X_bare_L4 FU p1 (0 : Int32) (0 : Int32) σ
def cp_X_bare {R : Type} (as : List AV) (σ : Sg) (k : AV → Sg → Option R) : Option R := match as with
  | [.inr (.inr (.inl (g1, i1))), .inl p1] => match Nat.beq g1 0 && Nat.beq i1 0 with
    | true => (X_bare p1 σ).bind fun q => k (vI q.1) q.2
    | false => none
  | _ => none
-- X_covers (I)Z
def X_covers_L2 : Nat → Int32 → Int32 → Sg → Option (Int32 × Sg)
  | 0, _, _, _ => none
  | n + 1, v1, v2, σ =>
    if v2 < (24 : Int32) then
      if v2 < 0 then none else if 24 ≤ v2.toNatClampNeg then none else
      if (σ 19 0 v2.toNatClampNeg) = 0 then
        X_covers_L2 n v1 (v2 + 1) σ
      else
        if v2 < 0 then none else if 24 ≤ v2.toNatClampNeg then none else
        if ((σ 19 0 v2.toNatClampNeg) &&& v1) = 0 then
          some ((0 : Int32), σ)
        else
          X_covers_L2 n v1 (v2 + 1) σ
    else
      some ((1 : Int32), σ)
def X_covers (p1 : Int32) (σ : Sg) : Option (Int32 × Sg) :=
  X_covers_L2 FU p1 (0 : Int32) σ
def cp_X_covers {R : Type} (as : List AV) (σ : Sg) (k : AV → Sg → Option R) : Option R := match as with
  | [.inr (.inr (.inl (g1, i1))), .inl p1] => match Nat.beq g1 0 && Nat.beq i1 0 with
    | true => (X_covers p1 σ).bind fun q => k (vI q.1) q.2
    | false => none
  | _ => none
-- Jint_bitCount (I)I
def Jint_bitCount (p0 : Int32) (σ : Sg) : Option (Int32 × Sg) :=
  let x1 := (p0 - (((p0).toUInt32 >>> (((1 : Int32)).toUInt32 &&& 31)).toInt32 &&& (1431655765 : Int32)))
  let x2 := ((x1 &&& (858993459 : Int32)) + (((x1).toUInt32 >>> (((2 : Int32)).toUInt32 &&& 31)).toInt32 &&& (858993459 : Int32)))
  let x3 := ((x2 + ((x2).toUInt32 >>> (((4 : Int32)).toUInt32 &&& 31)).toInt32) &&& (252645135 : Int32))
  let x4 := ((x3 + ((x3).toUInt32 >>> (((8 : Int32)).toUInt32 &&& 31)).toInt32) + (((x3 + ((x3).toUInt32 >>> (((8 : Int32)).toUInt32 &&& 31)).toInt32)).toUInt32 >>> (((16 : Int32)).toUInt32 &&& 31)).toInt32)
  some ((x4 &&& (63 : Int32)), σ)
def cp_Jint_bitCount {R : Type} (as : List AV) (σ : Sg) (k : AV → Sg → Option R) : Option R := match as with
  | [.inl p0] => (Jint_bitCount p0 σ).bind fun q => k (vI q.1) q.2
  | _ => none
-- X_cover (I)I
def X_cover_L39 : Nat → Int32 → Int32 → Sg → Option (Int32 × Sg)
  | 0, _, _, _ => none
  | n + 1, v2, v3, σ =>
    if v3 < 0 then
      some (v2, σ)
    else
      (Jint_bitCount v3 σ).bind fun q1 =>
      (Jint_bitCount v2 q1.2).bind fun q2 =>
      if q2.1 < q1.1 then
        X_cover_L39 n v2 (v3 + (-1)) q2.2
      else
        (X_covers v3 q2.2).bind fun q3 =>
        if q3.1 = 0 then
          X_cover_L39 n v2 (v3 + (-1)) q3.2
        else
          X_cover_L39 n v3 (v3 + (-1)) q3.2
def X_cover_L2 : Nat → Int32 → Int32 → Sg → Option (Int32 × Sg)
  | 0, _, _, _ => none
  | n + 1, v1, v2, σ =>
    if v2 < (24 : Int32) then
      (X_rightAt v1 v2 σ).bind fun q4 =>
      if v2 < 0 then none else if 24 ≤ v2.toNatClampNeg then none else
      let σ5 := upd3 q4.2 19 0 v2.toNatClampNeg q4.1
      X_cover_L2 n v1 (v2 + 1) σ5
    else
      X_cover_L39 FU (((1 : Int32) <<< ((σ 0 0 2) &&& 31)) - (1 : Int32)) ((((1 : Int32) <<< ((σ 0 0 2) &&& 31)) - (1 : Int32)) - (1 : Int32)) σ
def X_cover (p1 : Int32) (σ : Sg) : Option (Int32 × Sg) :=
  X_cover_L2 FU p1 (0 : Int32) σ
def cp_X_cover {R : Type} (as : List AV) (σ : Sg) (k : AV → Sg → Option R) : Option R := match as with
  | [.inr (.inr (.inl (g1, i1))), .inl p1] => match Nat.beq g1 0 && Nat.beq i1 0 with
    | true => (X_cover p1 σ).bind fun q => k (vI q.1) q.2
    | false => none
  | _ => none
-- X_changes (I)I
def X_changes_L14 : Nat → Int32 → Int32 → Int32 → Int32 → Sg → Option (Int32 × Sg)
  | 0, _, _, _, _, _ => none
  | n + 1, v1, v2, v3, v4, σ =>
    if v4 < (24 : Int32) then
      (X_rightAt v1 v4 σ).bind fun q1 =>
      if q1.1 = 0 then
        X_changes_L14 n v1 v2 v3 (v4 + 1) q1.2
      else
        if (v3 &&& q1.1) = 0 then
          X_changes_L14 n v1 (v2 + 1) q1.1 (v4 + 1) q1.2
        else
          X_changes_L14 n v1 v2 (v3 &&& q1.1) (v4 + 1) q1.2
    else
      some (v2, σ)
def X_changes (p1 : Int32) (σ : Sg) : Option (Int32 × Sg) :=
  X_changes_L14 FU p1 (0 : Int32) (((1 : Int32) <<< ((σ 0 0 2) &&& 31)) - (1 : Int32)) (0 : Int32) σ
def cp_X_changes {R : Type} (as : List AV) (σ : Sg) (k : AV → Sg → Option R) : Option R := match as with
  | [.inr (.inr (.inl (g1, i1))), .inl p1] => match Nat.beq g1 0 && Nat.beq i1 0 with
    | true => (X_changes p1 σ).bind fun q => k (vI q.1) q.2
    | false => none
  | _ => none
-- Day_firstBehind (II)I
def Day_firstBehind_J47 (k2 : Int32 → Int32 → Int32 → Sg → Option (Int32 × Sg)) (v1 : Int32) (v2 : Int32) (v3 : Int32) (w0 : Int32) (w1 : Int32) (σ : Sg) : Option (Int32 × Sg) :=
  if ((v1 * (9 : Int32)) + v2) < 0 then none else if 216 ≤ ((v1 * (9 : Int32)) + v2).toNatClampNeg then none else
  if (w0 + w1) = (σ 18 0 ((v1 * (9 : Int32)) + v2).toNatClampNeg) then
    some (v3, σ)
  else
    k2 v1 v2 (v3 + 1) σ
def Day_firstBehind_L2 : Nat → Int32 → Int32 → Int32 → Sg → Option (Int32 × Sg)
  | 0, _, _, _, _ => none
  | n + 1, v1, v2, v3, σ =>
    if v3 < (σ 14 0 4) then
      if v3 < (9 : Int32) then
        if ((v1 * (9 : Int32)) + v3) < 0 then none else if 216 ≤ ((v1 * (9 : Int32)) + v3).toNatClampNeg then none else
        if v3 = v2 then
          Day_firstBehind_J47 (fun y0 y1 y2 τ => Day_firstBehind_L2 n y0 y1 y2 τ) v1 v2 v3 (σ 17 0 ((v1 * (9 : Int32)) + v3).toNatClampNeg) (0 : Int32) σ
        else
          if ((v1 * (9 : Int32)) + v3) < 0 then none else if 216 ≤ ((v1 * (9 : Int32)) + v3).toNatClampNeg then none else
          Day_firstBehind_J47 (fun y0 y1 y2 τ => Day_firstBehind_L2 n y0 y1 y2 τ) v1 v2 v3 (σ 17 0 ((v1 * (9 : Int32)) + v3).toNatClampNeg) (σ 16 0 ((v1 * (9 : Int32)) + v3).toNatClampNeg) σ
      else
        some ((0 : Int32), σ)
    else
      some ((0 : Int32), σ)
def Day_firstBehind (p1 : Int32) (p2 : Int32) (σ : Sg) : Option (Int32 × Sg) :=
  Day_firstBehind_L2 FU p1 p2 (0 : Int32) σ
def cp_Day_firstBehind {R : Type} (as : List AV) (σ : Sg) (k : AV → Sg → Option R) : Option R := match as with
  | [.inr (.inr (.inl (g1, i1))), .inl p1, .inl p2] => match Nat.beq g1 14 && Nat.beq i1 0 with
    | true => (Day_firstBehind p1 p2 σ).bind fun q => k (vI q.1) q.2
    | false => none
  | _ => none
-- Day_wornAt (I)I
def Day_wornAt_J28 (v2 : Int32) (σ : Sg) : Option (Int32 × Sg) :=
  if v2 = 0 then
    some ((-1 : Int32), σ)
  else
    some ((v2 - (1 : Int32)), σ)
def Day_wornAt_L4 : Nat → Int32 → Int32 → Int32 → Sg → Option (Int32 × Sg)
  | 0, _, _, _, _ => none
  | n + 1, v1, v2, v3, σ =>
    if v1 < v3 then
      Day_wornAt_J28 v2 σ
    else
      if v3 < (24 : Int32) then
        (Day_firstBehind v3 v2 σ).bind fun q1 =>
        Day_wornAt_L4 n v1 q1.1 (v3 + 1) q1.2
      else
        Day_wornAt_J28 v2 σ
def Day_wornAt (p1 : Int32) (σ : Sg) : Option (Int32 × Sg) :=
  Day_wornAt_L4 FU p1 (0 : Int32) (0 : Int32) σ
def cp_Day_wornAt {R : Type} (as : List AV) (σ : Sg) (k : AV → Sg → Option R) : Option R := match as with
  | [.inr (.inr (.inl (g1, i1))), .inl p1] => match Nat.beq g1 14 && Nat.beq i1 0 with
    | true => (Day_wornAt p1 σ).bind fun q => k (vI q.1) q.2
    | false => none
  | _ => none
-- X_day (II)I
def X_day_J47 (v1 : Int32) (v2 : Int32) (σ : Sg) : Option (Int32 × Sg) :=
  if v2 = 0 then
    (X_cover v1 σ).bind fun q1 =>
    some (q1.1, q1.2)
  else if v2 = 1 then
    (X_cover v1 σ).bind fun q2 =>
    (Jint_bitCount q2.1 q2.2).bind fun q3 =>
    some (q3.1, q3.2)
  else if v2 = 2 then
    (X_bare v1 σ).bind fun q4 =>
    some (q4.1, q4.2)
  else if v2 = 3 then
    (X_changes v1 σ).bind fun q5 =>
    some (q5.1, q5.2)
  else if v2 = 4 then
    (X_cheapCost v1 σ).bind fun q6 =>
    some (q6.1, q6.2)
  else
    some ((-2 : Int32), σ)
def X_day (p1 : Int32) (p2 : Int32) (σ : Sg) : Option (Int32 × Sg) :=
  (X_isOne p1 σ).bind fun q7 =>
  if q7.1 = 0 then
    some ((-2 : Int32), q7.2)
  else
    if p2 < (10 : Int32) then
      X_day_J47 p1 p2 q7.2
    else
      if p2 < (34 : Int32) then
        (X_tellDay p1 q7.2).bind fun σ8 =>
        (Day_cheapest σ8).bind fun q9 =>
        (Day_wornAt (p2 - (10 : Int32)) q9.2).bind fun q10 =>
        some (q10.1, q10.2)
      else
        X_day_J47 p1 p2 q7.2
def cp_X_day {R : Type} (as : List AV) (σ : Sg) (k : AV → Sg → Option R) : Option R := match as with
  | [.inr (.inr (.inl (g1, i1))), .inl p1, .inl p2] => match Nat.beq g1 0 && Nat.beq i1 0 with
    | true => (X_day p1 p2 σ).bind fun q => k (vI q.1) q.2
    | false => none
  | _ => none
-- Sheet_become (II)V
def Sheet_become_L21 : Nat → Nat → Int32 → Sg → Option (Sg)
  | 0, _, _, _ => none
  | n + 1, v0, v3, σ =>
    if v3 < (40 : Int32) then
      if v3 < 0 then none else if 40 ≤ v3.toNatClampNeg then none else
      let σ1 := upd3 σ 13 v0 v3.toNatClampNeg (0 : Int32)
      Sheet_become_L21 n v0 (v3 + 1) σ1
    else
      some σ
def Sheet_become (p0 : Nat) (p1 : Int32) (p2 : Int32) (σ : Sg) : Option (Sg) :=
  let σ2 := upd3 σ 12 p0 1 p1
  let σ3 := upd3 σ2 12 p0 2 (if (0 : Int32) < (if p2 < (40 : Int32) then p2 else (40 : Int32)) then (if p2 < (40 : Int32) then p2 else (40 : Int32)) else (0 : Int32))
  Sheet_become_L21 FU p0 (0 : Int32) σ3
def cp_Sheet_become {R : Type} (as : List AV) (σ : Sg) (k : AV → Sg → Option R) : Option R := match as with
  | [.inr (.inr (.inl (g1, p0))), .inl p1, .inl p2] => match Nat.beq g1 12 with
    | true => (Sheet_become p0 p1 p2 σ).bind fun q => k vU q
    | false => none
  | _ => none
-- Sheet_put (II)V
def Sheet_put (p0 : Nat) (p1 : Int32) (p2 : Int32) (σ : Sg) : Option (Sg) :=
  (Sheet_hasRow p0 p1 (1 : Int32) σ).bind fun q1 =>
  if q1.1 = 0 then
    some q1.2
  else
    if (q1.2 12 p0 1) = 0 then
      if p1 < 0 then none else if 40 ≤ p1.toNatClampNeg then none else
      let σ4 := upd3 q1.2 13 p0 p1.toNatClampNeg (p2).toInt8.toInt32
      some σ4
    else
      if (q1.2 12 p0 1) = (1 : Int32) then
        if p1 < 0 then none else if 40 ≤ p1.toNatClampNeg then none else
        let σ3 := upd3 q1.2 13 p0 p1.toNatClampNeg (p2).toInt16.toInt32
        some σ3
      else
        if p1 < 0 then none else if 40 ≤ p1.toNatClampNeg then none else
        let σ2 := upd3 q1.2 13 p0 p1.toNatClampNeg p2
        some σ2
def cp_Sheet_put {R : Type} (as : List AV) (σ : Sg) (k : AV → Sg → Option R) : Option R := match as with
  | [.inr (.inr (.inl (g1, p0))), .inl p1, .inl p2] => match Nat.beq g1 12 with
    | true => (Sheet_put p0 p1 p2 σ).bind fun q => k vU q
    | false => none
  | _ => none
-- X_dress (II)I
def X_dress_L38 : Nat → Int32 → Int32 → Int32 → Sg → Option (Int32 × Sg)
  | 0, _, _, _, _ => none
  | n + 1, v1, v3, v4, σ =>
    if v4 < (24 : Int32) then
      if v1 < 0 then none else if 4 ≤ v1.toNatClampNeg then none else
      (Day_wornAt v4 σ).bind fun q1 =>
      (Sheet_put v1.toNatClampNeg v4 q1.1 q1.2).bind fun σ2 =>
      X_dress_L38 n v1 v3 (v4 + 1) σ2
    else
      some (v3, σ)
def X_dress (p1 : Int32) (p2 : Int32) (σ : Sg) : Option (Int32 × Sg) :=
  (X_isSheet p1 σ).bind fun q3 =>
  if q3.1 = 0 then
    some ((-2 : Int32), q3.2)
  else
    (X_isOne p2 q3.2).bind fun q4 =>
    if q4.1 = 0 then
      some ((-2 : Int32), q4.2)
    else
      (X_cheapCost p2 q4.2).bind fun q5 =>
      if p1 < 0 then none else if 4 ≤ p1.toNatClampNeg then none else
      (Sheet_become p1.toNatClampNeg (0 : Int32) (24 : Int32) q5.2).bind fun σ6 =>
      X_dress_L38 FU p1 q5.1 (0 : Int32) σ6
def cp_X_dress {R : Type} (as : List AV) (σ : Sg) (k : AV → Sg → Option R) : Option R := match as with
  | [.inr (.inr (.inl (g1, i1))), .inl p1, .inl p2] => match Nat.beq g1 0 && Nat.beq i1 0 with
    | true => (X_dress p1 p2 σ).bind fun q => k (vI q.1) q.2
    | false => none
  | _ => none
-- Coat_become (LCoatsFitTheMood$Coat;)V
def Coat_become (p0 : Nat) (p1 : Nat) (σ : Sg) : Option (Sg) :=
  (Coat_comeAs p0 (σ 1 p1 0) (σ 1 p1 1) (σ 1 p1 2) σ).bind fun σ1 =>
  let σ2 := upd3 σ1 1 p0 3 (σ1 1 p1 3)
  some σ2
def cp_Coat_become {R : Type} (as : List AV) (σ : Sg) (k : AV → Sg → Option R) : Option R := match as with
  | [.inr (.inr (.inl (g1, p0))), .inr (.inr (.inl (g2, p1)))] => match Nat.beq g1 1 && Nat.beq g2 1 with
    | true => (Coat_become p0 p1 σ).bind fun q => k vU q
    | false => none
  | _ => none
-- X_anew (III)I
def X_anew_L49 : Nat → Int32 → Int32 → Int32 → Int32 → Int32 → Sg → Option (Int32 × Sg)
  | 0, _, _, _, _, _, _ => none
  | n + 1, v2, v3, v4, v5, v6, σ =>
    if v6 < (100 : Int32) then
      let σ1 := upd3 σ 1 8 2 v6
      (X_hoursOf 8 v2 σ1).bind fun q2 =>
      if v5 < q2.1 then
        X_anew_L49 n v2 v3 v6 q2.1 (v6 + 1) q2.2
      else
        X_anew_L49 n v2 v3 v4 v5 (v6 + 1) q2.2
    else
      if v3 = 0 then
        some (v4, σ)
      else
        some (v5, σ)
def X_anew (p1 : Int32) (p2 : Int32) (p3 : Int32) (σ : Sg) : Option (Int32 × Sg) :=
  (X_isCoat p1 σ).bind fun q3 =>
  if q3.1 = 0 then
    some ((-2 : Int32), q3.2)
  else
    (X_isOne p2 q3.2).bind fun q4 =>
    if q4.1 = 0 then
      some ((-2 : Int32), q4.2)
    else
      if p3 < 0 then
        some ((-2 : Int32), q4.2)
      else
        if (1 : Int32) < p3 then
          some ((-2 : Int32), q4.2)
        else
          if p1 < 0 then none else if 8 ≤ p1.toNatClampNeg then none else
          (Coat_become 8 p1.toNatClampNeg q4.2).bind fun σ5 =>
          X_anew_L49 FU p2 p3 (0 : Int32) (-1 : Int32) (0 : Int32) σ5
def cp_X_anew {R : Type} (as : List AV) (σ : Sg) (k : AV → Sg → Option R) : Option R := match as with
  | [.inr (.inr (.inl (g1, i1))), .inl p1, .inl p2, .inl p3] => match Nat.beq g1 0 && Nat.beq i1 0 with
    | true => (X_anew p1 p2 p3 σ).bind fun q => k (vI q.1) q.2
    | false => none
  | _ => none
-- X_pushes (III)I
def X_pushes_L75 : Nat → Int32 → Int32 → Int32 → Int32 → Int32 → Sg → Option (Int32 × Sg)
  | 0, _, _, _, _, _, _ => none
  | n + 1, v1, v3, v4, v5, v6, σ =>
    if v6 < (24 : Int32) then
      (X_moodAt v1 (v6 - (1 : Int32)) σ).bind fun q1 =>
      (X_tellHour (v6 - (1 : Int32)) q1.1 q1.2).bind fun σ2 =>
      (Day_cheapest σ2).bind fun q3 =>
      if q3.1 < v5 then
        X_pushes_L75 n v1 v3 v6 q3.1 (v6 + 1) q3.2
      else
        X_pushes_L75 n v1 v3 v4 v5 (v6 + 1) q3.2
    else
      if v3 = 0 then
        some (v4, σ)
      else
        some (v5, σ)
def X_pushes_L29 : Nat → Int32 → Int32 → Int32 → Int32 → Sg → Option (Int32 × Sg)
  | 0, _, _, _, _, _ => none
  | n + 1, v1, v2, v3, v4, σ =>
    if v4 < (24 : Int32) then
      (X_moodAt v1 v4 σ).bind fun q5 =>
      (X_bounded (q5.1 + v2) q5.2).bind fun q6 =>
      (X_tellHour v4 q6.1 q6.2).bind fun σ7 =>
      X_pushes_L29 n v1 v2 v3 (v4 + 1) σ7
    else
      (Day_cheapest σ).bind fun q4 =>
      X_pushes_L75 FU v1 v3 (0 : Int32) q4.1 (1 : Int32) q4.2
def X_pushes (p1 : Int32) (p2 : Int32) (p3 : Int32) (σ : Sg) : Option (Int32 × Sg) :=
  (X_isOne p1 σ).bind fun q8 =>
  if q8.1 = 0 then
    some ((-2 : Int32), q8.2)
  else
    (X_isPush p2 q8.2).bind fun q9 =>
    if q9.1 = 0 then
      some ((-2 : Int32), q9.2)
    else
      if p3 < 0 then
        some ((-2 : Int32), q9.2)
      else
        if (1 : Int32) < p3 then
          some ((-2 : Int32), q9.2)
        else
          X_pushes_L29 FU p1 p2 p3 (0 : Int32) q9.2
def cp_X_pushes {R : Type} (as : List AV) (σ : Sg) (k : AV → Sg → Option R) : Option R := match as with
  | [.inr (.inr (.inl (g1, i1))), .inl p1, .inl p2, .inl p3] => match Nat.beq g1 0 && Nat.beq i1 0 with
    | true => (X_pushes p1 p2 p3 σ).bind fun q => k (vI q.1) q.2
    | false => none
  | _ => none
-- X_useless ()I
def X_useless_L4 : Nat → Int32 → Int32 → Sg → Option (Int32 × Sg)
  | 0, _, _, _ => none
  | n + 1, v1, v2, σ =>
    if v2 < (σ 0 0 2) then
      if v2 < 0 then none else if 8 ≤ v2.toNatClampNeg then none else
      (X_hoursOfEverybody v2.toNatClampNeg σ).bind fun q1 =>
      if q1.1 = 0 then
        X_useless_L4 n (v1 ||| ((1 : Int32) <<< (v2 &&& 31))) (v2 + 1) q1.2
      else
        X_useless_L4 n v1 (v2 + 1) q1.2
    else
      some (v1, σ)
def X_useless (σ : Sg) : Option (Int32 × Sg) :=
  X_useless_L4 FU (0 : Int32) (0 : Int32) σ
def cp_X_useless {R : Type} (as : List AV) (σ : Sg) (k : AV → Sg → Option R) : Option R := match as with
  | [.inr (.inr (.inl (g1, i1)))] => match Nat.beq g1 0 && Nat.beq i1 0 with
    | true => (X_useless σ).bind fun q => k (vI q.1) q.2
    | false => none
  | _ => none
-- X_apart (II)I
def X_apart_L5 : Nat → Int32 → Int32 → Int32 → Int32 → Sg → Option (Int32 × Sg)
  | 0, _, _, _, _, _ => none
  | n + 1, v1, v2, v3, v4, σ =>
    if v4 < (24 : Int32) then
      (X_moodAt v1 v4 σ).bind fun q1 =>
      (X_moodAt v2 v4 q1.2).bind fun q2 =>
      X_apart_L5 n v1 v2 (v3 + (if 0 ≤ (q1.1 - q2.1) then (q1.1 - q2.1) else 0 - (q1.1 - q2.1))) (v4 + 1) q2.2
    else
      some (v3, σ)
def X_apart (p1 : Int32) (p2 : Int32) (σ : Sg) : Option (Int32 × Sg) :=
  X_apart_L5 FU p1 p2 (0 : Int32) (0 : Int32) σ
def cp_X_apart {R : Type} (as : List AV) (σ : Sg) (k : AV → Sg → Option R) : Option R := match as with
  | [.inr (.inr (.inl (g1, i1))), .inl p1, .inl p2] => match Nat.beq g1 0 && Nat.beq i1 0 with
    | true => (X_apart p1 p2 σ).bind fun q => k (vI q.1) q.2
    | false => none
  | _ => none
-- X_alike (Z)I
def X_alike_L21 (k9 : Int32 → Int32 → Int32 → Int32 → Sg → Option (Int32 × Sg)) : Nat → Int32 → Int32 → Int32 → Int32 → Int32 → Sg → Option (Int32 × Sg)
  | 0, _, _, _, _, _, _ => none
  | n + 1, v1, v2, v3, v4, v5, σ =>
    if v5 < (3 : Int32) then
      (X_apart v4 v5 σ).bind fun q1 =>
      if q1.1 < v3 then
        X_alike_L21 k9 n v1 (((10 : Int32) * v4) + v5) q1.1 v4 (v5 + 1) q1.2
      else
        X_alike_L21 k9 n v1 v2 v3 v4 (v5 + 1) q1.2
    else
      k9 v1 v2 v3 (v4 + 1) σ
def X_alike_L9 : Nat → Int32 → Int32 → Int32 → Int32 → Sg → Option (Int32 × Sg)
  | 0, _, _, _, _, _ => none
  | n + 1, v1, v2, v3, v4, σ =>
    if v4 < (3 : Int32) then
      X_alike_L21 (fun y0 y1 y2 y3 τ => X_alike_L9 n y0 y1 y2 y3 τ) FU v1 v2 v3 v4 (v4 + (1 : Int32)) σ
    else
      if v1 = 0 then
        some (v2, σ)
      else
        some (v3, σ)
def X_alike (p1 : Int32) (σ : Sg) : Option (Int32 × Sg) :=
  X_alike_L9 FU p1 (0 : Int32) (7200 : Int32) (0 : Int32) σ
def cp_X_alike {R : Type} (as : List AV) (σ : Sg) (k : AV → Sg → Option R) : Option R := match as with
  | [.inr (.inr (.inl (g1, i1))), .inl p1] => match Nat.beq g1 0 && Nat.beq i1 0 with
    | true => (X_alike p1 σ).bind fun q => k (vI q.1) q.2
    | false => none
  | _ => none
-- X_all (I)I
def X_all (p1 : Int32) (σ : Sg) : Option (Int32 × Sg) :=
  if p1 = 0 then
    (X_useless σ).bind fun q1 =>
    some (q1.1, q1.2)
  else if p1 = 1 then
    (X_alike (0 : Int32) σ).bind fun q2 =>
    some (q2.1, q2.2)
  else if p1 = 2 then
    (X_alike (1 : Int32) σ).bind fun q3 =>
    some (q3.1, q3.2)
  else
    some ((-2 : Int32), σ)
def cp_X_all {R : Type} (as : List AV) (σ : Sg) (k : AV → Sg → Option R) : Option R := match as with
  | [.inr (.inr (.inl (g1, i1))), .inl p1] => match Nat.beq g1 0 && Nat.beq i1 0 with
    | true => (X_all p1 σ).bind fun q => k (vI q.1) q.2
    | false => none
  | _ => none
-- X_inLowestTerms (III)J
def X_inLowestTerms_L13 : Nat → Int32 → Int32 → Int32 → Int32 → Sg → Option (Int64 × Sg)
  | 0, _, _, _, _, _ => none
  | n + 1, v0, v1, v3, v4, σ =>
    if (1 : Int32) < v4 then
      if v4 = 0 then none else
      if (v0 - v0 / v4 * v4) = 0 then
        if v4 = 0 then none else
        if (v1 - v1 / v4 * v4) = 0 then
          if v4 = 0 then none else
          some (((v3 / v4)).toInt64, σ)
        else
          X_inLowestTerms_L13 n v0 v1 v3 (v4 + (-1)) σ
      else
        X_inLowestTerms_L13 n v0 v1 v3 (v4 + (-1)) σ
    else
      some ((v3).toInt64, σ)
def X_inLowestTerms (p0 : Int32) (p1 : Int32) (p2 : Int32) (σ : Sg) : Option (Int64 × Sg) :=
  if p2 = 0 then
    X_inLowestTerms_L13 FU p0 p1 p0 p1 σ
  else
    X_inLowestTerms_L13 FU p0 p1 p1 p1 σ
def cp_X_inLowestTerms {R : Type} (as : List AV) (σ : Sg) (k : AV → Sg → Option R) : Option R := match as with
  | [.inl p0, .inl p1, .inl p2] => (X_inLowestTerms p0 p1 p2 σ).bind fun q => k (vL q.1) q.2
  | _ => none
-- X_mean (II)J
def X_mean_L25 : Nat → Int32 → Int32 → Int32 → Int32 → Sg → Option (Int64 × Sg)
  | 0, _, _, _, _, _ => none
  | n + 1, v1, v2, v3, v4, σ =>
    if v4 < (24 : Int32) then
      (X_moodAt v1 v4 σ).bind fun q2 =>
      X_mean_L25 n v1 v2 (v3 + q2.1) (v4 + 1) q2.2
    else
      (X_inLowestTerms v3 (24 : Int32) v2 σ).bind fun q1 =>
      some (q1.1, q1.2)
def X_mean (p1 : Int32) (p2 : Int32) (σ : Sg) : Option (Int64 × Sg) :=
  (X_isOne p1 σ).bind fun q3 =>
  if q3.1 = 0 then
    some ((-4611686018427387904 : Int64), q3.2)
  else
    if p2 < 0 then
      some ((-4611686018427387904 : Int64), q3.2)
    else
      if (1 : Int32) < p2 then
        some ((-4611686018427387904 : Int64), q3.2)
      else
        X_mean_L25 FU p1 p2 (0 : Int32) (0 : Int32) q3.2
def cp_X_mean {R : Type} (as : List AV) (σ : Sg) (k : AV → Sg → Option R) : Option R := match as with
  | [.inr (.inr (.inl (g1, i1))), .inl p1, .inl p2] => match Nat.beq g1 0 && Nat.beq i1 0 with
    | true => (X_mean p1 p2 σ).bind fun q => k (vL q.1) q.2
    | false => none
  | _ => none
-- X_firstOtherwise (LCoatsFitTheMood$Sheet;LCoatsFitTheMood$Text;LCoatsFitTheMood$Coat;I)I
def X_firstOtherwise_J28 (k3 : Nat → Nat → Nat → Int32 → Int32 → Sg → Option (Int32 × Sg)) (v0 : Nat) (v1 : Nat) (v2 : Nat) (v3 : Int32) (v4 : Int32) (w0 : Int32) (σ : Sg) : Option (Int32 × Sg) :=
  (Sheet_item v0 v4 σ).bind fun q1 =>
  if q1.1 = w0 then
    k3 v0 v1 v2 v3 (v4 + 1) q1.2
  else
    some (v4, q1.2)
def X_firstOtherwise_L3 : Nat → Nat → Nat → Nat → Int32 → Int32 → Sg → Option (Int32 × Sg)
  | 0, _, _, _, _, _, _ => none
  | n + 1, v0, v1, v2, v3, v4, σ =>
    if v4 < (σ 12 v0 2) then
      (X_fitsAt v1 v2 v4 v3 σ).bind fun q2 =>
      if q2.1 = 0 then
        X_firstOtherwise_J28 (fun y0 y1 y2 y3 y4 τ => X_firstOtherwise_L3 n y0 y1 y2 y3 y4 τ) v0 v1 v2 v3 v4 (0 : Int32) q2.2
      else
        X_firstOtherwise_J28 (fun y0 y1 y2 y3 y4 τ => X_firstOtherwise_L3 n y0 y1 y2 y3 y4 τ) v0 v1 v2 v3 v4 (1 : Int32) q2.2
    else
      some ((-1 : Int32), σ)
def X_firstOtherwise (p0 : Nat) (p1 : Nat) (p2 : Nat) (p3 : Int32) (σ : Sg) : Option (Int32 × Sg) :=
  X_firstOtherwise_L3 FU p0 p1 p2 p3 (0 : Int32) σ
def cp_X_firstOtherwise {R : Type} (as : List AV) (σ : Sg) (k : AV → Sg → Option R) : Option R := match as with
  | [.inr (.inr (.inl (g1, p0))), .inr (.inr (.inl (g2, p1))), .inr (.inr (.inl (g3, p2))), .inl p3] => match Nat.beq g1 12 && Nat.beq g2 2 && Nat.beq g3 1 with
    | true => (X_firstOtherwise p0 p1 p2 p3 σ).bind fun q => k (vI q.1) q.2
    | false => none
  | _ => none
-- X_wouldBeSo (LCoatsFitTheMood$Sheet;IIII)Z
def X_wouldBeSo_J61 (v1 : Nat) (v3 : Int32) (v4 : Int32) (v5 : Int32) (w0 : Nat) (σ : Sg) : Option (Int32 × Sg) :=
  if v4 = (6 : Int32) then
    (X_firstOtherwise v1 w0 8 v5 σ).bind fun q2 =>
    if q2.1 = (-1 : Int32) then
      some ((1 : Int32), q2.2)
    else
      some ((0 : Int32), q2.2)
  else
    (X_firstOtherwise v1 w0 8 v3 σ).bind fun q1 =>
    if q1.1 = (-1 : Int32) then
      some ((1 : Int32), q1.2)
    else
      some ((0 : Int32), q1.2)
def X_wouldBeSo_J52 (v1 : Nat) (v3 : Int32) (v4 : Int32) (v5 : Int32) (σ : Sg) : Option (Int32 × Sg) :=
  if (σ 0 0 6) < 0 then none else if 6 ≤ (σ 0 0 6).toNatClampNeg then none else
  X_wouldBeSo_J61 v1 v3 v4 v5 (σ 0 0 6).toNatClampNeg σ
def X_wouldBeSo (p1 : Nat) (p2 : Int32) (p3 : Int32) (p4 : Int32) (p5 : Int32) (σ : Sg) : Option (Int32 × Sg) :=
  if p2 < 0 then none else if 8 ≤ p2.toNatClampNeg then none else
  (Coat_become 8 p2.toNatClampNeg σ).bind fun σ3 =>
  (Coat_giveTrait 8 p4 p5 σ3).bind fun σ4 =>
  if p4 = (5 : Int32) then
    if p5 < 0 then
      X_wouldBeSo_J52 p1 p3 p4 p5 σ4
    else
      if p5 < (6 : Int32) then
        if p5 < 0 then none else if 6 ≤ p5.toNatClampNeg then none else
        X_wouldBeSo_J61 p1 p3 p4 p5 p5.toNatClampNeg σ4
      else
        X_wouldBeSo_J52 p1 p3 p4 p5 σ4
  else
    X_wouldBeSo_J52 p1 p3 p4 p5 σ4
def cp_X_wouldBeSo {R : Type} (as : List AV) (σ : Sg) (k : AV → Sg → Option R) : Option R := match as with
  | [.inr (.inr (.inl (g1, i1))), .inr (.inr (.inl (g2, p1))), .inl p2, .inl p3, .inl p4, .inl p5] => match Nat.beq g1 0 && Nat.beq i1 0 && Nat.beq g2 12 with
    | true => (X_wouldBeSo p1 p2 p3 p4 p5 σ).bind fun q => k (vI q.1) q.2
    | false => none
  | _ => none
-- X_bitsBy (LCoatsFitTheMood$Sheet;IIII)I
def X_bitsBy_L6 : Nat → Nat → Int32 → Int32 → Int32 → Int32 → Int32 → Int32 → Sg → Option (Int32 × Sg)
  | 0, _, _, _, _, _, _, _, _ => none
  | n + 1, v1, v2, v3, v4, v5, v6, v7, σ =>
    if v7 < v5 then
      (X_wouldBeSo v1 v2 v3 v4 v7 σ).bind fun q1 =>
      if q1.1 = 0 then
        X_bitsBy_L6 n v1 v2 v3 v4 v5 v6 (v7 + 1) q1.2
      else
        X_bitsBy_L6 n v1 v2 v3 v4 v5 (v6 ||| ((1 : Int32) <<< (v7 &&& 31))) (v7 + 1) q1.2
    else
      some (v6, σ)
def X_bitsBy (p1 : Nat) (p2 : Int32) (p3 : Int32) (p4 : Int32) (p5 : Int32) (σ : Sg) : Option (Int32 × Sg) :=
  X_bitsBy_L6 FU p1 p2 p3 p4 p5 (0 : Int32) (0 : Int32) σ
def cp_X_bitsBy {R : Type} (as : List AV) (σ : Sg) (k : AV → Sg → Option R) : Option R := match as with
  | [.inr (.inr (.inl (g1, i1))), .inr (.inr (.inl (g2, p1))), .inl p2, .inl p3, .inl p4, .inl p5] => match Nat.beq g1 0 && Nat.beq i1 0 && Nat.beq g2 12 with
    | true => (X_bitsBy p1 p2 p3 p4 p5 σ).bind fun q => k (vI q.1) q.2
    | false => none
  | _ => none
-- X_manyBy (LCoatsFitTheMood$Sheet;IIII)I
def X_manyBy_L6 : Nat → Nat → Int32 → Int32 → Int32 → Int32 → Int32 → Int32 → Sg → Option (Int32 × Sg)
  | 0, _, _, _, _, _, _, _, _ => none
  | n + 1, v1, v2, v3, v4, v5, v6, v7, σ =>
    if v7 < v5 then
      (X_wouldBeSo v1 v2 v3 v4 v7 σ).bind fun q1 =>
      if q1.1 = 0 then
        X_manyBy_L6 n v1 v2 v3 v4 v5 v6 (v7 + 1) q1.2
      else
        X_manyBy_L6 n v1 v2 v3 v4 v5 (v6 + 1) (v7 + 1) q1.2
    else
      some (v6, σ)
def X_manyBy (p1 : Nat) (p2 : Int32) (p3 : Int32) (p4 : Int32) (p5 : Int32) (σ : Sg) : Option (Int32 × Sg) :=
  X_manyBy_L6 FU p1 p2 p3 p4 p5 (0 : Int32) (0 : Int32) σ
def cp_X_manyBy {R : Type} (as : List AV) (σ : Sg) (k : AV → Sg → Option R) : Option R := match as with
  | [.inr (.inr (.inl (g1, i1))), .inr (.inr (.inl (g2, p1))), .inl p2, .inl p3, .inl p4, .inl p5] => match Nat.beq g1 0 && Nat.beq i1 0 && Nat.beq g2 12 with
    | true => (X_manyBy p1 p2 p3 p4 p5 σ).bind fun q => k (vI q.1) q.2
    | false => none
  | _ => none
-- X_leastBy (LCoatsFitTheMood$Sheet;IIII)I
def X_leastBy_L3 : Nat → Nat → Int32 → Int32 → Int32 → Int32 → Int32 → Sg → Option (Int32 × Sg)
  | 0, _, _, _, _, _, _, _ => none
  | n + 1, v1, v2, v3, v4, v5, v6, σ =>
    if v6 < v5 then
      (X_wouldBeSo v1 v2 v3 v4 v6 σ).bind fun q1 =>
      if q1.1 = 0 then
        X_leastBy_L3 n v1 v2 v3 v4 v5 (v6 + 1) q1.2
      else
        some (v6, q1.2)
    else
      some ((-1 : Int32), σ)
def X_leastBy (p1 : Nat) (p2 : Int32) (p3 : Int32) (p4 : Int32) (p5 : Int32) (σ : Sg) : Option (Int32 × Sg) :=
  X_leastBy_L3 FU p1 p2 p3 p4 p5 (0 : Int32) σ
def cp_X_leastBy {R : Type} (as : List AV) (σ : Sg) (k : AV → Sg → Option R) : Option R := match as with
  | [.inr (.inr (.inl (g1, i1))), .inr (.inr (.inl (g2, p1))), .inl p2, .inl p3, .inl p4, .inl p5] => match Nat.beq g1 0 && Nat.beq i1 0 && Nat.beq g2 12 with
    | true => (X_leastBy p1 p2 p3 p4 p5 σ).bind fun q => k (vI q.1) q.2
    | false => none
  | _ => none
-- X_tells (IIII)I
def X_tells (p1 : Int32) (p2 : Int32) (p3 : Int32) (p4 : Int32) (σ : Sg) : Option (Int32 × Sg) :=
  (X_isSheet p1 σ).bind fun q1 =>
  if q1.1 = 0 then
    some ((-2 : Int32), q1.2)
  else
    (X_isCoat p2 q1.2).bind fun q2 =>
    if q2.1 = 0 then
      some ((-2 : Int32), q2.2)
    else
      (X_isHour p3 q2.2).bind fun q3 =>
      if q3.1 = 0 then
        some ((-2 : Int32), q3.2)
      else
        if p4 < 0 then
          some ((-2 : Int32), q3.2)
        else
          if (8 : Int32) < p4 then
            some ((-2 : Int32), q3.2)
          else
            if p1 < 0 then none else if 4 ≤ p1.toNatClampNeg then none else
            if (q3.2 12 p1.toNatClampNeg 1) = (-1 : Int32) then
              some ((-11 : Int32), q3.2)
            else
              if p4 = 0 then
                if (q3.2 0 0 6) < 0 then none else if 6 ≤ (q3.2 0 0 6).toNatClampNeg then none else
                if p2 < 0 then none else if 8 ≤ p2.toNatClampNeg then none else
                (X_firstOtherwise p1.toNatClampNeg (q3.2 0 0 6).toNatClampNeg p2.toNatClampNeg p3 q3.2).bind fun q4 =>
                some (q4.1, q4.2)
              else if p4 = 1 then
                (X_bitsBy p1.toNatClampNeg p2 p3 (4 : Int32) (6 : Int32) q3.2).bind fun q5 =>
                some (q5.1, q5.2)
              else if p4 = 2 then
                (X_bitsBy p1.toNatClampNeg p2 p3 (1 : Int32) (10 : Int32) q3.2).bind fun q6 =>
                some (q6.1, q6.2)
              else if p4 = 3 then
                (X_manyBy p1.toNatClampNeg p2 p3 (2 : Int32) (100 : Int32) q3.2).bind fun q7 =>
                some (q7.1, q7.2)
              else if p4 = 4 then
                (X_leastBy p1.toNatClampNeg p2 p3 (2 : Int32) (100 : Int32) q3.2).bind fun q8 =>
                some (q8.1, q8.2)
              else if p4 = 5 then
                (X_manyBy p1.toNatClampNeg p2 p3 (3 : Int32) (100 : Int32) q3.2).bind fun q9 =>
                some (q9.1, q9.2)
              else if p4 = 6 then
                (X_leastBy p1.toNatClampNeg p2 p3 (3 : Int32) (100 : Int32) q3.2).bind fun q10 =>
                some (q10.1, q10.2)
              else if p4 = 7 then
                (X_bitsBy p1.toNatClampNeg p2 p3 (5 : Int32) (q3.2 0 0 5) q3.2).bind fun q11 =>
                some (q11.1, q11.2)
              else
                (X_bitsBy p1.toNatClampNeg p2 p3 (6 : Int32) (24 : Int32) q3.2).bind fun q12 =>
                some (q12.1, q12.2)
def cp_X_tells {R : Type} (as : List AV) (σ : Sg) (k : AV → Sg → Option R) : Option R := match as with
  | [.inr (.inr (.inl (g1, i1))), .inl p1, .inl p2, .inl p3, .inl p4] => match Nat.beq g1 0 && Nat.beq i1 0 with
    | true => (X_tells p1 p2 p3 p4 σ).bind fun q => k (vI q.1) q.2
    | false => none
  | _ => none
-- X_film (IIII)I
def X_film_J91 (k55 : Int32 → Int32 → Int32 → Int32 → Int32 → Int32 → Sg → Option (Int32 × Sg)) (v1 : Int32) (v2 : Int32) (v3 : Int32) (v4 : Int32) (v5 : Int32) (v6 : Int32) (w0 : Int32) (σ : Sg) : Option (Int32 × Sg) :=
  if v1 < 0 then none else if 4 ≤ v1.toNatClampNeg then none else
  (Sheet_put v1.toNatClampNeg v6 w0 σ).bind fun σ1 =>
  k55 v1 v2 v3 v4 (v5 + w0) (v6 + 1) σ1
def X_film_L55 : Nat → Int32 → Int32 → Int32 → Int32 → Int32 → Int32 → Sg → Option (Int32 × Sg)
  | 0, _, _, _, _, _, _, _ => none
  | n + 1, v1, v2, v3, v4, v5, v6, σ =>
    if v6 < v4 then
      if (σ 0 0 6) < 0 then none else if 6 ≤ (σ 0 0 6).toNatClampNeg then none else
      if v2 < 0 then none else if 8 ≤ v2.toNatClampNeg then none else
      (X_fitsAt (σ 0 0 6).toNatClampNeg v2.toNatClampNeg v6 v3 σ).bind fun q2 =>
      if q2.1 = 0 then
        X_film_J91 (fun y0 y1 y2 y3 y4 y5 τ => X_film_L55 n y0 y1 y2 y3 y4 y5 τ) v1 v2 v3 v4 v5 v6 (0 : Int32) q2.2
      else
        X_film_J91 (fun y0 y1 y2 y3 y4 y5 τ => X_film_L55 n y0 y1 y2 y3 y4 y5 τ) v1 v2 v3 v4 v5 v6 (1 : Int32) q2.2
    else
      some (v5, σ)
def X_film (p1 : Int32) (p2 : Int32) (p3 : Int32) (p4 : Int32) (σ : Sg) : Option (Int32 × Sg) :=
  (X_isSheet p1 σ).bind fun q3 =>
  if q3.1 = 0 then
    some ((-2 : Int32), q3.2)
  else
    (X_isCoat p2 q3.2).bind fun q4 =>
    if q4.1 = 0 then
      some ((-2 : Int32), q4.2)
    else
      (X_isHour p3 q4.2).bind fun q5 =>
      if q5.1 = 0 then
        some ((-2 : Int32), q5.2)
      else
        if p4 < 0 then
          some ((-2 : Int32), q5.2)
        else
          if (40 : Int32) < p4 then
            some ((-2 : Int32), q5.2)
          else
            if p1 < 0 then none else if 4 ≤ p1.toNatClampNeg then none else
            (Sheet_become p1.toNatClampNeg (0 : Int32) p4 q5.2).bind fun σ6 =>
            X_film_L55 FU p1 p2 p3 p4 (0 : Int32) (0 : Int32) σ6
def cp_X_film {R : Type} (as : List AV) (σ : Sg) (k : AV → Sg → Option R) : Option R := match as with
  | [.inr (.inr (.inl (g1, i1))), .inl p1, .inl p2, .inl p3, .inl p4] => match Nat.beq g1 0 && Nat.beq i1 0 with
    | true => (X_film p1 p2 p3 p4 σ).bind fun q => k (vI q.1) q.2
    | false => none
  | _ => none
-- X_drawnCost (I)I
def X_drawnCost_L4 : Nat → Int32 → Int32 → Sg → Option (Int32 × Sg)
  | 0, _, _, _ => none
  | n + 1, v2, v3, σ =>
    if v3 < (24 : Int32) then
      (X_tellHour v3 (((((v2 * (1103515245 : Int32)) + (12345 : Int32))).toUInt32 >>> (((9 : Int32)).toUInt32 &&& 31)).toInt32 - ((((v2 * (1103515245 : Int32)) + (12345 : Int32))).toUInt32 >>> (((9 : Int32)).toUInt32 &&& 31)).toInt32 / (100 : Int32) * (100 : Int32)) σ).bind fun σ2 =>
      X_drawnCost_L4 n ((v2 * (1103515245 : Int32)) + (12345 : Int32)) (v3 + 1) σ2
    else
      (Day_cheapest σ).bind fun q1 =>
      some (q1.1, q1.2)
def X_drawnCost (p1 : Int32) (σ : Sg) : Option (Int32 × Sg) :=
  X_drawnCost_L4 FU p1 (0 : Int32) σ
def cp_X_drawnCost {R : Type} (as : List AV) (σ : Sg) (k : AV → Sg → Option R) : Option R := match as with
  | [.inr (.inr (.inl (g1, i1))), .inl p1] => match Nat.beq g1 0 && Nat.beq i1 0 with
    | true => (X_drawnCost p1 σ).bind fun q => k (vI q.1) q.2
    | false => none
  | _ => none
-- X_drawn (II)I
def X_drawn (p1 : Int32) (p2 : Int32) (σ : Sg) : Option (Int32 × Sg) :=
  (X_isOne p2 σ).bind fun q1 =>
  if q1.1 = 0 then
    some ((-2 : Int32), q1.2)
  else
    (X_drawnCost p1 q1.2).bind fun q2 =>
    some (q2.1, q2.2)
def cp_X_drawn {R : Type} (as : List AV) (σ : Sg) (k : AV → Sg → Option R) : Option R := match as with
  | [.inr (.inr (.inl (g1, i1))), .inl p1, .inl p2] => match Nat.beq g1 0 && Nat.beq i1 0 with
    | true => (X_drawn p1 p2 σ).bind fun q => k (vI q.1) q.2
    | false => none
  | _ => none
-- X_chance (IIIII)J
def X_chance_L56 : Nat → Int32 → Int32 → Int32 → Int32 → Int32 → Int32 → Sg → Option (Int64 × Sg)
  | 0, _, _, _, _, _, _, _ => none
  | n + 1, v1, v2, v4, v5, v6, v7, σ =>
    if v7 < v2 then
      (X_drawnCost (v1 + v7) σ).bind fun q2 =>
      if v4 < q2.1 then
        X_chance_L56 n v1 v2 v4 v5 v6 (v7 + 1) q2.2
      else
        X_chance_L56 n v1 v2 v4 v5 (v6 + 1) (v7 + 1) q2.2
    else
      (X_inLowestTerms v6 v2 v5 σ).bind fun q1 =>
      some (q1.1, q1.2)
def X_chance (p1 : Int32) (p2 : Int32) (p3 : Int32) (p4 : Int32) (p5 : Int32) (σ : Sg) : Option (Int64 × Sg) :=
  if p2 < (1 : Int32) then
    some ((-4611686018427387904 : Int64), σ)
  else
    if (10 : Int32) < p2 then
      some ((-4611686018427387904 : Int64), σ)
    else
      (X_isOne p3 σ).bind fun q3 =>
      if q3.1 = 0 then
        some ((-4611686018427387904 : Int64), q3.2)
      else
        if p4 < 0 then
          some ((-4611686018427387904 : Int64), q3.2)
        else
          if (9999 : Int32) < p4 then
            some ((-4611686018427387904 : Int64), q3.2)
          else
            if p5 < 0 then
              some ((-4611686018427387904 : Int64), q3.2)
            else
              if (1 : Int32) < p5 then
                some ((-4611686018427387904 : Int64), q3.2)
              else
                X_chance_L56 FU p1 p2 p4 p5 (0 : Int32) (0 : Int32) q3.2
def cp_X_chance {R : Type} (as : List AV) (σ : Sg) (k : AV → Sg → Option R) : Option R := match as with
  | [.inr (.inr (.inl (g1, i1))), .inl p1, .inl p2, .inl p3, .inl p4, .inl p5] => match Nat.beq g1 0 && Nat.beq i1 0 with
    | true => (X_chance p1 p2 p3 p4 p5 σ).bind fun q => k (vL q.1) q.2
    | false => none
  | _ => none
-- X_image ()I
def X_image_L20 : Nat → Int32 → Sg → Option (Int32 × Sg)
  | 0, _, _ => none
  | n + 1, v1, σ =>
    if v1 < (8 : Int32) then
      if v1 < 0 then none else if 8 ≤ v1.toNatClampNeg then none else
      if v1 < 0 then none else if 8 ≤ v1.toNatClampNeg then none else
      (Coat_become (v1.toNatClampNeg + 9) v1.toNatClampNeg σ).bind fun σ3 =>
      X_image_L20 n (v1 + 1) σ3
    else
      let σ1 := upd3 σ 20 0 2 (σ 0 0 2)
      let σ2 := upd3 σ1 20 0 3 (σ1 0 0 6)
      some ((σ2 0 0 2), σ2)
def X_image (σ : Sg) : Option (Int32 × Sg) :=
  let σ4 := cpy3 σ 23 0 (0) 21 0 (0) (72)
  X_image_L20 FU (0 : Int32) σ4
def cp_X_image {R : Type} (as : List AV) (σ : Sg) (k : AV → Sg → Option R) : Option R := match as with
  | [.inr (.inr (.inl (g1, i1)))] => match Nat.beq g1 0 && Nat.beq i1 0 with
    | true => (X_image σ).bind fun q => k (vI q.1) q.2
    | false => none
  | _ => none
-- X_back ()I
def X_back_L34 : Nat → Int32 → Sg → Option (Int32 × Sg)
  | 0, _, _ => none
  | n + 1, v1, σ =>
    if v1 < (8 : Int32) then
      if v1 < 0 then none else if 8 ≤ v1.toNatClampNeg then none else
      if v1 < 0 then none else if 8 ≤ v1.toNatClampNeg then none else
      (Coat_become v1.toNatClampNeg (v1.toNatClampNeg + 9) σ).bind fun σ3 =>
      X_back_L34 n (v1 + 1) σ3
    else
      let σ1 := upd3 σ 0 0 2 (σ 20 0 2)
      let σ2 := upd3 σ1 0 0 6 (σ1 20 0 3)
      some ((σ2 0 0 2), σ2)
def X_back (σ : Sg) : Option (Int32 × Sg) :=
  if (σ 20 0 2) = (-1 : Int32) then
    some ((-3 : Int32), σ)
  else
    let σ4 := cpy3 σ 21 0 (0) 23 0 (0) (72)
    X_back_L34 FU (0 : Int32) σ4
def cp_X_back {R : Type} (as : List AV) (σ : Sg) (k : AV → Sg → Option R) : Option R := match as with
  | [.inr (.inr (.inl (g1, i1)))] => match Nat.beq g1 0 && Nat.beq i1 0 with
    | true => (X_back σ).bind fun q => k (vI q.1) q.2
    | false => none
  | _ => none
-- X_wornTogether ()I
def X_wornTogether_L4 : Nat → Int32 → Int32 → Sg → Option (Int32 × Sg)
  | 0, _, _, _ => none
  | n + 1, v1, v2, σ =>
    if v2 < (σ 0 0 2) then
      if v2 < 0 then none else if 8 ≤ v2.toNatClampNeg then none else
      X_wornTogether_L4 n (v1 + (σ 1 v2.toNatClampNeg 3)) (v2 + 1) σ
    else
      some (v1, σ)
def X_wornTogether (σ : Sg) : Option (Int32 × Sg) :=
  X_wornTogether_L4 FU (0 : Int32) (0 : Int32) σ
def cp_X_wornTogether {R : Type} (as : List AV) (σ : Sg) (k : AV → Sg → Option R) : Option R := match as with
  | [.inr (.inr (.inl (g1, i1)))] => match Nat.beq g1 0 && Nat.beq i1 0 with
    | true => (X_wornTogether σ).bind fun q => k (vI q.1) q.2
    | false => none
  | _ => none
-- X_count (I)I
def X_count (p1 : Int32) (σ : Sg) : Option (Int32 × Sg) :=
  if p1 = 0 then
    some ((σ 0 0 2), σ)
  else if p1 = 1 then
    (X_wornTogether σ).bind fun q1 =>
    some (q1.1, q1.2)
  else if p1 = 2 then
    some ((σ 0 0 5), σ)
  else if p1 = 3 then
    some ((σ 6 0 4), σ)
  else if p1 = 4 then
    some ((σ 0 0 6), σ)
  else
    some ((-2 : Int32), σ)
def cp_X_count {R : Type} (as : List AV) (σ : Sg) (k : AV → Sg → Option R) : Option R := match as with
  | [.inr (.inr (.inl (g1, i1))), .inl p1] => match Nat.beq g1 0 && Nat.beq i1 0 with
    | true => (X_count p1 σ).bind fun q => k (vI q.1) q.2
    | false => none
  | _ => none
-- X_sheet (III)I
def X_sheet (p1 : Int32) (p2 : Int32) (p3 : Int32) (σ : Sg) : Option (Int32 × Sg) :=
  (X_isSheet p1 σ).bind fun q1 =>
  if q1.1 = 0 then
    some ((-2 : Int32), q1.2)
  else
    if p2 < (-1 : Int32) then
      some ((-2 : Int32), q1.2)
    else
      if (2 : Int32) < p2 then
        some ((-2 : Int32), q1.2)
      else
        if p2 = (-1 : Int32) then
          if p1 < 0 then none else if 4 ≤ p1.toNatClampNeg then none else
          (Sheet_become p1.toNatClampNeg (-1 : Int32) (0 : Int32) q1.2).bind fun σ3 =>
          some ((1 : Int32), σ3)
        else
          if (40 : Int32) < p3 then
            some ((-2 : Int32), q1.2)
          else
            if p3 < 0 then
              some ((-14 : Int32), q1.2)
            else
              if p1 < 0 then none else if 4 ≤ p1.toNatClampNeg then none else
              (Sheet_become p1.toNatClampNeg p2 p3 q1.2).bind fun σ2 =>
              some ((1 : Int32), σ2)
def cp_X_sheet {R : Type} (as : List AV) (σ : Sg) (k : AV → Sg → Option R) : Option R := match as with
  | [.inr (.inr (.inl (g1, i1))), .inl p1, .inl p2, .inl p3] => match Nat.beq g1 0 && Nat.beq i1 0 with
    | true => (X_sheet p1 p2 p3 σ).bind fun q => k (vI q.1) q.2
    | false => none
  | _ => none
-- X_cell (III)I
def X_cell (p1 : Int32) (p2 : Int32) (p3 : Int32) (σ : Sg) : Option (Int32 × Sg) :=
  (X_isSheet p1 σ).bind fun q1 =>
  if q1.1 = 0 then
    some ((-2 : Int32), q1.2)
  else
    if p1 < 0 then none else if 4 ≤ p1.toNatClampNeg then none else
    if (q1.2 12 p1.toNatClampNeg 1) = (-1 : Int32) then
      some ((-11 : Int32), q1.2)
    else
      if p2 < 0 then
        some ((-12 : Int32), q1.2)
      else
        if p1 < 0 then none else if 4 ≤ p1.toNatClampNeg then none else
        if p2 < (q1.2 12 p1.toNatClampNeg 2) then
          if p1 < 0 then none else if 4 ≤ p1.toNatClampNeg then none else
          (Sheet_put p1.toNatClampNeg p2 p3 q1.2).bind fun σ2 =>
          some ((1 : Int32), σ2)
        else
          some ((-12 : Int32), q1.2)
def cp_X_cell {R : Type} (as : List AV) (σ : Sg) (k : AV → Sg → Option R) : Option R := match as with
  | [.inr (.inr (.inl (g1, i1))), .inl p1, .inl p2, .inl p3] => match Nat.beq g1 0 && Nat.beq i1 0 with
    | true => (X_cell p1 p2 p3 σ).bind fun q => k (vI q.1) q.2
    | false => none
  | _ => none
-- X_copy (IIIII)I
def X_copy (p1 : Int32) (p2 : Int32) (p3 : Int32) (p4 : Int32) (p5 : Int32) (σ : Sg) : Option (Int32 × Sg) :=
  (X_isSheet p1 σ).bind fun q1 =>
  if q1.1 = 0 then
    some ((-2 : Int32), q1.2)
  else
    (X_isSheet p3 q1.2).bind fun q2 =>
    if q2.1 = 0 then
      some ((-2 : Int32), q2.2)
    else
      if p1 < 0 then none else if 4 ≤ p1.toNatClampNeg then none else
      if p3 < 0 then none else if 4 ≤ p3.toNatClampNeg then none else
      if (q2.2 12 p1.toNatClampNeg 1) = (-1 : Int32) then
        some ((-11 : Int32), q2.2)
      else
        if (q2.2 12 p3.toNatClampNeg 1) = (-1 : Int32) then
          some ((-11 : Int32), q2.2)
        else
          if (q2.2 12 p1.toNatClampNeg 1) = (q2.2 12 p3.toNatClampNeg 1) then
            (Sheet_hasRow p1.toNatClampNeg p2 p5 q2.2).bind fun q3 =>
            if q3.1 = 0 then
              some ((-12 : Int32), q3.2)
            else
              (Sheet_hasRow p3.toNatClampNeg p4 p5 q3.2).bind fun q4 =>
              if q4.1 = 0 then
                some ((-12 : Int32), q4.2)
              else
                if p2 < 0 then none else
                if p4 < 0 then none else
                if p5 < 0 then none else
                if 40 < p2.toNatClampNeg + p5.toNatClampNeg then none else
                if 40 < p4.toNatClampNeg + p5.toNatClampNeg then none else
                let σ5 := cpy3 q4.2 13 p1.toNatClampNeg (p2.toNatClampNeg) 13 p3.toNatClampNeg (p4.toNatClampNeg) (p5.toNatClampNeg)
                some (p5, σ5)
          else
            some ((-13 : Int32), q2.2)
def cp_X_copy {R : Type} (as : List AV) (σ : Sg) (k : AV → Sg → Option R) : Option R := match as with
  | [.inr (.inr (.inl (g1, i1))), .inl p1, .inl p2, .inl p3, .inl p4, .inl p5] => match Nat.beq g1 0 && Nat.beq i1 0 with
    | true => (X_copy p1 p2 p3 p4 p5 σ).bind fun q => k (vI q.1) q.2
    | false => none
  | _ => none
-- X_coats (IIII)I
def X_coats_L69 : Nat → Int32 → Int32 → Nat → Int32 → Int32 → Sg → Option (Int32 × Sg)
  | 0, _, _, _, _, _, _ => none
  | n + 1, v3, v4, v5, v6, v7, σ =>
    if v7 < v4 then
      (Sheet_hasRow v5 (v3 + ((3 : Int32) * v7)) (3 : Int32) σ).bind fun q1 =>
      if q1.1 = 0 then
        some ((-12 : Int32), q1.2)
      else
        (Sheet_item v5 (v3 + ((3 : Int32) * v7)) q1.2).bind fun q2 =>
        (Sheet_item v5 ((v3 + ((3 : Int32) * v7)) + (1 : Int32)) q2.2).bind fun q3 =>
        (Sheet_item v5 ((v3 + ((3 : Int32) * v7)) + (2 : Int32)) q3.2).bind fun q4 =>
        (X_coat q2.1 q3.1 q4.1 q4.2).bind fun q5 =>
        if q5.1 < 0 then
          X_coats_L69 n v3 v4 v5 v6 (v7 + 1) q5.2
        else
          X_coats_L69 n v3 v4 v5 (v6 + 1) (v7 + 1) q5.2
    else
      some (v6, σ)
def X_coats (p1 : Int32) (p2 : Int32) (p3 : Int32) (p4 : Int32) (σ : Sg) : Option (Int32 × Sg) :=
  (X_isSheet p1 σ).bind fun q6 =>
  if q6.1 = 0 then
    some ((-2 : Int32), q6.2)
  else
    if p2 < 0 then
      some ((-2 : Int32), q6.2)
    else
      if (2 : Int32) < p2 then
        some ((-2 : Int32), q6.2)
      else
        if p4 < 0 then
          some ((-2 : Int32), q6.2)
        else
          if (8 : Int32) < p4 then
            some ((-2 : Int32), q6.2)
          else
            if p1 < 0 then none else if 4 ≤ p1.toNatClampNeg then none else
            if (q6.2 12 p1.toNatClampNeg 1) = (-1 : Int32) then
              some ((-11 : Int32), q6.2)
            else
              if (q6.2 12 p1.toNatClampNeg 1) = p2 then
                X_coats_L69 FU p3 p4 p1.toNatClampNeg (0 : Int32) (0 : Int32) q6.2
              else
                some ((-13 : Int32), q6.2)
def cp_X_coats {R : Type} (as : List AV) (σ : Sg) (k : AV → Sg → Option R) : Option R := match as with
  | [.inr (.inr (.inl (g1, i1))), .inl p1, .inl p2, .inl p3, .inl p4] => match Nat.beq g1 0 && Nat.beq i1 0 with
    | true => (X_coats p1 p2 p3 p4 σ).bind fun q => k (vI q.1) q.2
    | false => none
  | _ => none
-- Coat_isUnder (I)Z
def Coat_isUnder_L7 : Nat → Int32 → Int32 → Int32 → Sg → Option (Int32 × Sg)
  | 0, _, _, _, _ => none
  | n + 1, v1, v2, v3, σ =>
    if v3 < (6 : Int32) then
      if v2 < 0 then
        some ((0 : Int32), σ)
      else
        if v2 < (6 : Int32) then
          if v2 = v1 then
            some ((1 : Int32), σ)
          else
            if v2 < 0 then none else if 6 ≤ v2.toNatClampNeg then none else
            Coat_isUnder_L7 n v1 (ab_ka v2.toNatClampNeg) (v3 + 1) σ
        else
          some ((0 : Int32), σ)
    else
      some ((0 : Int32), σ)
def Coat_isUnder (p0 : Nat) (p1 : Int32) (σ : Sg) : Option (Int32 × Sg) :=
  Coat_isUnder_L7 FU p1 (σ 1 p0 0) (0 : Int32) σ
def cp_Coat_isUnder {R : Type} (as : List AV) (σ : Sg) (k : AV → Sg → Option R) : Option R := match as with
  | [.inr (.inr (.inl (g1, p0))), .inl p1] => match Nat.beq g1 1 with
    | true => (Coat_isUnder p0 p1 σ).bind fun q => k (vI q.1) q.2
    | false => none
  | _ => none
-- X_taken (II)I
def X_taken (p1 : Int32) (p2 : Int32) (σ : Sg) : Option (Int32 × Sg) :=
  if p2 < 0 then
    some ((-2 : Int32), σ)
  else
    if p2 < (6 : Int32) then
      (X_isCoat p1 σ).bind fun q1 =>
      if q1.1 = 0 then
        some ((-11 : Int32), q1.2)
      else
        if p1 < 0 then none else if 8 ≤ p1.toNatClampNeg then none else
        (Coat_isUnder p1.toNatClampNeg p2 q1.2).bind fun q2 =>
        if q2.1 = 0 then
          some ((-13 : Int32), q2.2)
        else
          if p1 < 0 then none else if 8 ≤ p1.toNatClampNeg then none else
          some ((q2.2 1 p1.toNatClampNeg 1), q2.2)
    else
      some ((-2 : Int32), σ)
def cp_X_taken {R : Type} (as : List AV) (σ : Sg) (k : AV → Sg → Option R) : Option R := match as with
  | [.inr (.inr (.inl (g1, i1))), .inl p1, .inl p2] => match Nat.beq g1 0 && Nat.beq i1 0 with
    | true => (X_taken p1 p2 σ).bind fun q => k (vI q.1) q.2
    | false => none
  | _ => none
-- M_in (JJJ)Z
def M_in (p0 : Int64) (p1 : Int64) (p2 : Int64) (σ : Sg) : Option (Int32 × Sg) :=
  if (lg_cmp p0 p1) < 0 then
    some ((0 : Int32), σ)
  else
    if 0 < (lg_cmp p0 p2) then
      some ((0 : Int32), σ)
    else
      some ((1 : Int32), σ)
def cp_M_in {R : Type} (as : List AV) (σ : Sg) (k : AV → Sg → Option R) : Option R := match as with
  | [.inr (.inl p0), .inr (.inl p1), .inr (.inl p2)] => (M_in p0 p1 p2 σ).bind fun q => k (vI q.1) q.2
  | _ => none
-- M_within (III)I
def M_within (p0 : Int32) (p1 : Int32) (p2 : Int32) (σ : Sg) : Option (Int32 × Sg) :=
  if p0 < p1 then
    some (p1, σ)
  else
    if p2 < p0 then
      some (p2, σ)
    else
      some (p0, σ)
def cp_M_within {R : Type} (as : List AV) (σ : Sg) (k : AV → Sg → Option R) : Option R := match as with
  | [.inl p0, .inl p1, .inl p2] => (M_within p0 p1 p2 σ).bind fun q => k (vI q.1) q.2
  | _ => none
-- M_isCoat (I)Z
def M_isCoat (p1 : Int32) (σ : Sg) : Option (Int32 × Sg) :=
  (M_in (p1).toInt64 (0 : Int64) (((σ 30 0 10) - (1 : Int32))).toInt64 σ).bind fun q1 =>
  some ((q1.1 &&& 1), q1.2)
def cp_M_isCoat {R : Type} (as : List AV) (σ : Sg) (k : AV → Sg → Option R) : Option R := match as with
  | [.inr (.inr (.inl (g1, i1))), .inl p1] => match Nat.beq g1 30 && Nat.beq i1 0 with
    | true => (M_isCoat p1 σ).bind fun q => k (vI q.1) q.2
    | false => none
  | _ => none
-- M_isHour (I)Z
def M_isHour (p0 : Int32) (σ : Sg) : Option (Int32 × Sg) :=
  (M_in (p0).toInt64 (0 : Int64) (23 : Int64) σ).bind fun q1 =>
  some ((q1.1 &&& 1), q1.2)
def cp_M_isHour {R : Type} (as : List AV) (σ : Sg) (k : AV → Sg → Option R) : Option R := match as with
  | [.inl p0] => (M_isHour p0 σ).bind fun q => k (vI q.1) q.2
  | _ => none
-- M_isOne (I)Z
def M_isOne (p0 : Int32) (σ : Sg) : Option (Int32 × Sg) :=
  (M_in (p0).toInt64 (0 : Int64) (2 : Int64) σ).bind fun q1 =>
  some ((q1.1 &&& 1), q1.2)
def cp_M_isOne {R : Type} (as : List AV) (σ : Sg) (k : AV → Sg → Option R) : Option R := match as with
  | [.inl p0] => (M_isOne p0 σ).bind fun q => k (vI q.1) q.2
  | _ => none
-- M_isOf (II)Z
def M_isOf_J9 (v2 : Int32) (σ : Sg) : Option (Int32 × Sg) :=
  (M_in (v2).toInt64 (0 : Int64) (223 : Int64) σ).bind fun q1 =>
  if q1.1 = 0 then
    some ((0 : Int32), q1.2)
  else
    (M_isHour (v2 - v2 / (100 : Int32) * (100 : Int32)) q1.2).bind fun q2 =>
    if q2.1 = 0 then
      some ((0 : Int32), q2.2)
    else
      some ((1 : Int32), q2.2)
def M_isOf (p1 : Int32) (p2 : Int32) (σ : Sg) : Option (Int32 × Sg) :=
  if p1 = 0 then
    M_isOf_J9 p2 σ
  else
    if p1 = (5 : Int32) then
      M_isOf_J9 p2 σ
    else
      (M_isCoat p2 σ).bind fun q3 =>
      some ((q3.1 &&& 1), q3.2)
def cp_M_isOf {R : Type} (as : List AV) (σ : Sg) (k : AV → Sg → Option R) : Option R := match as with
  | [.inr (.inr (.inl (g1, i1))), .inl p1, .inl p2] => match Nat.beq g1 30 && Nat.beq i1 0 with
    | true => (M_isOf p1 p2 σ).bind fun q => k (vI q.1) q.2
    | false => none
  | _ => none
-- M_placeOf (I)I
def M_placeOf (p0 : Int32) (σ : Sg) : Option (Int32 × Sg) :=
  some ((((24 : Int32) * (p0 / (100 : Int32))) + (p0 - p0 / (100 : Int32) * (100 : Int32))), σ)
def cp_M_placeOf {R : Type} (as : List AV) (σ : Sg) (k : AV → Sg → Option R) : Option R := match as with
  | [.inl p0] => (M_placeOf p0 σ).bind fun q => k (vI q.1) q.2
  | _ => none
-- M_mostOf (I)I
def M_mostOf (p0 : Int32) (σ : Sg) : Option (Int32 × Sg) :=
  if p0 = (1 : Int32) then
    some ((9 : Int32), σ)
  else
    if p0 = (3 : Int32) then
      some ((999 : Int32), σ)
    else
      some ((99 : Int32), σ)
def cp_M_mostOf {R : Type} (as : List AV) (σ : Sg) (k : AV → Sg → Option R) : Option R := match as with
  | [.inl p0] => (M_mostOf p0 σ).bind fun q => k (vI q.1) q.2
  | _ => none
-- M_lays (III)V
def M_lays (p1 : Int32) (p2 : Int32) (p3 : Int32) (σ : Sg) : Option (Sg) :=
  if p1 = 0 then
    (M_placeOf p2 σ).bind fun q4 =>
    if q4.1 < 0 then none else if 72 ≤ q4.1.toNatClampNeg then none else
    let σ5 := upd3 q4.2 34 0 q4.1.toNatClampNeg p3
    some σ5
  else
    if p1 < (4 : Int32) then
      if ((((3 : Int32) * p2) + p1) - (1 : Int32)) < 0 then none else if 24 ≤ ((((3 : Int32) * p2) + p1) - (1 : Int32)).toNatClampNeg then none else
      let σ3 := upd3 σ 36 0 (((((3 : Int32) * p2) + p1) - (1 : Int32)).toNatClampNeg) p3
      some σ3
    else
      if p1 = (4 : Int32) then
        if p2 < 0 then none else if 8 ≤ p2.toNatClampNeg then none else
        let σ2 := upd3 σ 35 0 p2.toNatClampNeg p3
        some σ2
      else
        let σ1 := upd3 σ 30 0 4 p3
        some σ1
def cp_M_lays {R : Type} (as : List AV) (σ : Sg) (k : AV → Sg → Option R) : Option R := match as with
  | [.inr (.inr (.inl (g1, i1))), .inl p1, .inl p2, .inl p3] => match Nat.beq g1 30 && Nat.beq i1 0 with
    | true => (M_lays p1 p2 p3 σ).bind fun q => k vU q
    | false => none
  | _ => none
-- M_offOf (II)I
def M_offOf (p1 : Int32) (p2 : Int32) (σ : Sg) : Option (Int32 × Sg) :=
  if (((3 : Int32) * p1) + (1 : Int32)) < 0 then none else if 24 ≤ (((3 : Int32) * p1) + (1 : Int32)).toNatClampNeg then none else
  if ((σ 36 0 (((3 : Int32) * p1) + (1 : Int32)).toNatClampNeg) - p2) < 0 then
    some ((-((σ 36 0 (((3 : Int32) * p1) + (1 : Int32)).toNatClampNeg) - p2)), σ)
  else
    some (((σ 36 0 (((3 : Int32) * p1) + (1 : Int32)).toNatClampNeg) - p2), σ)
def cp_M_offOf {R : Type} (as : List AV) (σ : Sg) (k : AV → Sg → Option R) : Option R := match as with
  | [.inr (.inr (.inl (g1, i1))), .inl p1, .inl p2] => match Nat.beq g1 30 && Nat.beq i1 0 with
    | true => (M_offOf p1 p2 σ).bind fun q => k (vI q.1) q.2
    | false => none
  | _ => none
-- M_byteAt (I)I
def M_byteAt (p1 : Int32) (σ : Sg) : Option (Int32 × Sg) :=
  if p1 < (σ 30 0 18) then
    if ((σ 30 0 17) + p1) < 0 then none else if 960 ≤ ((σ 30 0 17) + p1).toNatClampNeg then none else
    some ((σ 31 0 ((σ 30 0 17) + p1).toNatClampNeg), σ)
  else
    some ((-1 : Int32), σ)
def cp_M_byteAt {R : Type} (as : List AV) (σ : Sg) (k : AV → Sg → Option R) : Option R := match as with
  | [.inr (.inr (.inl (g1, i1))), .inl p1] => match Nat.beq g1 30 && Nat.beq i1 0 with
    | true => (M_byteAt p1 σ).bind fun q => k (vI q.1) q.2
    | false => none
  | _ => none
-- M_next ()V
def M_next_J300 (v1 : Int32) (σ : Sg) : Option (Sg) :=
  let σ1 := upd3 σ 30 0 20 (3 : Int32)
  if ((v1).toInt64).toInt32.toInt64 = (v1).toInt64 then
    let σ2 := upd3 σ1 30 0 22 ((v1).toInt64).toInt32
    let σ3 := upd3 σ2 30 0 19 ((σ2 30 0 19) + (1 : Int32))
    some σ3
  else none
def M_next_L160 : Nat → Int32 → Sg → Option (Sg)
  | 0, _, _ => none
  | n + 1, v2, σ =>
    (M_byteAt (σ 30 0 19) σ).bind fun q4 =>
    (M_in (q4.1).toInt64 (48 : Int64) (57 : Int64) q4.2).bind fun q5 =>
    if q5.1 = 0 then
      if (4 : Int32) < v2 then
        let σ7 := upd3 q5.2 30 0 20 (4 : Int32)
        some σ7
      else
        let σ6 := upd3 q5.2 30 0 20 (2 : Int32)
        some σ6
    else
      if v2 < (4 : Int32) then
        (M_byteAt (q5.2 30 0 19) q5.2).bind fun q10 =>
        if (((((10 : Int64) * (q5.2 30 0 22).toInt64) + (q10.1).toInt64) - (48 : Int64))).toInt32.toInt64 = ((((10 : Int64) * (q5.2 30 0 22).toInt64) + (q10.1).toInt64) - (48 : Int64)) then
          let σ11 := upd3 q10.2 30 0 22 (((((10 : Int64) * (q5.2 30 0 22).toInt64) + (q10.1).toInt64) - (48 : Int64))).toInt32
          let σ12 := upd3 σ11 30 0 19 ((σ11 30 0 19) + (1 : Int32))
          M_next_L160 n (v2 + 1) σ12
        else none
      else
        if ((q5.2 30 0 22).toInt64).toInt32.toInt64 = (q5.2 30 0 22).toInt64 then
          let σ8 := upd3 q5.2 30 0 22 ((q5.2 30 0 22).toInt64).toInt32
          let σ9 := upd3 σ8 30 0 19 ((σ8 30 0 19) + (1 : Int32))
          M_next_L160 n (v2 + 1) σ9
        else none
def M_next_L100 : Nat → Sg → Option (Sg)
  | 0, _ => none
  | n + 1, σ =>
    (M_byteAt (σ 30 0 19) σ).bind fun q13 =>
    (M_in (q13.1).toInt64 (97 : Int64) (122 : Int64) q13.2).bind fun q14 =>
    if q14.1 = 0 then
      some q14.2
    else
      let σ15 := upd3 q14.2 30 0 19 ((q14.2 30 0 19) + (1 : Int32))
      M_next_L100 n  σ15
def M_next_L0 : Nat → Sg → Option (Sg)
  | 0, _ => none
  | n + 1, σ =>
    (M_byteAt (σ 30 0 19) σ).bind fun q16 =>
    if q16.1 = (32 : Int32) then
      let σ17 := upd3 q16.2 30 0 19 ((q16.2 30 0 19) + (1 : Int32))
      M_next_L0 n  σ17
    else
      (M_byteAt (q16.2 30 0 19) q16.2).bind fun q18 =>
      if q18.1 = (10 : Int32) then
        let σ29 := upd3 q18.2 30 0 19 ((q18.2 30 0 19) + (1 : Int32))
        M_next_L0 n  σ29
      else
        let σ19 := upd3 q18.2 30 0 21 (q18.2 30 0 19)
        (M_byteAt (σ19 30 0 19) σ19).bind fun q20 =>
        let σ21 := upd3 q20.2 30 0 20 (4 : Int32)
        if q20.1 < 0 then
          let σ27 := upd3 σ21 30 0 20 (0 : Int32)
          let σ28 := upd3 σ27 30 0 21 (σ27 30 0 18)
          some σ28
        else
          (M_in (q20.1).toInt64 (97 : Int64) (122 : Int64) σ21).bind fun q22 =>
          if q22.1 = 0 then
            (M_in (q20.1).toInt64 (48 : Int64) (57 : Int64) q22.2).bind fun q23 =>
            if q23.1 = 0 then
              if q20.1 = (40 : Int32) then
                M_next_J300 q20.1 q23.2
              else
                if q20.1 = (41 : Int32) then
                  M_next_J300 q20.1 q23.2
                else
                  if q20.1 = (59 : Int32) then
                    M_next_J300 q20.1 q23.2
                  else
                    if q20.1 = (43 : Int32) then
                      M_next_J300 q20.1 q23.2
                    else
                      if q20.1 = (45 : Int32) then
                        M_next_J300 q20.1 q23.2
                      else
                        if q20.1 = (42 : Int32) then
                          M_next_J300 q20.1 q23.2
                        else
                          if q20.1 = (60 : Int32) then
                            M_next_J300 q20.1 q23.2
                          else
                            if q20.1 = (61 : Int32) then
                              M_next_J300 q20.1 q23.2
                            else
                              some q23.2
            else
              let σ24 := upd3 q23.2 30 0 20 (2 : Int32)
              let σ25 := upd3 σ24 30 0 22 (0 : Int32)
              M_next_L160 FU (0 : Int32) σ25
          else
            let σ26 := upd3 q22.2 30 0 20 (1 : Int32)
            M_next_L100 FU  σ26
def M_next (σ : Sg) : Option (Sg) :=
  M_next_L0 FU  σ
def cp_M_next {R : Type} (as : List AV) (σ : Sg) (k : AV → Sg → Option R) : Option R := match as with
  | [.inr (.inr (.inl (g1, i1)))] => match Nat.beq g1 30 && Nat.beq i1 0 with
    | true => (M_next σ).bind fun q => k vU q
    | false => none
  | _ => none
-- M_fail ()V
def M_fail (σ : Sg) : Option (Sg) :=
  if (σ 30 0 24) = 0 then
    let σ1 := upd3 σ 30 0 24 (1 : Int32)
    let σ2 := upd3 σ1 30 0 25 (σ1 30 0 21)
    some σ2
  else
    some σ
def cp_M_fail {R : Type} (as : List AV) (σ : Sg) (k : AV → Sg → Option R) : Option R := match as with
  | [.inr (.inr (.inl (g1, i1)))] => match Nat.beq g1 30 && Nat.beq i1 0 with
    | true => (M_fail σ).bind fun q => k vU q
    | false => none
  | _ => none
-- M_isLetter (II)Z
def M_isLetter (p1 : Int32) (p2 : Int32) (σ : Sg) : Option (Int32 × Sg) :=
  if ((σ 30 0 21) + p1) < (σ 30 0 19) then
    (M_byteAt ((σ 30 0 21) + p1) σ).bind fun q1 =>
    if q1.1 = p2 then
      some ((1 : Int32), q1.2)
    else
      some ((0 : Int32), q1.2)
  else
    if p2 = 0 then
      some ((1 : Int32), σ)
    else
      some ((0 : Int32), σ)
def cp_M_isLetter {R : Type} (as : List AV) (σ : Sg) (k : AV → Sg → Option R) : Option R := match as with
  | [.inr (.inr (.inl (g1, i1))), .inl p1, .inl p2] => match Nat.beq g1 30 && Nat.beq i1 0 with
    | true => (M_isLetter p1 p2 σ).bind fun q => k (vI q.1) q.2
    | false => none
  | _ => none
-- M_isWord (IIIIIIII)Z
def M_isWord (p1 : Int32) (p2 : Int32) (p3 : Int32) (p4 : Int32) (p5 : Int32) (p6 : Int32) (p7 : Int32) (p8 : Int32) (σ : Sg) : Option (Int32 × Sg) :=
  if (σ 30 0 24) = 0 then
    if (σ 30 0 20) = (1 : Int32) then
      if ((σ 30 0 21) + (8 : Int32)) < (σ 30 0 19) then
        some ((0 : Int32), σ)
      else
        (M_isLetter (0 : Int32) p1 σ).bind fun q1 =>
        if q1.1 = 0 then
          some ((0 : Int32), q1.2)
        else
          (M_isLetter (1 : Int32) p2 q1.2).bind fun q2 =>
          if q2.1 = 0 then
            some ((0 : Int32), q2.2)
          else
            (M_isLetter (2 : Int32) p3 q2.2).bind fun q3 =>
            if q3.1 = 0 then
              some ((0 : Int32), q3.2)
            else
              (M_isLetter (3 : Int32) p4 q3.2).bind fun q4 =>
              if q4.1 = 0 then
                some ((0 : Int32), q4.2)
              else
                (M_isLetter (4 : Int32) p5 q4.2).bind fun q5 =>
                if q5.1 = 0 then
                  some ((0 : Int32), q5.2)
                else
                  (M_isLetter (5 : Int32) p6 q5.2).bind fun q6 =>
                  if q6.1 = 0 then
                    some ((0 : Int32), q6.2)
                  else
                    (M_isLetter (6 : Int32) p7 q6.2).bind fun q7 =>
                    if q7.1 = 0 then
                      some ((0 : Int32), q7.2)
                    else
                      (M_isLetter (7 : Int32) p8 q7.2).bind fun q8 =>
                      if q8.1 = 0 then
                        some ((0 : Int32), q8.2)
                      else
                        some ((1 : Int32), q8.2)
    else
      some ((0 : Int32), σ)
  else
    some ((0 : Int32), σ)
def cp_M_isWord {R : Type} (as : List AV) (σ : Sg) (k : AV → Sg → Option R) : Option R := match as with
  | [.inr (.inr (.inl (g1, i1))), .inl p1, .inl p2, .inl p3, .inl p4, .inl p5, .inl p6, .inl p7, .inl p8] => match Nat.beq g1 30 && Nat.beq i1 0 with
    | true => (M_isWord p1 p2 p3 p4 p5 p6 p7 p8 σ).bind fun q => k (vI q.1) q.2
    | false => none
  | _ => none
-- M_isSign (I)Z
def M_isSign (p1 : Int32) (σ : Sg) : Option (Int32 × Sg) :=
  if (σ 30 0 24) = 0 then
    if (σ 30 0 20) = (3 : Int32) then
      if (lg_cmp (σ 30 0 22).toInt64 (p1).toInt64) = 0 then
        some ((1 : Int32), σ)
      else
        some ((0 : Int32), σ)
    else
      some ((0 : Int32), σ)
  else
    some ((0 : Int32), σ)
def cp_M_isSign {R : Type} (as : List AV) (σ : Sg) (k : AV → Sg → Option R) : Option R := match as with
  | [.inr (.inr (.inl (g1, i1))), .inl p1] => match Nat.beq g1 30 && Nat.beq i1 0 with
    | true => (M_isSign p1 σ).bind fun q => k (vI q.1) q.2
    | false => none
  | _ => none
-- M_opens ()Z
def M_opens (σ : Sg) : Option (Int32 × Sg) :=
  if (σ 30 0 23) = (5 : Int32) then
    (M_fail σ).bind fun σ3 =>
    some ((0 : Int32), σ3)
  else
    let σ1 := upd3 σ 30 0 23 ((σ 30 0 23) + (1 : Int32))
    (M_next σ1).bind fun σ2 =>
    some ((1 : Int32), σ2)
def cp_M_opens {R : Type} (as : List AV) (σ : Sg) (k : AV → Sg → Option R) : Option R := match as with
  | [.inr (.inr (.inl (g1, i1)))] => match Nat.beq g1 30 && Nat.beq i1 0 with
    | true => (M_opens σ).bind fun q => k (vI q.1) q.2
    | false => none
  | _ => none
-- M_name ()I
def M_name (σ : Sg) : Option (Int32 × Sg) :=
  (M_isWord (99 : Int32) (117 : Int32) (116 : Int32) (0 : Int32) (0 : Int32) (0 : Int32) (0 : Int32) (0 : Int32) σ).bind fun q1 =>
  if q1.1 = 0 then
    (M_isWord (109 : Int32) (111 : Int32) (111 : Int32) (100 : Int32) (0 : Int32) (0 : Int32) (0 : Int32) (0 : Int32) q1.2).bind fun q2 =>
    if q2.1 = 0 then
      (M_isWord (110 : Int32) (117 : Int32) (109 : Int32) (98 : Int32) (101 : Int32) (114 : Int32) (0 : Int32) (0 : Int32) q2.2).bind fun q3 =>
      if q3.1 = 0 then
        (M_isWord (104 : Int32) (111 : Int32) (117 : Int32) (114 : Int32) (0 : Int32) (0 : Int32) (0 : Int32) (0 : Int32) q3.2).bind fun q4 =>
        if q4.1 = 0 then
          (M_isWord (119 : Int32) (111 : Int32) (114 : Int32) (110 : Int32) (0 : Int32) (0 : Int32) (0 : Int32) (0 : Int32) q4.2).bind fun q5 =>
          if q5.1 = 0 then
            (M_isWord (111 : Int32) (102 : Int32) (102 : Int32) (0 : Int32) (0 : Int32) (0 : Int32) (0 : Int32) (0 : Int32) q5.2).bind fun q6 =>
            if q6.1 = 0 then
              (M_fail q6.2).bind fun σ7 =>
              some ((0 : Int32), σ7)
            else
              some ((q6.2 30 0 16), q6.2)
          else
            some ((q5.2 30 0 15), q5.2)
        else
          some ((q4.2 30 0 14), q4.2)
      else
        some ((q3.2 30 0 13), q3.2)
    else
      some ((q2.2 30 0 12), q2.2)
  else
    some ((q1.2 30 0 11), q1.2)
def cp_M_name {R : Type} (as : List AV) (σ : Sg) (k : AV → Sg → Option R) : Option R := match as with
  | [.inr (.inr (.inl (g1, i1)))] => match Nat.beq g1 30 && Nat.beq i1 0 with
    | true => (M_name σ).bind fun q => k (vI q.1) q.2
    | false => none
  | _ => none
-- M_atom5 ()I
def M_atom5_J64 (v1 : Int32) (σ : Sg) : Option (Int32 × Sg) :=
  if (σ 30 0 24) = 0 then
    if (σ 30 0 20) = (1 : Int32) then
      (M_name σ).bind fun q3 =>
      if (q3.2 30 0 24) = 0 then
        (M_next q3.2).bind fun σ4 =>
        some (q3.1, σ4)
      else
        some (q3.1, q3.2)
    else
      (M_fail σ).bind fun σ2 =>
      some (v1, σ2)
  else
    (M_fail σ).bind fun σ1 =>
    some (v1, σ1)
def M_atom5 (σ : Sg) : Option (Int32 × Sg) :=
  (M_isSign (45 : Int32) σ).bind fun q5 =>
  if q5.1 = 0 then
    (M_isSign (40 : Int32) q5.2).bind fun q6 =>
    if q6.1 = 0 then
      if (q6.2 30 0 24) = 0 then
        if (q6.2 30 0 20) = (2 : Int32) then
          (M_next q6.2).bind fun σ7 =>
          some (((q6.2 30 0 22).toInt64).toInt32, σ7)
        else
          M_atom5_J64 (0 : Int32) q6.2
      else
        M_atom5_J64 (0 : Int32) q6.2
    else
      (M_opens q6.2).bind fun q8 =>
      some ((0 : Int32), q8.2)
  else
    (M_opens q5.2).bind fun q9 =>
    some ((0 : Int32), q9.2)
def cp_M_atom5 {R : Type} (as : List AV) (σ : Sg) (k : AV → Sg → Option R) : Option R := match as with
  | [.inr (.inr (.inl (g1, i1)))] => match Nat.beq g1 30 && Nat.beq i1 0 with
    | true => (M_atom5 σ).bind fun q => k (vI q.1) q.2
    | false => none
  | _ => none
-- M_term5 ()I
def M_term5_L5 : Nat → Int32 → Sg → Option (Int32 × Sg)
  | 0, _, _ => none
  | n + 1, v1, σ =>
    (M_isSign (42 : Int32) σ).bind fun q1 =>
    if q1.1 = 0 then
      some (v1, q1.2)
    else
      (M_next q1.2).bind fun σ2 =>
      (M_atom5 σ2).bind fun q3 =>
      M_term5_L5 n (v1 * q3.1) q3.2
def M_term5 (σ : Sg) : Option (Int32 × Sg) :=
  (M_atom5 σ).bind fun q4 =>
  M_term5_L5 FU q4.1 q4.2
def cp_M_term5 {R : Type} (as : List AV) (σ : Sg) (k : AV → Sg → Option R) : Option R := match as with
  | [.inr (.inr (.inl (g1, i1)))] => match Nat.beq g1 30 && Nat.beq i1 0 with
    | true => (M_term5 σ).bind fun q => k (vI q.1) q.2
    | false => none
  | _ => none
-- M_added5 ()I
def M_added5_J39 (k5 : Int32 → Sg → Option (Int32 × Sg)) (v1 : Int32) (w0 : Int32) (σ : Sg) : Option (Int32 × Sg) :=
  (M_next σ).bind fun σ1 =>
  (M_term5 σ1).bind fun q2 =>
  if w0 = 0 then
    k5 (v1 - q2.1) q2.2
  else
    k5 (v1 + q2.1) q2.2
def M_added5_J23 (k5 : Int32 → Sg → Option (Int32 × Sg)) (v1 : Int32) (σ : Sg) : Option (Int32 × Sg) :=
  if (lg_cmp (σ 30 0 22).toInt64 (43 : Int64)) = 0 then
    M_added5_J39 k5 v1 (1 : Int32) σ
  else
    M_added5_J39 k5 v1 (0 : Int32) σ
def M_added5_L5 : Nat → Int32 → Sg → Option (Int32 × Sg)
  | 0, _, _ => none
  | n + 1, v1, σ =>
    (M_isSign (43 : Int32) σ).bind fun q3 =>
    if q3.1 = 0 then
      (M_isSign (45 : Int32) q3.2).bind fun q4 =>
      if q4.1 = 0 then
        some (v1, q4.2)
      else
        M_added5_J23 (fun y0 τ => M_added5_L5 n y0 τ) v1 q4.2
    else
      M_added5_J23 (fun y0 τ => M_added5_L5 n y0 τ) v1 q3.2
def M_added5 (σ : Sg) : Option (Int32 × Sg) :=
  (M_term5 σ).bind fun q5 =>
  M_added5_L5 FU q5.1 q5.2
def cp_M_added5 {R : Type} (as : List AV) (σ : Sg) (k : AV → Sg → Option R) : Option R := match as with
  | [.inr (.inr (.inl (g1, i1)))] => match Nat.beq g1 30 && Nat.beq i1 0 with
    | true => (M_added5 σ).bind fun q => k (vI q.1) q.2
    | false => none
  | _ => none
-- M_not5 ()I
def M_not5_J66 (v1 : Int32) (w0 : Int32) (σ : Sg) : Option (Int32 × Sg) :=
  (M_next σ).bind fun σ1 =>
  (M_added5 σ1).bind fun q2 =>
  if w0 = 0 then
    if v1 = q2.1 then
      some ((1 : Int32), q2.2)
    else
      some ((0 : Int32), q2.2)
  else
    if v1 < q2.1 then
      some ((1 : Int32), q2.2)
    else
      some ((0 : Int32), q2.2)
def M_not5_J50 (v1 : Int32) (σ : Sg) : Option (Int32 × Sg) :=
  if (lg_cmp (σ 30 0 22).toInt64 (60 : Int64)) = 0 then
    M_not5_J66 v1 (1 : Int32) σ
  else
    M_not5_J66 v1 (0 : Int32) σ
def M_not5 (σ : Sg) : Option (Int32 × Sg) :=
  (M_isWord (110 : Int32) (111 : Int32) (116 : Int32) (0 : Int32) (0 : Int32) (0 : Int32) (0 : Int32) (0 : Int32) σ).bind fun q3 =>
  if q3.1 = 0 then
    (M_added5 q3.2).bind fun q4 =>
    (M_isSign (60 : Int32) q4.2).bind fun q5 =>
    if q5.1 = 0 then
      (M_isSign (61 : Int32) q5.2).bind fun q6 =>
      if q6.1 = 0 then
        some (q4.1, q6.2)
      else
        M_not5_J50 q4.1 q6.2
    else
      M_not5_J50 q4.1 q5.2
  else
    (M_opens q3.2).bind fun q7 =>
    some ((0 : Int32), q7.2)
def cp_M_not5 {R : Type} (as : List AV) (σ : Sg) (k : AV → Sg → Option R) : Option R := match as with
  | [.inr (.inr (.inl (g1, i1)))] => match Nat.beq g1 30 && Nat.beq i1 0 with
    | true => (M_not5 σ).bind fun q => k (vI q.1) q.2
    | false => none
  | _ => none
-- M_both5 ()I
def M_both5_L5 : Nat → Int32 → Sg → Option (Int32 × Sg)
  | 0, _, _ => none
  | n + 1, v1, σ =>
    (M_isWord (97 : Int32) (110 : Int32) (100 : Int32) (0 : Int32) (0 : Int32) (0 : Int32) (0 : Int32) (0 : Int32) σ).bind fun q1 =>
    if q1.1 = 0 then
      some (v1, q1.2)
    else
      (M_next q1.2).bind fun σ2 =>
      (M_not5 σ2).bind fun q3 =>
      if v1 = 0 then
        M_both5_L5 n (0 : Int32) q3.2
      else
        if q3.1 = 0 then
          M_both5_L5 n (0 : Int32) q3.2
        else
          M_both5_L5 n (1 : Int32) q3.2
def M_both5 (σ : Sg) : Option (Int32 × Sg) :=
  (M_not5 σ).bind fun q4 =>
  M_both5_L5 FU q4.1 q4.2
def cp_M_both5 {R : Type} (as : List AV) (σ : Sg) (k : AV → Sg → Option R) : Option R := match as with
  | [.inr (.inr (.inl (g1, i1)))] => match Nat.beq g1 30 && Nat.beq i1 0 with
    | true => (M_both5 σ).bind fun q => k (vI q.1) q.2
    | false => none
  | _ => none
-- M_either5 ()I
def M_either5_L5 : Nat → Int32 → Sg → Option (Int32 × Sg)
  | 0, _, _ => none
  | n + 1, v1, σ =>
    (M_isWord (111 : Int32) (114 : Int32) (0 : Int32) (0 : Int32) (0 : Int32) (0 : Int32) (0 : Int32) (0 : Int32) σ).bind fun q1 =>
    if q1.1 = 0 then
      some (v1, q1.2)
    else
      (M_next q1.2).bind fun σ2 =>
      (M_both5 σ2).bind fun q3 =>
      if v1 = 0 then
        if q3.1 = 0 then
          M_either5_L5 n (0 : Int32) q3.2
        else
          M_either5_L5 n (1 : Int32) q3.2
      else
        M_either5_L5 n (1 : Int32) q3.2
def M_either5 (σ : Sg) : Option (Int32 × Sg) :=
  (M_both5 σ).bind fun q4 =>
  M_either5_L5 FU q4.1 q4.2
def cp_M_either5 {R : Type} (as : List AV) (σ : Sg) (k : AV → Sg → Option R) : Option R := match as with
  | [.inr (.inr (.inl (g1, i1)))] => match Nat.beq g1 30 && Nat.beq i1 0 with
    | true => (M_either5 σ).bind fun q => k (vI q.1) q.2
    | false => none
  | _ => none
-- M_atom4 ()I
def M_atom4_J123 (v1 : Int32) (σ : Sg) : Option (Int32 × Sg) :=
  if (σ 30 0 24) = 0 then
    if (σ 30 0 20) = (1 : Int32) then
      (M_name σ).bind fun q3 =>
      if (q3.2 30 0 24) = 0 then
        (M_next q3.2).bind fun σ4 =>
        some (q3.1, σ4)
      else
        some (q3.1, q3.2)
    else
      (M_fail σ).bind fun σ2 =>
      some (v1, σ2)
  else
    (M_fail σ).bind fun σ1 =>
    some (v1, σ1)
def M_atom4_J71 (v1 : Int32) (σ : Sg) : Option (Int32 × Sg) :=
  let σ5 := upd3 σ 30 0 23 ((σ 30 0 23) - (1 : Int32))
  if (σ5 30 0 24) = 0 then
    (M_next σ5).bind fun σ6 =>
    some (v1, σ6)
  else
    some (v1, σ5)
def M_atom4 (σ : Sg) : Option (Int32 × Sg) :=
  (M_isSign (45 : Int32) σ).bind fun q7 =>
  if q7.1 = 0 then
    (M_isSign (40 : Int32) q7.2).bind fun q8 =>
    if q8.1 = 0 then
      if (q8.2 30 0 24) = 0 then
        if (q8.2 30 0 20) = (2 : Int32) then
          (M_next q8.2).bind fun σ9 =>
          some (((q8.2 30 0 22).toInt64).toInt32, σ9)
        else
          M_atom4_J123 (0 : Int32) q8.2
      else
        M_atom4_J123 (0 : Int32) q8.2
    else
      (M_opens q8.2).bind fun q10 =>
      if q10.1 = 0 then
        some ((0 : Int32), q10.2)
      else
        (M_either5 q10.2).bind fun q11 =>
        (M_isSign (41 : Int32) q11.2).bind fun q12 =>
        if q12.1 = 0 then
          (M_fail q12.2).bind fun σ13 =>
          M_atom4_J71 q11.1 σ13
        else
          M_atom4_J71 q11.1 q12.2
  else
    (M_opens q7.2).bind fun q14 =>
    if q14.1 = 0 then
      some ((0 : Int32), q14.2)
    else
      (M_atom5 q14.2).bind fun q15 =>
      let σ16 := upd3 q15.2 30 0 23 ((q15.2 30 0 23) - (1 : Int32))
      some ((-q15.1), σ16)
def cp_M_atom4 {R : Type} (as : List AV) (σ : Sg) (k : AV → Sg → Option R) : Option R := match as with
  | [.inr (.inr (.inl (g1, i1)))] => match Nat.beq g1 30 && Nat.beq i1 0 with
    | true => (M_atom4 σ).bind fun q => k (vI q.1) q.2
    | false => none
  | _ => none
-- M_term4 ()I
def M_term4_L5 : Nat → Int32 → Sg → Option (Int32 × Sg)
  | 0, _, _ => none
  | n + 1, v1, σ =>
    (M_isSign (42 : Int32) σ).bind fun q1 =>
    if q1.1 = 0 then
      some (v1, q1.2)
    else
      (M_next q1.2).bind fun σ2 =>
      (M_atom4 σ2).bind fun q3 =>
      M_term4_L5 n (v1 * q3.1) q3.2
def M_term4 (σ : Sg) : Option (Int32 × Sg) :=
  (M_atom4 σ).bind fun q4 =>
  M_term4_L5 FU q4.1 q4.2
def cp_M_term4 {R : Type} (as : List AV) (σ : Sg) (k : AV → Sg → Option R) : Option R := match as with
  | [.inr (.inr (.inl (g1, i1)))] => match Nat.beq g1 30 && Nat.beq i1 0 with
    | true => (M_term4 σ).bind fun q => k (vI q.1) q.2
    | false => none
  | _ => none
-- M_added4 ()I
def M_added4_J39 (k5 : Int32 → Sg → Option (Int32 × Sg)) (v1 : Int32) (w0 : Int32) (σ : Sg) : Option (Int32 × Sg) :=
  (M_next σ).bind fun σ1 =>
  (M_term4 σ1).bind fun q2 =>
  if w0 = 0 then
    k5 (v1 - q2.1) q2.2
  else
    k5 (v1 + q2.1) q2.2
def M_added4_J23 (k5 : Int32 → Sg → Option (Int32 × Sg)) (v1 : Int32) (σ : Sg) : Option (Int32 × Sg) :=
  if (lg_cmp (σ 30 0 22).toInt64 (43 : Int64)) = 0 then
    M_added4_J39 k5 v1 (1 : Int32) σ
  else
    M_added4_J39 k5 v1 (0 : Int32) σ
def M_added4_L5 : Nat → Int32 → Sg → Option (Int32 × Sg)
  | 0, _, _ => none
  | n + 1, v1, σ =>
    (M_isSign (43 : Int32) σ).bind fun q3 =>
    if q3.1 = 0 then
      (M_isSign (45 : Int32) q3.2).bind fun q4 =>
      if q4.1 = 0 then
        some (v1, q4.2)
      else
        M_added4_J23 (fun y0 τ => M_added4_L5 n y0 τ) v1 q4.2
    else
      M_added4_J23 (fun y0 τ => M_added4_L5 n y0 τ) v1 q3.2
def M_added4 (σ : Sg) : Option (Int32 × Sg) :=
  (M_term4 σ).bind fun q5 =>
  M_added4_L5 FU q5.1 q5.2
def cp_M_added4 {R : Type} (as : List AV) (σ : Sg) (k : AV → Sg → Option R) : Option R := match as with
  | [.inr (.inr (.inl (g1, i1)))] => match Nat.beq g1 30 && Nat.beq i1 0 with
    | true => (M_added4 σ).bind fun q => k (vI q.1) q.2
    | false => none
  | _ => none
-- M_not4 ()I
def M_not4_J93 (v1 : Int32) (w0 : Int32) (σ : Sg) : Option (Int32 × Sg) :=
  (M_next σ).bind fun σ1 =>
  (M_added4 σ1).bind fun q2 =>
  if w0 = 0 then
    if v1 = q2.1 then
      some ((1 : Int32), q2.2)
    else
      some ((0 : Int32), q2.2)
  else
    if v1 < q2.1 then
      some ((1 : Int32), q2.2)
    else
      some ((0 : Int32), q2.2)
def M_not4_J77 (v1 : Int32) (σ : Sg) : Option (Int32 × Sg) :=
  if (lg_cmp (σ 30 0 22).toInt64 (60 : Int64)) = 0 then
    M_not4_J93 v1 (1 : Int32) σ
  else
    M_not4_J93 v1 (0 : Int32) σ
def M_not4 (σ : Sg) : Option (Int32 × Sg) :=
  (M_isWord (110 : Int32) (111 : Int32) (116 : Int32) (0 : Int32) (0 : Int32) (0 : Int32) (0 : Int32) (0 : Int32) σ).bind fun q3 =>
  if q3.1 = 0 then
    (M_added4 q3.2).bind fun q4 =>
    (M_isSign (60 : Int32) q4.2).bind fun q5 =>
    if q5.1 = 0 then
      (M_isSign (61 : Int32) q5.2).bind fun q6 =>
      if q6.1 = 0 then
        some (q4.1, q6.2)
      else
        M_not4_J77 q4.1 q6.2
    else
      M_not4_J77 q4.1 q5.2
  else
    (M_opens q3.2).bind fun q7 =>
    if q7.1 = 0 then
      some ((0 : Int32), q7.2)
    else
      (M_not5 q7.2).bind fun q8 =>
      let σ9 := upd3 q8.2 30 0 23 ((q8.2 30 0 23) - (1 : Int32))
      if q8.1 = 0 then
        some ((1 : Int32), σ9)
      else
        some ((0 : Int32), σ9)
def cp_M_not4 {R : Type} (as : List AV) (σ : Sg) (k : AV → Sg → Option R) : Option R := match as with
  | [.inr (.inr (.inl (g1, i1)))] => match Nat.beq g1 30 && Nat.beq i1 0 with
    | true => (M_not4 σ).bind fun q => k (vI q.1) q.2
    | false => none
  | _ => none
-- M_both4 ()I
def M_both4_L5 : Nat → Int32 → Sg → Option (Int32 × Sg)
  | 0, _, _ => none
  | n + 1, v1, σ =>
    (M_isWord (97 : Int32) (110 : Int32) (100 : Int32) (0 : Int32) (0 : Int32) (0 : Int32) (0 : Int32) (0 : Int32) σ).bind fun q1 =>
    if q1.1 = 0 then
      some (v1, q1.2)
    else
      (M_next q1.2).bind fun σ2 =>
      (M_not4 σ2).bind fun q3 =>
      if v1 = 0 then
        M_both4_L5 n (0 : Int32) q3.2
      else
        if q3.1 = 0 then
          M_both4_L5 n (0 : Int32) q3.2
        else
          M_both4_L5 n (1 : Int32) q3.2
def M_both4 (σ : Sg) : Option (Int32 × Sg) :=
  (M_not4 σ).bind fun q4 =>
  M_both4_L5 FU q4.1 q4.2
def cp_M_both4 {R : Type} (as : List AV) (σ : Sg) (k : AV → Sg → Option R) : Option R := match as with
  | [.inr (.inr (.inl (g1, i1)))] => match Nat.beq g1 30 && Nat.beq i1 0 with
    | true => (M_both4 σ).bind fun q => k (vI q.1) q.2
    | false => none
  | _ => none
-- M_either4 ()I
def M_either4_L5 : Nat → Int32 → Sg → Option (Int32 × Sg)
  | 0, _, _ => none
  | n + 1, v1, σ =>
    (M_isWord (111 : Int32) (114 : Int32) (0 : Int32) (0 : Int32) (0 : Int32) (0 : Int32) (0 : Int32) (0 : Int32) σ).bind fun q1 =>
    if q1.1 = 0 then
      some (v1, q1.2)
    else
      (M_next q1.2).bind fun σ2 =>
      (M_both4 σ2).bind fun q3 =>
      if v1 = 0 then
        if q3.1 = 0 then
          M_either4_L5 n (0 : Int32) q3.2
        else
          M_either4_L5 n (1 : Int32) q3.2
      else
        M_either4_L5 n (1 : Int32) q3.2
def M_either4 (σ : Sg) : Option (Int32 × Sg) :=
  (M_both4 σ).bind fun q4 =>
  M_either4_L5 FU q4.1 q4.2
def cp_M_either4 {R : Type} (as : List AV) (σ : Sg) (k : AV → Sg → Option R) : Option R := match as with
  | [.inr (.inr (.inl (g1, i1)))] => match Nat.beq g1 30 && Nat.beq i1 0 with
    | true => (M_either4 σ).bind fun q => k (vI q.1) q.2
    | false => none
  | _ => none
-- M_atom3 ()I
def M_atom3_J123 (v1 : Int32) (σ : Sg) : Option (Int32 × Sg) :=
  if (σ 30 0 24) = 0 then
    if (σ 30 0 20) = (1 : Int32) then
      (M_name σ).bind fun q3 =>
      if (q3.2 30 0 24) = 0 then
        (M_next q3.2).bind fun σ4 =>
        some (q3.1, σ4)
      else
        some (q3.1, q3.2)
    else
      (M_fail σ).bind fun σ2 =>
      some (v1, σ2)
  else
    (M_fail σ).bind fun σ1 =>
    some (v1, σ1)
def M_atom3_J71 (v1 : Int32) (σ : Sg) : Option (Int32 × Sg) :=
  let σ5 := upd3 σ 30 0 23 ((σ 30 0 23) - (1 : Int32))
  if (σ5 30 0 24) = 0 then
    (M_next σ5).bind fun σ6 =>
    some (v1, σ6)
  else
    some (v1, σ5)
def M_atom3 (σ : Sg) : Option (Int32 × Sg) :=
  (M_isSign (45 : Int32) σ).bind fun q7 =>
  if q7.1 = 0 then
    (M_isSign (40 : Int32) q7.2).bind fun q8 =>
    if q8.1 = 0 then
      if (q8.2 30 0 24) = 0 then
        if (q8.2 30 0 20) = (2 : Int32) then
          (M_next q8.2).bind fun σ9 =>
          some (((q8.2 30 0 22).toInt64).toInt32, σ9)
        else
          M_atom3_J123 (0 : Int32) q8.2
      else
        M_atom3_J123 (0 : Int32) q8.2
    else
      (M_opens q8.2).bind fun q10 =>
      if q10.1 = 0 then
        some ((0 : Int32), q10.2)
      else
        (M_either4 q10.2).bind fun q11 =>
        (M_isSign (41 : Int32) q11.2).bind fun q12 =>
        if q12.1 = 0 then
          (M_fail q12.2).bind fun σ13 =>
          M_atom3_J71 q11.1 σ13
        else
          M_atom3_J71 q11.1 q12.2
  else
    (M_opens q7.2).bind fun q14 =>
    if q14.1 = 0 then
      some ((0 : Int32), q14.2)
    else
      (M_atom4 q14.2).bind fun q15 =>
      let σ16 := upd3 q15.2 30 0 23 ((q15.2 30 0 23) - (1 : Int32))
      some ((-q15.1), σ16)
def cp_M_atom3 {R : Type} (as : List AV) (σ : Sg) (k : AV → Sg → Option R) : Option R := match as with
  | [.inr (.inr (.inl (g1, i1)))] => match Nat.beq g1 30 && Nat.beq i1 0 with
    | true => (M_atom3 σ).bind fun q => k (vI q.1) q.2
    | false => none
  | _ => none
-- M_term3 ()I
def M_term3_L5 : Nat → Int32 → Sg → Option (Int32 × Sg)
  | 0, _, _ => none
  | n + 1, v1, σ =>
    (M_isSign (42 : Int32) σ).bind fun q1 =>
    if q1.1 = 0 then
      some (v1, q1.2)
    else
      (M_next q1.2).bind fun σ2 =>
      (M_atom3 σ2).bind fun q3 =>
      M_term3_L5 n (v1 * q3.1) q3.2
def M_term3 (σ : Sg) : Option (Int32 × Sg) :=
  (M_atom3 σ).bind fun q4 =>
  M_term3_L5 FU q4.1 q4.2
def cp_M_term3 {R : Type} (as : List AV) (σ : Sg) (k : AV → Sg → Option R) : Option R := match as with
  | [.inr (.inr (.inl (g1, i1)))] => match Nat.beq g1 30 && Nat.beq i1 0 with
    | true => (M_term3 σ).bind fun q => k (vI q.1) q.2
    | false => none
  | _ => none
-- M_added3 ()I
def M_added3_J39 (k5 : Int32 → Sg → Option (Int32 × Sg)) (v1 : Int32) (w0 : Int32) (σ : Sg) : Option (Int32 × Sg) :=
  (M_next σ).bind fun σ1 =>
  (M_term3 σ1).bind fun q2 =>
  if w0 = 0 then
    k5 (v1 - q2.1) q2.2
  else
    k5 (v1 + q2.1) q2.2
def M_added3_J23 (k5 : Int32 → Sg → Option (Int32 × Sg)) (v1 : Int32) (σ : Sg) : Option (Int32 × Sg) :=
  if (lg_cmp (σ 30 0 22).toInt64 (43 : Int64)) = 0 then
    M_added3_J39 k5 v1 (1 : Int32) σ
  else
    M_added3_J39 k5 v1 (0 : Int32) σ
def M_added3_L5 : Nat → Int32 → Sg → Option (Int32 × Sg)
  | 0, _, _ => none
  | n + 1, v1, σ =>
    (M_isSign (43 : Int32) σ).bind fun q3 =>
    if q3.1 = 0 then
      (M_isSign (45 : Int32) q3.2).bind fun q4 =>
      if q4.1 = 0 then
        some (v1, q4.2)
      else
        M_added3_J23 (fun y0 τ => M_added3_L5 n y0 τ) v1 q4.2
    else
      M_added3_J23 (fun y0 τ => M_added3_L5 n y0 τ) v1 q3.2
def M_added3 (σ : Sg) : Option (Int32 × Sg) :=
  (M_term3 σ).bind fun q5 =>
  M_added3_L5 FU q5.1 q5.2
def cp_M_added3 {R : Type} (as : List AV) (σ : Sg) (k : AV → Sg → Option R) : Option R := match as with
  | [.inr (.inr (.inl (g1, i1)))] => match Nat.beq g1 30 && Nat.beq i1 0 with
    | true => (M_added3 σ).bind fun q => k (vI q.1) q.2
    | false => none
  | _ => none
-- M_not3 ()I
def M_not3_J93 (v1 : Int32) (w0 : Int32) (σ : Sg) : Option (Int32 × Sg) :=
  (M_next σ).bind fun σ1 =>
  (M_added3 σ1).bind fun q2 =>
  if w0 = 0 then
    if v1 = q2.1 then
      some ((1 : Int32), q2.2)
    else
      some ((0 : Int32), q2.2)
  else
    if v1 < q2.1 then
      some ((1 : Int32), q2.2)
    else
      some ((0 : Int32), q2.2)
def M_not3_J77 (v1 : Int32) (σ : Sg) : Option (Int32 × Sg) :=
  if (lg_cmp (σ 30 0 22).toInt64 (60 : Int64)) = 0 then
    M_not3_J93 v1 (1 : Int32) σ
  else
    M_not3_J93 v1 (0 : Int32) σ
def M_not3 (σ : Sg) : Option (Int32 × Sg) :=
  (M_isWord (110 : Int32) (111 : Int32) (116 : Int32) (0 : Int32) (0 : Int32) (0 : Int32) (0 : Int32) (0 : Int32) σ).bind fun q3 =>
  if q3.1 = 0 then
    (M_added3 q3.2).bind fun q4 =>
    (M_isSign (60 : Int32) q4.2).bind fun q5 =>
    if q5.1 = 0 then
      (M_isSign (61 : Int32) q5.2).bind fun q6 =>
      if q6.1 = 0 then
        some (q4.1, q6.2)
      else
        M_not3_J77 q4.1 q6.2
    else
      M_not3_J77 q4.1 q5.2
  else
    (M_opens q3.2).bind fun q7 =>
    if q7.1 = 0 then
      some ((0 : Int32), q7.2)
    else
      (M_not4 q7.2).bind fun q8 =>
      let σ9 := upd3 q8.2 30 0 23 ((q8.2 30 0 23) - (1 : Int32))
      if q8.1 = 0 then
        some ((1 : Int32), σ9)
      else
        some ((0 : Int32), σ9)
def cp_M_not3 {R : Type} (as : List AV) (σ : Sg) (k : AV → Sg → Option R) : Option R := match as with
  | [.inr (.inr (.inl (g1, i1)))] => match Nat.beq g1 30 && Nat.beq i1 0 with
    | true => (M_not3 σ).bind fun q => k (vI q.1) q.2
    | false => none
  | _ => none
-- M_both3 ()I
def M_both3_L5 : Nat → Int32 → Sg → Option (Int32 × Sg)
  | 0, _, _ => none
  | n + 1, v1, σ =>
    (M_isWord (97 : Int32) (110 : Int32) (100 : Int32) (0 : Int32) (0 : Int32) (0 : Int32) (0 : Int32) (0 : Int32) σ).bind fun q1 =>
    if q1.1 = 0 then
      some (v1, q1.2)
    else
      (M_next q1.2).bind fun σ2 =>
      (M_not3 σ2).bind fun q3 =>
      if v1 = 0 then
        M_both3_L5 n (0 : Int32) q3.2
      else
        if q3.1 = 0 then
          M_both3_L5 n (0 : Int32) q3.2
        else
          M_both3_L5 n (1 : Int32) q3.2
def M_both3 (σ : Sg) : Option (Int32 × Sg) :=
  (M_not3 σ).bind fun q4 =>
  M_both3_L5 FU q4.1 q4.2
def cp_M_both3 {R : Type} (as : List AV) (σ : Sg) (k : AV → Sg → Option R) : Option R := match as with
  | [.inr (.inr (.inl (g1, i1)))] => match Nat.beq g1 30 && Nat.beq i1 0 with
    | true => (M_both3 σ).bind fun q => k (vI q.1) q.2
    | false => none
  | _ => none
-- M_either3 ()I
def M_either3_L5 : Nat → Int32 → Sg → Option (Int32 × Sg)
  | 0, _, _ => none
  | n + 1, v1, σ =>
    (M_isWord (111 : Int32) (114 : Int32) (0 : Int32) (0 : Int32) (0 : Int32) (0 : Int32) (0 : Int32) (0 : Int32) σ).bind fun q1 =>
    if q1.1 = 0 then
      some (v1, q1.2)
    else
      (M_next q1.2).bind fun σ2 =>
      (M_both3 σ2).bind fun q3 =>
      if v1 = 0 then
        if q3.1 = 0 then
          M_either3_L5 n (0 : Int32) q3.2
        else
          M_either3_L5 n (1 : Int32) q3.2
      else
        M_either3_L5 n (1 : Int32) q3.2
def M_either3 (σ : Sg) : Option (Int32 × Sg) :=
  (M_both3 σ).bind fun q4 =>
  M_either3_L5 FU q4.1 q4.2
def cp_M_either3 {R : Type} (as : List AV) (σ : Sg) (k : AV → Sg → Option R) : Option R := match as with
  | [.inr (.inr (.inl (g1, i1)))] => match Nat.beq g1 30 && Nat.beq i1 0 with
    | true => (M_either3 σ).bind fun q => k (vI q.1) q.2
    | false => none
  | _ => none
-- M_atom2 ()I
def M_atom2_J123 (v1 : Int32) (σ : Sg) : Option (Int32 × Sg) :=
  if (σ 30 0 24) = 0 then
    if (σ 30 0 20) = (1 : Int32) then
      (M_name σ).bind fun q3 =>
      if (q3.2 30 0 24) = 0 then
        (M_next q3.2).bind fun σ4 =>
        some (q3.1, σ4)
      else
        some (q3.1, q3.2)
    else
      (M_fail σ).bind fun σ2 =>
      some (v1, σ2)
  else
    (M_fail σ).bind fun σ1 =>
    some (v1, σ1)
def M_atom2_J71 (v1 : Int32) (σ : Sg) : Option (Int32 × Sg) :=
  let σ5 := upd3 σ 30 0 23 ((σ 30 0 23) - (1 : Int32))
  if (σ5 30 0 24) = 0 then
    (M_next σ5).bind fun σ6 =>
    some (v1, σ6)
  else
    some (v1, σ5)
def M_atom2 (σ : Sg) : Option (Int32 × Sg) :=
  (M_isSign (45 : Int32) σ).bind fun q7 =>
  if q7.1 = 0 then
    (M_isSign (40 : Int32) q7.2).bind fun q8 =>
    if q8.1 = 0 then
      if (q8.2 30 0 24) = 0 then
        if (q8.2 30 0 20) = (2 : Int32) then
          (M_next q8.2).bind fun σ9 =>
          some (((q8.2 30 0 22).toInt64).toInt32, σ9)
        else
          M_atom2_J123 (0 : Int32) q8.2
      else
        M_atom2_J123 (0 : Int32) q8.2
    else
      (M_opens q8.2).bind fun q10 =>
      if q10.1 = 0 then
        some ((0 : Int32), q10.2)
      else
        (M_either3 q10.2).bind fun q11 =>
        (M_isSign (41 : Int32) q11.2).bind fun q12 =>
        if q12.1 = 0 then
          (M_fail q12.2).bind fun σ13 =>
          M_atom2_J71 q11.1 σ13
        else
          M_atom2_J71 q11.1 q12.2
  else
    (M_opens q7.2).bind fun q14 =>
    if q14.1 = 0 then
      some ((0 : Int32), q14.2)
    else
      (M_atom3 q14.2).bind fun q15 =>
      let σ16 := upd3 q15.2 30 0 23 ((q15.2 30 0 23) - (1 : Int32))
      some ((-q15.1), σ16)
def cp_M_atom2 {R : Type} (as : List AV) (σ : Sg) (k : AV → Sg → Option R) : Option R := match as with
  | [.inr (.inr (.inl (g1, i1)))] => match Nat.beq g1 30 && Nat.beq i1 0 with
    | true => (M_atom2 σ).bind fun q => k (vI q.1) q.2
    | false => none
  | _ => none
-- M_term2 ()I
def M_term2_L5 : Nat → Int32 → Sg → Option (Int32 × Sg)
  | 0, _, _ => none
  | n + 1, v1, σ =>
    (M_isSign (42 : Int32) σ).bind fun q1 =>
    if q1.1 = 0 then
      some (v1, q1.2)
    else
      (M_next q1.2).bind fun σ2 =>
      (M_atom2 σ2).bind fun q3 =>
      M_term2_L5 n (v1 * q3.1) q3.2
def M_term2 (σ : Sg) : Option (Int32 × Sg) :=
  (M_atom2 σ).bind fun q4 =>
  M_term2_L5 FU q4.1 q4.2
def cp_M_term2 {R : Type} (as : List AV) (σ : Sg) (k : AV → Sg → Option R) : Option R := match as with
  | [.inr (.inr (.inl (g1, i1)))] => match Nat.beq g1 30 && Nat.beq i1 0 with
    | true => (M_term2 σ).bind fun q => k (vI q.1) q.2
    | false => none
  | _ => none
-- M_added2 ()I
def M_added2_J39 (k5 : Int32 → Sg → Option (Int32 × Sg)) (v1 : Int32) (w0 : Int32) (σ : Sg) : Option (Int32 × Sg) :=
  (M_next σ).bind fun σ1 =>
  (M_term2 σ1).bind fun q2 =>
  if w0 = 0 then
    k5 (v1 - q2.1) q2.2
  else
    k5 (v1 + q2.1) q2.2
def M_added2_J23 (k5 : Int32 → Sg → Option (Int32 × Sg)) (v1 : Int32) (σ : Sg) : Option (Int32 × Sg) :=
  if (lg_cmp (σ 30 0 22).toInt64 (43 : Int64)) = 0 then
    M_added2_J39 k5 v1 (1 : Int32) σ
  else
    M_added2_J39 k5 v1 (0 : Int32) σ
def M_added2_L5 : Nat → Int32 → Sg → Option (Int32 × Sg)
  | 0, _, _ => none
  | n + 1, v1, σ =>
    (M_isSign (43 : Int32) σ).bind fun q3 =>
    if q3.1 = 0 then
      (M_isSign (45 : Int32) q3.2).bind fun q4 =>
      if q4.1 = 0 then
        some (v1, q4.2)
      else
        M_added2_J23 (fun y0 τ => M_added2_L5 n y0 τ) v1 q4.2
    else
      M_added2_J23 (fun y0 τ => M_added2_L5 n y0 τ) v1 q3.2
def M_added2 (σ : Sg) : Option (Int32 × Sg) :=
  (M_term2 σ).bind fun q5 =>
  M_added2_L5 FU q5.1 q5.2
def cp_M_added2 {R : Type} (as : List AV) (σ : Sg) (k : AV → Sg → Option R) : Option R := match as with
  | [.inr (.inr (.inl (g1, i1)))] => match Nat.beq g1 30 && Nat.beq i1 0 with
    | true => (M_added2 σ).bind fun q => k (vI q.1) q.2
    | false => none
  | _ => none
-- M_not2 ()I
def M_not2_J93 (v1 : Int32) (w0 : Int32) (σ : Sg) : Option (Int32 × Sg) :=
  (M_next σ).bind fun σ1 =>
  (M_added2 σ1).bind fun q2 =>
  if w0 = 0 then
    if v1 = q2.1 then
      some ((1 : Int32), q2.2)
    else
      some ((0 : Int32), q2.2)
  else
    if v1 < q2.1 then
      some ((1 : Int32), q2.2)
    else
      some ((0 : Int32), q2.2)
def M_not2_J77 (v1 : Int32) (σ : Sg) : Option (Int32 × Sg) :=
  if (lg_cmp (σ 30 0 22).toInt64 (60 : Int64)) = 0 then
    M_not2_J93 v1 (1 : Int32) σ
  else
    M_not2_J93 v1 (0 : Int32) σ
def M_not2 (σ : Sg) : Option (Int32 × Sg) :=
  (M_isWord (110 : Int32) (111 : Int32) (116 : Int32) (0 : Int32) (0 : Int32) (0 : Int32) (0 : Int32) (0 : Int32) σ).bind fun q3 =>
  if q3.1 = 0 then
    (M_added2 q3.2).bind fun q4 =>
    (M_isSign (60 : Int32) q4.2).bind fun q5 =>
    if q5.1 = 0 then
      (M_isSign (61 : Int32) q5.2).bind fun q6 =>
      if q6.1 = 0 then
        some (q4.1, q6.2)
      else
        M_not2_J77 q4.1 q6.2
    else
      M_not2_J77 q4.1 q5.2
  else
    (M_opens q3.2).bind fun q7 =>
    if q7.1 = 0 then
      some ((0 : Int32), q7.2)
    else
      (M_not3 q7.2).bind fun q8 =>
      let σ9 := upd3 q8.2 30 0 23 ((q8.2 30 0 23) - (1 : Int32))
      if q8.1 = 0 then
        some ((1 : Int32), σ9)
      else
        some ((0 : Int32), σ9)
def cp_M_not2 {R : Type} (as : List AV) (σ : Sg) (k : AV → Sg → Option R) : Option R := match as with
  | [.inr (.inr (.inl (g1, i1)))] => match Nat.beq g1 30 && Nat.beq i1 0 with
    | true => (M_not2 σ).bind fun q => k (vI q.1) q.2
    | false => none
  | _ => none
-- M_both2 ()I
def M_both2_L5 : Nat → Int32 → Sg → Option (Int32 × Sg)
  | 0, _, _ => none
  | n + 1, v1, σ =>
    (M_isWord (97 : Int32) (110 : Int32) (100 : Int32) (0 : Int32) (0 : Int32) (0 : Int32) (0 : Int32) (0 : Int32) σ).bind fun q1 =>
    if q1.1 = 0 then
      some (v1, q1.2)
    else
      (M_next q1.2).bind fun σ2 =>
      (M_not2 σ2).bind fun q3 =>
      if v1 = 0 then
        M_both2_L5 n (0 : Int32) q3.2
      else
        if q3.1 = 0 then
          M_both2_L5 n (0 : Int32) q3.2
        else
          M_both2_L5 n (1 : Int32) q3.2
def M_both2 (σ : Sg) : Option (Int32 × Sg) :=
  (M_not2 σ).bind fun q4 =>
  M_both2_L5 FU q4.1 q4.2
def cp_M_both2 {R : Type} (as : List AV) (σ : Sg) (k : AV → Sg → Option R) : Option R := match as with
  | [.inr (.inr (.inl (g1, i1)))] => match Nat.beq g1 30 && Nat.beq i1 0 with
    | true => (M_both2 σ).bind fun q => k (vI q.1) q.2
    | false => none
  | _ => none
-- M_either2 ()I
def M_either2_L5 : Nat → Int32 → Sg → Option (Int32 × Sg)
  | 0, _, _ => none
  | n + 1, v1, σ =>
    (M_isWord (111 : Int32) (114 : Int32) (0 : Int32) (0 : Int32) (0 : Int32) (0 : Int32) (0 : Int32) (0 : Int32) σ).bind fun q1 =>
    if q1.1 = 0 then
      some (v1, q1.2)
    else
      (M_next q1.2).bind fun σ2 =>
      (M_both2 σ2).bind fun q3 =>
      if v1 = 0 then
        if q3.1 = 0 then
          M_either2_L5 n (0 : Int32) q3.2
        else
          M_either2_L5 n (1 : Int32) q3.2
      else
        M_either2_L5 n (1 : Int32) q3.2
def M_either2 (σ : Sg) : Option (Int32 × Sg) :=
  (M_both2 σ).bind fun q4 =>
  M_either2_L5 FU q4.1 q4.2
def cp_M_either2 {R : Type} (as : List AV) (σ : Sg) (k : AV → Sg → Option R) : Option R := match as with
  | [.inr (.inr (.inl (g1, i1)))] => match Nat.beq g1 30 && Nat.beq i1 0 with
    | true => (M_either2 σ).bind fun q => k (vI q.1) q.2
    | false => none
  | _ => none
-- M_atom1 ()I
def M_atom1_J123 (v1 : Int32) (σ : Sg) : Option (Int32 × Sg) :=
  if (σ 30 0 24) = 0 then
    if (σ 30 0 20) = (1 : Int32) then
      (M_name σ).bind fun q3 =>
      if (q3.2 30 0 24) = 0 then
        (M_next q3.2).bind fun σ4 =>
        some (q3.1, σ4)
      else
        some (q3.1, q3.2)
    else
      (M_fail σ).bind fun σ2 =>
      some (v1, σ2)
  else
    (M_fail σ).bind fun σ1 =>
    some (v1, σ1)
def M_atom1_J71 (v1 : Int32) (σ : Sg) : Option (Int32 × Sg) :=
  let σ5 := upd3 σ 30 0 23 ((σ 30 0 23) - (1 : Int32))
  if (σ5 30 0 24) = 0 then
    (M_next σ5).bind fun σ6 =>
    some (v1, σ6)
  else
    some (v1, σ5)
def M_atom1 (σ : Sg) : Option (Int32 × Sg) :=
  (M_isSign (45 : Int32) σ).bind fun q7 =>
  if q7.1 = 0 then
    (M_isSign (40 : Int32) q7.2).bind fun q8 =>
    if q8.1 = 0 then
      if (q8.2 30 0 24) = 0 then
        if (q8.2 30 0 20) = (2 : Int32) then
          (M_next q8.2).bind fun σ9 =>
          some (((q8.2 30 0 22).toInt64).toInt32, σ9)
        else
          M_atom1_J123 (0 : Int32) q8.2
      else
        M_atom1_J123 (0 : Int32) q8.2
    else
      (M_opens q8.2).bind fun q10 =>
      if q10.1 = 0 then
        some ((0 : Int32), q10.2)
      else
        (M_either2 q10.2).bind fun q11 =>
        (M_isSign (41 : Int32) q11.2).bind fun q12 =>
        if q12.1 = 0 then
          (M_fail q12.2).bind fun σ13 =>
          M_atom1_J71 q11.1 σ13
        else
          M_atom1_J71 q11.1 q12.2
  else
    (M_opens q7.2).bind fun q14 =>
    if q14.1 = 0 then
      some ((0 : Int32), q14.2)
    else
      (M_atom2 q14.2).bind fun q15 =>
      let σ16 := upd3 q15.2 30 0 23 ((q15.2 30 0 23) - (1 : Int32))
      some ((-q15.1), σ16)
def cp_M_atom1 {R : Type} (as : List AV) (σ : Sg) (k : AV → Sg → Option R) : Option R := match as with
  | [.inr (.inr (.inl (g1, i1)))] => match Nat.beq g1 30 && Nat.beq i1 0 with
    | true => (M_atom1 σ).bind fun q => k (vI q.1) q.2
    | false => none
  | _ => none
-- M_term1 ()I
def M_term1_L5 : Nat → Int32 → Sg → Option (Int32 × Sg)
  | 0, _, _ => none
  | n + 1, v1, σ =>
    (M_isSign (42 : Int32) σ).bind fun q1 =>
    if q1.1 = 0 then
      some (v1, q1.2)
    else
      (M_next q1.2).bind fun σ2 =>
      (M_atom1 σ2).bind fun q3 =>
      M_term1_L5 n (v1 * q3.1) q3.2
def M_term1 (σ : Sg) : Option (Int32 × Sg) :=
  (M_atom1 σ).bind fun q4 =>
  M_term1_L5 FU q4.1 q4.2
def cp_M_term1 {R : Type} (as : List AV) (σ : Sg) (k : AV → Sg → Option R) : Option R := match as with
  | [.inr (.inr (.inl (g1, i1)))] => match Nat.beq g1 30 && Nat.beq i1 0 with
    | true => (M_term1 σ).bind fun q => k (vI q.1) q.2
    | false => none
  | _ => none
-- M_added1 ()I
def M_added1_J39 (k5 : Int32 → Sg → Option (Int32 × Sg)) (v1 : Int32) (w0 : Int32) (σ : Sg) : Option (Int32 × Sg) :=
  (M_next σ).bind fun σ1 =>
  (M_term1 σ1).bind fun q2 =>
  if w0 = 0 then
    k5 (v1 - q2.1) q2.2
  else
    k5 (v1 + q2.1) q2.2
def M_added1_J23 (k5 : Int32 → Sg → Option (Int32 × Sg)) (v1 : Int32) (σ : Sg) : Option (Int32 × Sg) :=
  if (lg_cmp (σ 30 0 22).toInt64 (43 : Int64)) = 0 then
    M_added1_J39 k5 v1 (1 : Int32) σ
  else
    M_added1_J39 k5 v1 (0 : Int32) σ
def M_added1_L5 : Nat → Int32 → Sg → Option (Int32 × Sg)
  | 0, _, _ => none
  | n + 1, v1, σ =>
    (M_isSign (43 : Int32) σ).bind fun q3 =>
    if q3.1 = 0 then
      (M_isSign (45 : Int32) q3.2).bind fun q4 =>
      if q4.1 = 0 then
        some (v1, q4.2)
      else
        M_added1_J23 (fun y0 τ => M_added1_L5 n y0 τ) v1 q4.2
    else
      M_added1_J23 (fun y0 τ => M_added1_L5 n y0 τ) v1 q3.2
def M_added1 (σ : Sg) : Option (Int32 × Sg) :=
  (M_term1 σ).bind fun q5 =>
  M_added1_L5 FU q5.1 q5.2
def cp_M_added1 {R : Type} (as : List AV) (σ : Sg) (k : AV → Sg → Option R) : Option R := match as with
  | [.inr (.inr (.inl (g1, i1)))] => match Nat.beq g1 30 && Nat.beq i1 0 with
    | true => (M_added1 σ).bind fun q => k (vI q.1) q.2
    | false => none
  | _ => none
-- M_not1 ()I
def M_not1_J93 (v1 : Int32) (w0 : Int32) (σ : Sg) : Option (Int32 × Sg) :=
  (M_next σ).bind fun σ1 =>
  (M_added1 σ1).bind fun q2 =>
  if w0 = 0 then
    if v1 = q2.1 then
      some ((1 : Int32), q2.2)
    else
      some ((0 : Int32), q2.2)
  else
    if v1 < q2.1 then
      some ((1 : Int32), q2.2)
    else
      some ((0 : Int32), q2.2)
def M_not1_J77 (v1 : Int32) (σ : Sg) : Option (Int32 × Sg) :=
  if (lg_cmp (σ 30 0 22).toInt64 (60 : Int64)) = 0 then
    M_not1_J93 v1 (1 : Int32) σ
  else
    M_not1_J93 v1 (0 : Int32) σ
def M_not1 (σ : Sg) : Option (Int32 × Sg) :=
  (M_isWord (110 : Int32) (111 : Int32) (116 : Int32) (0 : Int32) (0 : Int32) (0 : Int32) (0 : Int32) (0 : Int32) σ).bind fun q3 =>
  if q3.1 = 0 then
    (M_added1 q3.2).bind fun q4 =>
    (M_isSign (60 : Int32) q4.2).bind fun q5 =>
    if q5.1 = 0 then
      (M_isSign (61 : Int32) q5.2).bind fun q6 =>
      if q6.1 = 0 then
        some (q4.1, q6.2)
      else
        M_not1_J77 q4.1 q6.2
    else
      M_not1_J77 q4.1 q5.2
  else
    (M_opens q3.2).bind fun q7 =>
    if q7.1 = 0 then
      some ((0 : Int32), q7.2)
    else
      (M_not2 q7.2).bind fun q8 =>
      let σ9 := upd3 q8.2 30 0 23 ((q8.2 30 0 23) - (1 : Int32))
      if q8.1 = 0 then
        some ((1 : Int32), σ9)
      else
        some ((0 : Int32), σ9)
def cp_M_not1 {R : Type} (as : List AV) (σ : Sg) (k : AV → Sg → Option R) : Option R := match as with
  | [.inr (.inr (.inl (g1, i1)))] => match Nat.beq g1 30 && Nat.beq i1 0 with
    | true => (M_not1 σ).bind fun q => k (vI q.1) q.2
    | false => none
  | _ => none
-- M_both1 ()I
def M_both1_L5 : Nat → Int32 → Sg → Option (Int32 × Sg)
  | 0, _, _ => none
  | n + 1, v1, σ =>
    (M_isWord (97 : Int32) (110 : Int32) (100 : Int32) (0 : Int32) (0 : Int32) (0 : Int32) (0 : Int32) (0 : Int32) σ).bind fun q1 =>
    if q1.1 = 0 then
      some (v1, q1.2)
    else
      (M_next q1.2).bind fun σ2 =>
      (M_not1 σ2).bind fun q3 =>
      if v1 = 0 then
        M_both1_L5 n (0 : Int32) q3.2
      else
        if q3.1 = 0 then
          M_both1_L5 n (0 : Int32) q3.2
        else
          M_both1_L5 n (1 : Int32) q3.2
def M_both1 (σ : Sg) : Option (Int32 × Sg) :=
  (M_not1 σ).bind fun q4 =>
  M_both1_L5 FU q4.1 q4.2
def cp_M_both1 {R : Type} (as : List AV) (σ : Sg) (k : AV → Sg → Option R) : Option R := match as with
  | [.inr (.inr (.inl (g1, i1)))] => match Nat.beq g1 30 && Nat.beq i1 0 with
    | true => (M_both1 σ).bind fun q => k (vI q.1) q.2
    | false => none
  | _ => none
-- M_either1 ()I
def M_either1_L5 : Nat → Int32 → Sg → Option (Int32 × Sg)
  | 0, _, _ => none
  | n + 1, v1, σ =>
    (M_isWord (111 : Int32) (114 : Int32) (0 : Int32) (0 : Int32) (0 : Int32) (0 : Int32) (0 : Int32) (0 : Int32) σ).bind fun q1 =>
    if q1.1 = 0 then
      some (v1, q1.2)
    else
      (M_next q1.2).bind fun σ2 =>
      (M_both1 σ2).bind fun q3 =>
      if v1 = 0 then
        if q3.1 = 0 then
          M_either1_L5 n (0 : Int32) q3.2
        else
          M_either1_L5 n (1 : Int32) q3.2
      else
        M_either1_L5 n (1 : Int32) q3.2
def M_either1 (σ : Sg) : Option (Int32 × Sg) :=
  (M_both1 σ).bind fun q4 =>
  M_either1_L5 FU q4.1 q4.2
def cp_M_either1 {R : Type} (as : List AV) (σ : Sg) (k : AV → Sg → Option R) : Option R := match as with
  | [.inr (.inr (.inl (g1, i1)))] => match Nat.beq g1 30 && Nat.beq i1 0 with
    | true => (M_either1 σ).bind fun q => k (vI q.1) q.2
    | false => none
  | _ => none
-- M_atom0 ()I
def M_atom0_J123 (v1 : Int32) (σ : Sg) : Option (Int32 × Sg) :=
  if (σ 30 0 24) = 0 then
    if (σ 30 0 20) = (1 : Int32) then
      (M_name σ).bind fun q3 =>
      if (q3.2 30 0 24) = 0 then
        (M_next q3.2).bind fun σ4 =>
        some (q3.1, σ4)
      else
        some (q3.1, q3.2)
    else
      (M_fail σ).bind fun σ2 =>
      some (v1, σ2)
  else
    (M_fail σ).bind fun σ1 =>
    some (v1, σ1)
def M_atom0_J71 (v1 : Int32) (σ : Sg) : Option (Int32 × Sg) :=
  let σ5 := upd3 σ 30 0 23 ((σ 30 0 23) - (1 : Int32))
  if (σ5 30 0 24) = 0 then
    (M_next σ5).bind fun σ6 =>
    some (v1, σ6)
  else
    some (v1, σ5)
def M_atom0 (σ : Sg) : Option (Int32 × Sg) :=
  (M_isSign (45 : Int32) σ).bind fun q7 =>
  if q7.1 = 0 then
    (M_isSign (40 : Int32) q7.2).bind fun q8 =>
    if q8.1 = 0 then
      if (q8.2 30 0 24) = 0 then
        if (q8.2 30 0 20) = (2 : Int32) then
          (M_next q8.2).bind fun σ9 =>
          some (((q8.2 30 0 22).toInt64).toInt32, σ9)
        else
          M_atom0_J123 (0 : Int32) q8.2
      else
        M_atom0_J123 (0 : Int32) q8.2
    else
      (M_opens q8.2).bind fun q10 =>
      if q10.1 = 0 then
        some ((0 : Int32), q10.2)
      else
        (M_either1 q10.2).bind fun q11 =>
        (M_isSign (41 : Int32) q11.2).bind fun q12 =>
        if q12.1 = 0 then
          (M_fail q12.2).bind fun σ13 =>
          M_atom0_J71 q11.1 σ13
        else
          M_atom0_J71 q11.1 q12.2
  else
    (M_opens q7.2).bind fun q14 =>
    if q14.1 = 0 then
      some ((0 : Int32), q14.2)
    else
      (M_atom1 q14.2).bind fun q15 =>
      let σ16 := upd3 q15.2 30 0 23 ((q15.2 30 0 23) - (1 : Int32))
      some ((-q15.1), σ16)
def cp_M_atom0 {R : Type} (as : List AV) (σ : Sg) (k : AV → Sg → Option R) : Option R := match as with
  | [.inr (.inr (.inl (g1, i1)))] => match Nat.beq g1 30 && Nat.beq i1 0 with
    | true => (M_atom0 σ).bind fun q => k (vI q.1) q.2
    | false => none
  | _ => none
-- M_term0 ()I
def M_term0_L5 : Nat → Int32 → Sg → Option (Int32 × Sg)
  | 0, _, _ => none
  | n + 1, v1, σ =>
    (M_isSign (42 : Int32) σ).bind fun q1 =>
    if q1.1 = 0 then
      some (v1, q1.2)
    else
      (M_next q1.2).bind fun σ2 =>
      (M_atom0 σ2).bind fun q3 =>
      M_term0_L5 n (v1 * q3.1) q3.2
def M_term0 (σ : Sg) : Option (Int32 × Sg) :=
  (M_atom0 σ).bind fun q4 =>
  M_term0_L5 FU q4.1 q4.2
def cp_M_term0 {R : Type} (as : List AV) (σ : Sg) (k : AV → Sg → Option R) : Option R := match as with
  | [.inr (.inr (.inl (g1, i1)))] => match Nat.beq g1 30 && Nat.beq i1 0 with
    | true => (M_term0 σ).bind fun q => k (vI q.1) q.2
    | false => none
  | _ => none
-- M_added0 ()I
def M_added0_J39 (k5 : Int32 → Sg → Option (Int32 × Sg)) (v1 : Int32) (w0 : Int32) (σ : Sg) : Option (Int32 × Sg) :=
  (M_next σ).bind fun σ1 =>
  (M_term0 σ1).bind fun q2 =>
  if w0 = 0 then
    k5 (v1 - q2.1) q2.2
  else
    k5 (v1 + q2.1) q2.2
def M_added0_J23 (k5 : Int32 → Sg → Option (Int32 × Sg)) (v1 : Int32) (σ : Sg) : Option (Int32 × Sg) :=
  if (lg_cmp (σ 30 0 22).toInt64 (43 : Int64)) = 0 then
    M_added0_J39 k5 v1 (1 : Int32) σ
  else
    M_added0_J39 k5 v1 (0 : Int32) σ
def M_added0_L5 : Nat → Int32 → Sg → Option (Int32 × Sg)
  | 0, _, _ => none
  | n + 1, v1, σ =>
    (M_isSign (43 : Int32) σ).bind fun q3 =>
    if q3.1 = 0 then
      (M_isSign (45 : Int32) q3.2).bind fun q4 =>
      if q4.1 = 0 then
        some (v1, q4.2)
      else
        M_added0_J23 (fun y0 τ => M_added0_L5 n y0 τ) v1 q4.2
    else
      M_added0_J23 (fun y0 τ => M_added0_L5 n y0 τ) v1 q3.2
def M_added0 (σ : Sg) : Option (Int32 × Sg) :=
  (M_term0 σ).bind fun q5 =>
  M_added0_L5 FU q5.1 q5.2
def cp_M_added0 {R : Type} (as : List AV) (σ : Sg) (k : AV → Sg → Option R) : Option R := match as with
  | [.inr (.inr (.inl (g1, i1)))] => match Nat.beq g1 30 && Nat.beq i1 0 with
    | true => (M_added0 σ).bind fun q => k (vI q.1) q.2
    | false => none
  | _ => none
-- M_not0 ()I
def M_not0_J93 (v1 : Int32) (w0 : Int32) (σ : Sg) : Option (Int32 × Sg) :=
  (M_next σ).bind fun σ1 =>
  (M_added0 σ1).bind fun q2 =>
  if w0 = 0 then
    if v1 = q2.1 then
      some ((1 : Int32), q2.2)
    else
      some ((0 : Int32), q2.2)
  else
    if v1 < q2.1 then
      some ((1 : Int32), q2.2)
    else
      some ((0 : Int32), q2.2)
def M_not0_J77 (v1 : Int32) (σ : Sg) : Option (Int32 × Sg) :=
  if (lg_cmp (σ 30 0 22).toInt64 (60 : Int64)) = 0 then
    M_not0_J93 v1 (1 : Int32) σ
  else
    M_not0_J93 v1 (0 : Int32) σ
def M_not0 (σ : Sg) : Option (Int32 × Sg) :=
  (M_isWord (110 : Int32) (111 : Int32) (116 : Int32) (0 : Int32) (0 : Int32) (0 : Int32) (0 : Int32) (0 : Int32) σ).bind fun q3 =>
  if q3.1 = 0 then
    (M_added0 q3.2).bind fun q4 =>
    (M_isSign (60 : Int32) q4.2).bind fun q5 =>
    if q5.1 = 0 then
      (M_isSign (61 : Int32) q5.2).bind fun q6 =>
      if q6.1 = 0 then
        some (q4.1, q6.2)
      else
        M_not0_J77 q4.1 q6.2
    else
      M_not0_J77 q4.1 q5.2
  else
    (M_opens q3.2).bind fun q7 =>
    if q7.1 = 0 then
      some ((0 : Int32), q7.2)
    else
      (M_not1 q7.2).bind fun q8 =>
      let σ9 := upd3 q8.2 30 0 23 ((q8.2 30 0 23) - (1 : Int32))
      if q8.1 = 0 then
        some ((1 : Int32), σ9)
      else
        some ((0 : Int32), σ9)
def cp_M_not0 {R : Type} (as : List AV) (σ : Sg) (k : AV → Sg → Option R) : Option R := match as with
  | [.inr (.inr (.inl (g1, i1)))] => match Nat.beq g1 30 && Nat.beq i1 0 with
    | true => (M_not0 σ).bind fun q => k (vI q.1) q.2
    | false => none
  | _ => none
-- M_both0 ()I
def M_both0_L5 : Nat → Int32 → Sg → Option (Int32 × Sg)
  | 0, _, _ => none
  | n + 1, v1, σ =>
    (M_isWord (97 : Int32) (110 : Int32) (100 : Int32) (0 : Int32) (0 : Int32) (0 : Int32) (0 : Int32) (0 : Int32) σ).bind fun q1 =>
    if q1.1 = 0 then
      some (v1, q1.2)
    else
      (M_next q1.2).bind fun σ2 =>
      (M_not0 σ2).bind fun q3 =>
      if v1 = 0 then
        M_both0_L5 n (0 : Int32) q3.2
      else
        if q3.1 = 0 then
          M_both0_L5 n (0 : Int32) q3.2
        else
          M_both0_L5 n (1 : Int32) q3.2
def M_both0 (σ : Sg) : Option (Int32 × Sg) :=
  (M_not0 σ).bind fun q4 =>
  M_both0_L5 FU q4.1 q4.2
def cp_M_both0 {R : Type} (as : List AV) (σ : Sg) (k : AV → Sg → Option R) : Option R := match as with
  | [.inr (.inr (.inl (g1, i1)))] => match Nat.beq g1 30 && Nat.beq i1 0 with
    | true => (M_both0 σ).bind fun q => k (vI q.1) q.2
    | false => none
  | _ => none
-- M_either0 ()I
def M_either0_L5 : Nat → Int32 → Sg → Option (Int32 × Sg)
  | 0, _, _ => none
  | n + 1, v1, σ =>
    (M_isWord (111 : Int32) (114 : Int32) (0 : Int32) (0 : Int32) (0 : Int32) (0 : Int32) (0 : Int32) (0 : Int32) σ).bind fun q1 =>
    if q1.1 = 0 then
      some (v1, q1.2)
    else
      (M_next q1.2).bind fun σ2 =>
      (M_both0 σ2).bind fun q3 =>
      if v1 = 0 then
        if q3.1 = 0 then
          M_either0_L5 n (0 : Int32) q3.2
        else
          M_either0_L5 n (1 : Int32) q3.2
      else
        M_either0_L5 n (1 : Int32) q3.2
def M_either0 (σ : Sg) : Option (Int32 × Sg) :=
  (M_both0 σ).bind fun q4 =>
  M_either0_L5 FU q4.1 q4.2
def cp_M_either0 {R : Type} (as : List AV) (σ : Sg) (k : AV → Sg → Option R) : Option R := match as with
  | [.inr (.inr (.inl (g1, i1)))] => match Nat.beq g1 30 && Nat.beq i1 0 with
    | true => (M_either0 σ).bind fun q => k (vI q.1) q.2
    | false => none
  | _ => none
-- M_part (Z)I
def M_part_J48 (v2 : Int32) (σ : Sg) : Option (Int32 × Sg) :=
  if (σ 30 0 24) = 0 then
    (M_next σ).bind fun σ1 =>
    some (v2, σ1)
  else
    some (v2, σ)
def M_part_J34 (w0 : Int32) (σ : Sg) : Option (Int32 × Sg) :=
  (M_isSign (59 : Int32) σ).bind fun q2 =>
  if q2.1 = 0 then
    (M_fail q2.2).bind fun σ3 =>
    M_part_J48 w0 σ3
  else
    M_part_J48 w0 q2.2
def M_part_J19 (σ : Sg) : Option (Int32 × Sg) :=
  if (σ 30 0 24) = 0 then
    (M_either0 σ).bind fun q4 =>
    M_part_J34 q4.1 q4.2
  else
    M_part_J34 (0 : Int32) σ
def M_part_J8 (σ : Sg) : Option (Int32 × Sg) :=
  if (σ 30 0 24) = 0 then
    (M_next σ).bind fun σ5 =>
    M_part_J19  σ5
  else
    M_part_J19  σ
def M_part (p1 : Int32) (σ : Sg) : Option (Int32 × Sg) :=
  if p1 = 0 then
    (M_fail σ).bind fun σ6 =>
    M_part_J8  σ6
  else
    M_part_J8  σ
def cp_M_part {R : Type} (as : List AV) (σ : Sg) (k : AV → Sg → Option R) : Option R := match as with
  | [.inr (.inr (.inl (g1, i1))), .inl p1] => match Nat.beq g1 30 && Nat.beq i1 0 with
    | true => (M_part p1 σ).bind fun q => k (vI q.1) q.2
    | false => none
  | _ => none
-- M_read (II)I
def M_read_J146 (v2 : Int32) (v3 : Int32) (v4 : Int32) (v5 : Int32) (σ : Sg) : Option (Int32 × Sg) :=
  if v2 = 0 then
    some (v3, σ)
  else
    if v2 = (1 : Int32) then
      some (v4, σ)
    else
      some (v5, σ)
def M_read_J126 (v2 : Int32) (v3 : Int32) (v4 : Int32) (w0 : Int32) (σ : Sg) : Option (Int32 × Sg) :=
  if (σ 30 0 24) = 0 then
    if (σ 30 0 20) = 0 then
      M_read_J146 v2 v3 v4 w0 σ
    else
      (M_fail σ).bind fun σ1 =>
      M_read_J146 v2 v3 v4 w0 σ1
  else
    M_read_J146 v2 v3 v4 w0 σ
def M_read_J92 (v2 : Int32) (v3 : Int32) (w0 : Int32) (σ : Sg) : Option (Int32 × Sg) :=
  if (σ 30 0 24) = 0 then
    (M_isWord (99 : Int32) (111 : Int32) (115 : Int32) (116 : Int32) (115 : Int32) (0 : Int32) (0 : Int32) (0 : Int32) σ).bind fun q2 =>
    (M_part q2.1 q2.2).bind fun q3 =>
    M_read_J126 v2 v3 w0 q3.1 q3.2
  else
    M_read_J126 v2 v3 w0 (0 : Int32) σ
def M_read (p1 : Int32) (p2 : Int32) (σ : Sg) : Option (Int32 × Sg) :=
  let σ4 := upd3 σ 30 0 17 ((160 : Int32) * p1)
  if p1 < 0 then none else if 6 ≤ p1.toNatClampNeg then none else
  let σ5 := upd3 σ4 30 0 18 (σ4 32 0 p1.toNatClampNeg)
  let σ6 := upd3 σ5 30 0 19 (0 : Int32)
  let σ7 := upd3 σ6 30 0 23 (0 : Int32)
  let σ8 := upd3 σ7 30 0 24 (0 : Int32)
  (M_next σ8).bind fun σ9 =>
  (M_isWord (101 : Int32) (97 : Int32) (115 : Int32) (101 : Int32) (115 : Int32) (0 : Int32) (0 : Int32) (0 : Int32) σ9).bind fun q10 =>
  (M_part q10.1 q10.2).bind fun q11 =>
  if (q11.2 30 0 24) = 0 then
    (M_isWord (102 : Int32) (105 : Int32) (110 : Int32) (101 : Int32) (115 : Int32) (0 : Int32) (0 : Int32) (0 : Int32) q11.2).bind fun q12 =>
    (M_part q12.1 q12.2).bind fun q13 =>
    M_read_J92 p2 q11.1 q13.1 q13.2
  else
    M_read_J92 p2 q11.1 (0 : Int32) q11.2
def cp_M_read {R : Type} (as : List AV) (σ : Sg) (k : AV → Sg → Option R) : Option R := match as with
  | [.inr (.inr (.inl (g1, i1))), .inl p1, .inl p2] => match Nat.beq g1 30 && Nat.beq i1 0 with
    | true => (M_read p1 p2 σ).bind fun q => k (vI q.1) q.2
    | false => none
  | _ => none
-- M_says (IIII)I
def M_says (p1 : Int32) (p2 : Int32) (p3 : Int32) (p4 : Int32) (σ : Sg) : Option (Int32 × Sg) :=
  if (((3 : Int32) * p2) + (1 : Int32)) < 0 then none else if 24 ≤ (((3 : Int32) * p2) + (1 : Int32)).toNatClampNeg then none else
  let σ1 := upd3 σ 30 0 11 (σ 36 0 (((3 : Int32) * p2) + (1 : Int32)).toNatClampNeg)
  let σ2 := upd3 σ1 30 0 12 p3
  if ((3 : Int32) * p2) < 0 then none else if 24 ≤ ((3 : Int32) * p2).toNatClampNeg then none else
  let σ3 := upd3 σ2 30 0 13 (σ2 36 0 ((3 : Int32) * p2).toNatClampNeg)
  let σ4 := upd3 σ3 30 0 14 p4
  if (((3 : Int32) * p2) + (2 : Int32)) < 0 then none else if 24 ≤ (((3 : Int32) * p2) + (2 : Int32)).toNatClampNeg then none else
  let σ5 := upd3 σ4 30 0 15 (σ4 36 0 (((3 : Int32) * p2) + (2 : Int32)).toNatClampNeg)
  (M_offOf p2 p3 σ5).bind fun q6 =>
  let σ7 := upd3 q6.2 30 0 16 q6.1
  (M_read (σ7 30 0 4) p1 σ7).bind fun q8 =>
  (M_within q8.1 (0 : Int32) (99 : Int32) q8.2).bind fun q9 =>
  some (q9.1, q9.2)
def cp_M_says {R : Type} (as : List AV) (σ : Sg) (k : AV → Sg → Option R) : Option R := match as with
  | [.inr (.inr (.inl (g1, i1))), .inl p1, .inl p2, .inl p3, .inl p4] => match Nat.beq g1 30 && Nat.beq i1 0 with
    | true => (M_says p1 p2 p3 p4 σ).bind fun q => k (vI q.1) q.2
    | false => none
  | _ => none
-- M_fits (III)Z
def M_fits_J101 (v4 : Int32) (v7 : Int32) (σ : Sg) : Option (Int32 × Sg) :=
  if v4 = (2 : Int32) then
    some ((v7 &&& 1), σ)
  else
    if v7 = 0 then
      some ((1 : Int32), σ)
    else
      some ((0 : Int32), σ)
def M_fits_J62 (v2 : Int32) (v4 : Int32) (v5 : Int32) (v6 : Int32) (σ : Sg) : Option (Int32 × Sg) :=
  if v5 < ((2 : Int32) * v6) then
    some ((0 : Int32), σ)
  else
    if v4 = (1 : Int32) then
      some ((1 : Int32), σ)
    else
      if v2 < (50 : Int32) then
        some ((1 : Int32), σ)
      else
        some ((0 : Int32), σ)
def M_fits_J48 (v1 : Int32) (v2 : Int32) (v4 : Int32) (v5 : Int32) (v6 : Int32) (w0 : Int32) (σ : Sg) : Option (Int32 × Sg) :=
  if v4 = (1 : Int32) then
    M_fits_J62 v2 v4 v5 v6 σ
  else
    if v4 = (3 : Int32) then
      M_fits_J62 v2 v4 v5 v6 σ
    else
      if v4 = (2 : Int32) then
        M_fits_J101 v4 w0 σ
      else
        if v4 = (4 : Int32) then
          M_fits_J101 v4 w0 σ
        else
          if v5 < v6 then
            if v4 = (5 : Int32) then
              if ((3 : Int32) * v1) < 0 then none else if 24 ≤ ((3 : Int32) * v1).toNatClampNeg then none else
              if (v2 - v2 / (10 : Int32) * (10 : Int32)) = (σ 36 0 ((3 : Int32) * v1).toNatClampNeg) then
                some ((1 : Int32), σ)
              else
                some ((0 : Int32), σ)
            else
              some ((0 : Int32), σ)
          else
            some ((1 : Int32), σ)
def M_fits (p1 : Int32) (p2 : Int32) (p3 : Int32) (σ : Sg) : Option (Int32 × Sg) :=
  if p1 = (-1 : Int32) then
    some ((0 : Int32), σ)
  else
    if p1 < 0 then none else if 8 ≤ p1.toNatClampNeg then none else
    (M_says (0 : Int32) p1 p2 p3 σ).bind fun q1 =>
    (M_offOf p1 p2 q1.2).bind fun q2 =>
    if ((10 : Int32) + q1.1) < q2.1 then
      M_fits_J48 p1 p2 (σ 35 0 p1.toNatClampNeg) q1.1 q2.1 (0 : Int32) q2.2
    else
      M_fits_J48 p1 p2 (σ 35 0 p1.toNatClampNeg) q1.1 q2.1 (1 : Int32) q2.2
def cp_M_fits {R : Type} (as : List AV) (σ : Sg) (k : AV → Sg → Option R) : Option R := match as with
  | [.inr (.inr (.inl (g1, i1))), .inl p1, .inl p2, .inl p3] => match Nat.beq g1 30 && Nat.beq i1 0 with
    | true => (M_fits p1 p2 p3 σ).bind fun q => k (vI q.1) q.2
    | false => none
  | _ => none
-- M_rightAt (II)I
def M_rightAt_L5 : Nat → Int32 → Int32 → Int32 → Int32 → Sg → Option (Int32 × Sg)
  | 0, _, _, _, _, _ => none
  | n + 1, v1, v2, v3, v4, σ =>
    if v4 < (σ 30 0 10) then
      if (((24 : Int32) * v1) + v2) < 0 then none else if 72 ≤ (((24 : Int32) * v1) + v2).toNatClampNeg then none else
      (M_fits v4 (σ 34 0 (((24 : Int32) * v1) + v2).toNatClampNeg) v2 σ).bind fun q1 =>
      if q1.1 = 0 then
        M_rightAt_L5 n v1 v2 (v3 ||| ((0 : Int32) <<< (v4 &&& 31))) (v4 + 1) q1.2
      else
        M_rightAt_L5 n v1 v2 (v3 ||| ((1 : Int32) <<< (v4 &&& 31))) (v4 + 1) q1.2
    else
      some (v3, σ)
def M_rightAt (p1 : Int32) (p2 : Int32) (σ : Sg) : Option (Int32 × Sg) :=
  M_rightAt_L5 FU p1 p2 (0 : Int32) (0 : Int32) σ
def cp_M_rightAt {R : Type} (as : List AV) (σ : Sg) (k : AV → Sg → Option R) : Option R := match as with
  | [.inr (.inr (.inl (g1, i1))), .inl p1, .inl p2] => match Nat.beq g1 30 && Nat.beq i1 0 with
    | true => (M_rightAt p1 p2 σ).bind fun q => k (vI q.1) q.2
    | false => none
  | _ => none
-- M_hoursBy (II)I
def M_hoursBy_L5 : Nat → Int32 → Int32 → Int32 → Int32 → Sg → Option (Int32 × Sg)
  | 0, _, _, _, _, _ => none
  | n + 1, v1, v2, v3, v4, σ =>
    if v4 < (24 : Int32) then
      if (((24 : Int32) * v2) + v4) < 0 then none else if 72 ≤ (((24 : Int32) * v2) + v4).toNatClampNeg then none else
      (M_fits v1 (σ 34 0 (((24 : Int32) * v2) + v4).toNatClampNeg) v4 σ).bind fun q1 =>
      if q1.1 = 0 then
        M_hoursBy_L5 n v1 v2 (v3 + (0 : Int32)) (v4 + 1) q1.2
      else
        M_hoursBy_L5 n v1 v2 (v3 + (1 : Int32)) (v4 + 1) q1.2
    else
      some (v3, σ)
def M_hoursBy (p1 : Int32) (p2 : Int32) (σ : Sg) : Option (Int32 × Sg) :=
  M_hoursBy_L5 FU p1 p2 (0 : Int32) (0 : Int32) σ
def cp_M_hoursBy {R : Type} (as : List AV) (σ : Sg) (k : AV → Sg → Option R) : Option R := match as with
  | [.inr (.inr (.inl (g1, i1))), .inl p1, .inl p2] => match Nat.beq g1 30 && Nat.beq i1 0 with
    | true => (M_hoursBy p1 p2 σ).bind fun q => k (vI q.1) q.2
    | false => none
  | _ => none
-- M_hoursOf (I)I
def M_hoursOf_L4 : Nat → Int32 → Int32 → Int32 → Sg → Option (Int32 × Sg)
  | 0, _, _, _, _ => none
  | n + 1, v1, v2, v3, σ =>
    if v3 < (3 : Int32) then
      (M_hoursBy v1 v3 σ).bind fun q1 =>
      M_hoursOf_L4 n v1 (v2 + q1.1) (v3 + 1) q1.2
    else
      some (v2, σ)
def M_hoursOf (p1 : Int32) (σ : Sg) : Option (Int32 × Sg) :=
  M_hoursOf_L4 FU p1 (0 : Int32) (0 : Int32) σ
def cp_M_hoursOf {R : Type} (as : List AV) (σ : Sg) (k : AV → Sg → Option R) : Option R := match as with
  | [.inr (.inr (.inl (g1, i1))), .inl p1] => match Nat.beq g1 30 && Nat.beq i1 0 with
    | true => (M_hoursOf p1 σ).bind fun q => k (vI q.1) q.2
    | false => none
  | _ => none
-- M_told (II)I
def M_told (p1 : Int32) (p2 : Int32) (σ : Sg) : Option (Int32 × Sg) :=
  (M_in (p2).toInt64 (0 : Int64) (6 : Int64) σ).bind fun q1 =>
  if q1.1 = 0 then
    some ((-2 : Int32), q1.2)
  else
    (M_isOf p2 p1 q1.2).bind fun q2 =>
    if q2.1 = 0 then
      some ((-2 : Int32), q2.2)
    else
      if p2 < (4 : Int32) then
        if p2 = 0 then
          (M_placeOf p1 q2.2).bind fun q5 =>
          if q5.1 < 0 then none else if 72 ≤ q5.1.toNatClampNeg then none else
          some ((q5.2 34 0 q5.1.toNatClampNeg), q5.2)
        else
          if ((((3 : Int32) * p1) + p2) - (1 : Int32)) < 0 then none else if 24 ≤ ((((3 : Int32) * p1) + p2) - (1 : Int32)).toNatClampNeg then none else
          some ((q2.2 36 0 ((((3 : Int32) * p1) + p2) - (1 : Int32)).toNatClampNeg), q2.2)
      else
        if p2 = (4 : Int32) then
          if p1 < 0 then none else if 8 ≤ p1.toNatClampNeg then none else
          some ((q2.2 35 0 p1.toNatClampNeg), q2.2)
        else
          if p2 = (5 : Int32) then
            (M_rightAt (p1 / (100 : Int32)) (p1 - p1 / (100 : Int32) * (100 : Int32)) q2.2).bind fun q4 =>
            some (q4.1, q4.2)
          else
            (M_hoursOf p1 q2.2).bind fun q3 =>
            some (q3.1, q3.2)
def cp_M_told {R : Type} (as : List AV) (σ : Sg) (k : AV → Sg → Option R) : Option R := match as with
  | [.inr (.inr (.inl (g1, i1))), .inl p1, .inl p2] => match Nat.beq g1 30 && Nat.beq i1 0 with
    | true => (M_told p1 p2 σ).bind fun q => k (vI q.1) q.2
    | false => none
  | _ => none
-- M_set (III)I
def M_set (p1 : Int32) (p2 : Int32) (p3 : Int32) (σ : Sg) : Option (Int32 × Sg) :=
  (M_in (p1).toInt64 (0 : Int64) (3 : Int64) σ).bind fun q1 =>
  if q1.1 = 0 then
    some ((-2 : Int32), q1.2)
  else
    (M_isOf p1 p2 q1.2).bind fun q2 =>
    if q2.1 = 0 then
      some ((-2 : Int32), q2.2)
    else
      (M_mostOf p1 q2.2).bind fun q3 =>
      (M_in (p3).toInt64 (0 : Int64) (q3.1).toInt64 q3.2).bind fun q4 =>
      if q4.1 = 0 then
        some ((-2 : Int32), q4.2)
      else
        (M_told p2 p1 q4.2).bind fun q5 =>
        (M_lays p1 p2 p3 q5.2).bind fun σ6 =>
        some (q5.1, σ6)
def cp_M_set {R : Type} (as : List AV) (σ : Sg) (k : AV → Sg → Option R) : Option R := match as with
  | [.inr (.inr (.inl (g1, i1))), .inl p1, .inl p2, .inl p3] => match Nat.beq g1 30 && Nat.beq i1 0 with
    | true => (M_set p1 p2 p3 σ).bind fun q => k (vI q.1) q.2
    | false => none
  | _ => none
-- M_coat (III)I
def M_coat (p1 : Int32) (p2 : Int32) (p3 : Int32) (σ : Sg) : Option (Int32 × Sg) :=
  (M_in (p1).toInt64 (0 : Int64) (5 : Int64) σ).bind fun q1 =>
  if q1.1 = 0 then
    some ((-2 : Int32), q1.2)
  else
    (M_in (p2).toInt64 (0 : Int64) (9 : Int64) q1.2).bind fun q2 =>
    if q2.1 = 0 then
      some ((-2 : Int32), q2.2)
    else
      (M_in (p3).toInt64 (0 : Int64) (99 : Int64) q2.2).bind fun q3 =>
      if q3.1 = 0 then
        some ((-2 : Int32), q3.2)
      else
        if (q3.2 30 0 10) = (8 : Int32) then
          some ((-4 : Int32), q3.2)
        else
          if (q3.2 30 0 10) < 0 then none else if 8 ≤ (q3.2 30 0 10).toNatClampNeg then none else
          let σ4 := upd3 q3.2 35 0 ((q3.2 30 0 10).toNatClampNeg) p1
          if ((3 : Int32) * (σ4 30 0 10)) < 0 then none else if 24 ≤ ((3 : Int32) * (σ4 30 0 10)).toNatClampNeg then none else
          let σ5 := upd3 σ4 36 0 (((3 : Int32) * (σ4 30 0 10)).toNatClampNeg) p2
          if (((3 : Int32) * (σ5 30 0 10)) + (1 : Int32)) < 0 then none else if 24 ≤ (((3 : Int32) * (σ5 30 0 10)) + (1 : Int32)).toNatClampNeg then none else
          let σ6 := upd3 σ5 36 0 ((((3 : Int32) * (σ5 30 0 10)) + (1 : Int32)).toNatClampNeg) p3
          if (((3 : Int32) * (σ6 30 0 10)) + (2 : Int32)) < 0 then none else if 24 ≤ (((3 : Int32) * (σ6 30 0 10)) + (2 : Int32)).toNatClampNeg then none else
          let σ7 := upd3 σ6 36 0 ((((3 : Int32) * (σ6 30 0 10)) + (2 : Int32)).toNatClampNeg) (0 : Int32)
          let σ8 := upd3 σ7 30 0 10 ((σ7 30 0 10) + (1 : Int32))
          some (((σ8 30 0 10) - (1 : Int32)), σ8)
def cp_M_coat {R : Type} (as : List AV) (σ : Sg) (k : AV → Sg → Option R) : Option R := match as with
  | [.inr (.inr (.inl (g1, i1))), .inl p1, .inl p2, .inl p3] => match Nat.beq g1 30 && Nat.beq i1 0 with
    | true => (M_coat p1 p2 p3 σ).bind fun q => k (vI q.1) q.2
    | false => none
  | _ => none
-- M_feed (I)I
def M_feed (p1 : Int32) (σ : Sg) : Option (Int32 × Sg) :=
  (M_in (p1).toInt64 (0 : Int64) (255 : Int64) σ).bind fun q1 =>
  if q1.1 = 0 then
    some ((-2 : Int32), q1.2)
  else
    if (q1.2 30 0 6) = (160 : Int32) then
      some ((-4 : Int32), q1.2)
    else
      if (q1.2 30 0 6) < 0 then none else if 160 ≤ (q1.2 30 0 6).toNatClampNeg then none else
      let σ2 := upd3 q1.2 33 0 ((q1.2 30 0 6).toNatClampNeg) p1
      let σ3 := upd3 σ2 30 0 6 ((σ2 30 0 6) + (1 : Int32))
      some ((σ3 30 0 6), σ3)
def cp_M_feed {R : Type} (as : List AV) (σ : Sg) (k : AV → Sg → Option R) : Option R := match as with
  | [.inr (.inr (.inl (g1, i1))), .inl p1] => match Nat.beq g1 30 && Nat.beq i1 0 with
    | true => (M_feed p1 σ).bind fun q => k (vI q.1) q.2
    | false => none
  | _ => none
-- M_text ()I
def M_text_L14 : Nat → Int32 → Sg → Option (Int32 × Sg)
  | 0, _, _ => none
  | n + 1, v1, σ =>
    if v1 < (σ 30 0 6) then
      if v1 < 0 then none else if 160 ≤ v1.toNatClampNeg then none else
      if (((160 : Int32) * (σ 30 0 3)) + v1) < 0 then none else if 960 ≤ (((160 : Int32) * (σ 30 0 3)) + v1).toNatClampNeg then none else
      let σ5 := upd3 σ 31 0 ((((160 : Int32) * (σ 30 0 3)) + v1).toNatClampNeg) (σ 33 0 v1.toNatClampNeg)
      M_text_L14 n (v1 + 1) σ5
    else
      if (σ 30 0 3) < 0 then none else if 6 ≤ (σ 30 0 3).toNatClampNeg then none else
      let σ1 := upd3 σ 32 0 ((σ 30 0 3).toNatClampNeg) (σ 30 0 6)
      let σ2 := upd3 σ1 30 0 6 (0 : Int32)
      (M_read (σ2 30 0 3) (0 : Int32) σ2).bind fun q3 =>
      if (q3.2 30 0 24) = 0 then
        let σ4 := upd3 q3.2 30 0 3 ((q3.2 30 0 3) + (1 : Int32))
        some (((σ4 30 0 3) - (1 : Int32)), σ4)
      else
        some (((-100 : Int32) - (q3.2 30 0 25)), q3.2)
def M_text (σ : Sg) : Option (Int32 × Sg) :=
  if (σ 30 0 3) = (6 : Int32) then
    some ((-4 : Int32), σ)
  else
    M_text_L14 FU (0 : Int32) σ
def cp_M_text {R : Type} (as : List AV) (σ : Sg) (k : AV → Sg → Option R) : Option R := match as with
  | [.inr (.inr (.inl (g1, i1)))] => match Nat.beq g1 30 && Nat.beq i1 0 with
    | true => (M_text σ).bind fun q => k (vI q.1) q.2
    | false => none
  | _ => none
-- M_force (I)I
def M_force (p1 : Int32) (σ : Sg) : Option (Int32 × Sg) :=
  (M_in (p1).toInt64 (0 : Int64) (((σ 30 0 3) - (1 : Int32))).toInt64 σ).bind fun q1 =>
  if q1.1 = 0 then
    some ((-2 : Int32), q1.2)
  else
    let σ2 := upd3 q1.2 30 0 4 p1
    some ((q1.2 30 0 4), σ2)
def cp_M_force {R : Type} (as : List AV) (σ : Sg) (k : AV → Sg → Option R) : Option R := match as with
  | [.inr (.inr (.inl (g1, i1))), .inl p1] => match Nat.beq g1 30 && Nat.beq i1 0 with
    | true => (M_force p1 σ).bind fun q => k (vI q.1) q.2
    | false => none
  | _ => none
-- M_fineOf (III)I
def M_fineOf (p1 : Int32) (p2 : Int32) (p3 : Int32) (σ : Sg) : Option (Int32 × Sg) :=
  if p1 = (-1 : Int32) then
    some ((99 : Int32), σ)
  else
    if p1 < 0 then none else if 8 ≤ p1.toNatClampNeg then none else
    if (σ 35 0 p1.toNatClampNeg) = (5 : Int32) then
      some ((99 : Int32), σ)
    else
      if p1 < 0 then none else if 8 ≤ p1.toNatClampNeg then none else
      if (σ 35 0 p1.toNatClampNeg) = (4 : Int32) then
        if ((3 : Int32) * p1) < 0 then none else if 24 ≤ ((3 : Int32) * p1).toNatClampNeg then none else
        some ((σ 36 0 ((3 : Int32) * p1).toNatClampNeg), σ)
      else
        (M_says (1 : Int32) p1 p2 p3 σ).bind fun q1 =>
        if (σ 35 0 p1.toNatClampNeg) = (1 : Int32) then
          (M_within (q1.1 + (2 : Int32)) (0 : Int32) (99 : Int32) q1.2).bind fun q5 =>
          some (q5.1, q5.2)
        else
          if (σ 35 0 p1.toNatClampNeg) = (3 : Int32) then
            (M_within ((2 : Int32) * (q1.1 + (2 : Int32))) (0 : Int32) (99 : Int32) q1.2).bind fun q4 =>
            some (q4.1, q4.2)
          else
            if (σ 35 0 p1.toNatClampNeg) = (2 : Int32) then
              (M_within (q1.1 / (2 : Int32)) (0 : Int32) (99 : Int32) q1.2).bind fun q3 =>
              some (q3.1, q3.2)
            else
              (M_within q1.1 (0 : Int32) (99 : Int32) q1.2).bind fun q2 =>
              some (q2.1, q2.2)
def cp_M_fineOf {R : Type} (as : List AV) (σ : Sg) (k : AV → Sg → Option R) : Option R := match as with
  | [.inr (.inr (.inl (g1, i1))), .inl p1, .inl p2, .inl p3] => match Nat.beq g1 30 && Nat.beq i1 0 with
    | true => (M_fineOf p1 p2 p3 σ).bind fun q => k (vI q.1) q.2
    | false => none
  | _ => none
-- M_costOf (III)I
def M_costOf_J47 (v1 : Int32) (v5 : Int32) (σ : Sg) : Option (Int32 × Sg) :=
  if ((3 : Int32) * v1) < 0 then none else if 24 ≤ ((3 : Int32) * v1).toNatClampNeg then none else
  (M_within (v5 + (σ 36 0 ((3 : Int32) * v1).toNatClampNeg)) (0 : Int32) (99 : Int32) σ).bind fun q1 =>
  some (q1.1, q1.2)
def M_costOf (p1 : Int32) (p2 : Int32) (p3 : Int32) (σ : Sg) : Option (Int32 × Sg) :=
  if p1 = (-1 : Int32) then
    some ((0 : Int32), σ)
  else
    if p1 < 0 then none else if 8 ≤ p1.toNatClampNeg then none else
    if (σ 35 0 p1.toNatClampNeg) = (5 : Int32) then
      some ((0 : Int32), σ)
    else
      if p1 < 0 then none else if 8 ≤ p1.toNatClampNeg then none else
      (M_says (2 : Int32) p1 p2 p3 σ).bind fun q2 =>
      if (σ 35 0 p1.toNatClampNeg) = (1 : Int32) then
        M_costOf_J47 p1 q2.1 q2.2
      else
        if (σ 35 0 p1.toNatClampNeg) = (3 : Int32) then
          M_costOf_J47 p1 q2.1 q2.2
        else
          if (σ 35 0 p1.toNatClampNeg) = (4 : Int32) then
            (M_within (q2.1 + (3 : Int32)) (0 : Int32) (99 : Int32) q2.2).bind fun q4 =>
            some (q4.1, q4.2)
          else
            (M_within q2.1 (0 : Int32) (99 : Int32) q2.2).bind fun q3 =>
            some (q3.1, q3.2)
def cp_M_costOf {R : Type} (as : List AV) (σ : Sg) (k : AV → Sg → Option R) : Option R := match as with
  | [.inr (.inr (.inl (g1, i1))), .inl p1, .inl p2, .inl p3] => match Nat.beq g1 30 && Nat.beq i1 0 with
    | true => (M_costOf p1 p2 p3 σ).bind fun q => k (vI q.1) q.2
    | false => none
  | _ => none
-- M_asks (III)I
def M_asks_J13 (v1 : Int32) (v2 : Int32) (v3 : Int32) (σ : Sg) : Option (Int32 × Sg) :=
  (M_in (v2).toInt64 (0 : Int64) (9923 : Int64) σ).bind fun q1 =>
  if q1.1 = 0 then
    some ((-2 : Int32), q1.2)
  else
    (M_isHour (v2 - v2 / (100 : Int32) * (100 : Int32)) q1.2).bind fun q2 =>
    if q2.1 = 0 then
      some ((-2 : Int32), q2.2)
    else
      (M_in (v3).toInt64 (0 : Int64) (3 : Int64) q2.2).bind fun q3 =>
      if q3.1 = 0 then
        some ((-2 : Int32), q3.2)
      else
        if v3 < (2 : Int32) then
          if v3 = 0 then
            (M_fits v1 (v2 / (100 : Int32)) (v2 - v2 / (100 : Int32) * (100 : Int32)) q3.2).bind fun q7 =>
            if q7.1 = 0 then
              some ((0 : Int32), q7.2)
            else
              some ((1 : Int32), q7.2)
          else
            (M_fineOf v1 (v2 / (100 : Int32)) (v2 - v2 / (100 : Int32) * (100 : Int32)) q3.2).bind fun q6 =>
            some (q6.1, q6.2)
        else
          if v3 = (2 : Int32) then
            (M_costOf v1 (v2 / (100 : Int32)) (v2 - v2 / (100 : Int32) * (100 : Int32)) q3.2).bind fun q5 =>
            some (q5.1, q5.2)
          else
            if v1 = (-1 : Int32) then
              some ((99 : Int32), q3.2)
            else
              (M_offOf v1 (v2 / (100 : Int32)) q3.2).bind fun q4 =>
              some (q4.1, q4.2)
def M_asks (p1 : Int32) (p2 : Int32) (p3 : Int32) (σ : Sg) : Option (Int32 × Sg) :=
  if p1 = (-1 : Int32) then
    M_asks_J13 p1 p2 p3 σ
  else
    (M_isCoat p1 σ).bind fun q8 =>
    if q8.1 = 0 then
      some ((-2 : Int32), q8.2)
    else
      M_asks_J13 p1 p2 p3 q8.2
def cp_M_asks {R : Type} (as : List AV) (σ : Sg) (k : AV → Sg → Option R) : Option R := match as with
  | [.inr (.inr (.inl (g1, i1))), .inl p1, .inl p2, .inl p3] => match Nat.beq g1 30 && Nat.beq i1 0 with
    | true => (M_asks p1 p2 p3 σ).bind fun q => k (vI q.1) q.2
    | false => none
  | _ => none
-- M_pushed (III)V
def M_pushed_L3 : Nat → Int32 → Int32 → Int32 → Sg → Option (Sg)
  | 0, _, _, _, _ => none
  | n + 1, v1, v3, v4, σ =>
    if v4 < (24 : Int32) then
      if (((24 : Int32) * v1) + v4) < 0 then none else if 72 ≤ (((24 : Int32) * v1) + v4).toNatClampNeg then none else
      (M_within ((σ 34 0 (((24 : Int32) * v1) + v4).toNatClampNeg) + v3) (0 : Int32) (99 : Int32) σ).bind fun q1 =>
      if (((24 : Int32) * v1) + v4) < 0 then none else if 72 ≤ (((24 : Int32) * v1) + v4).toNatClampNeg then none else
      let σ2 := upd3 q1.2 34 0 ((((24 : Int32) * v1) + v4).toNatClampNeg) q1.1
      M_pushed_L3 n v1 v3 (v4 + 1) σ2
    else
      some σ
def M_pushed (p1 : Int32) (p2 : Int32) (p3 : Int32) (σ : Sg) : Option (Sg) :=
  M_pushed_L3 FU p1 p3 p2 σ
def cp_M_pushed {R : Type} (as : List AV) (σ : Sg) (k : AV → Sg → Option R) : Option R := match as with
  | [.inr (.inr (.inl (g1, i1))), .inl p1, .inl p2, .inl p3] => match Nat.beq g1 30 && Nat.beq i1 0 with
    | true => (M_pushed p1 p2 p3 σ).bind fun q => k vU q
    | false => none
  | _ => none
-- M_push (III)I
def M_push (p1 : Int32) (p2 : Int32) (p3 : Int32) (σ : Sg) : Option (Int32 × Sg) :=
  (M_isOne p1 σ).bind fun q1 =>
  if q1.1 = 0 then
    some ((-2 : Int32), q1.2)
  else
    (M_isHour p2 q1.2).bind fun q2 =>
    if q2.1 = 0 then
      some ((-2 : Int32), q2.2)
    else
      (M_in (p3).toInt64 (-99 : Int64) (99 : Int64) q2.2).bind fun q3 =>
      if q3.1 = 0 then
        some ((-2 : Int32), q3.2)
      else
        (M_pushed p1 p2 p3 q3.2).bind fun σ4 =>
        if (((24 : Int32) * p1) + p2) < 0 then none else if 72 ≤ (((24 : Int32) * p1) + p2).toNatClampNeg then none else
        some ((σ4 34 0 (((24 : Int32) * p1) + p2).toNatClampNeg), σ4)
def cp_M_push {R : Type} (as : List AV) (σ : Sg) (k : AV → Sg → Option R) : Option R := match as with
  | [.inr (.inr (.inl (g1, i1))), .inl p1, .inl p2, .inl p3] => match Nat.beq g1 30 && Nat.beq i1 0 with
    | true => (M_push p1 p2 p3 σ).bind fun q => k (vI q.1) q.2
    | false => none
  | _ => none
-- M_planBad (I)I
def M_planBad_L28 : Nat → Int32 → Int32 → Sg → Option (Int32 × Sg)
  | 0, _, _, _ => none
  | n + 1, v1, v2, σ =>
    if v1 < 0 then none else if 4 ≤ v1.toNatClampNeg then none else
    if v2 < (σ 49 0 v1.toNatClampNeg) then
      if (((40 : Int32) * v1) + v2) < 0 then none else if 160 ≤ (((40 : Int32) * v1) + v2).toNatClampNeg then none else
      if (σ 50 0 (((40 : Int32) * v1) + v2).toNatClampNeg) = (-1 : Int32) then
        M_planBad_L28 n v1 (v2 + 1) σ
      else
        (M_isCoat (σ 50 0 (((40 : Int32) * v1) + v2).toNatClampNeg) σ).bind fun q1 =>
        if q1.1 = 0 then
          some ((-2 : Int32), q1.2)
        else
          M_planBad_L28 n v1 (v2 + 1) q1.2
    else
      some ((0 : Int32), σ)
def M_planBad (p1 : Int32) (σ : Sg) : Option (Int32 × Sg) :=
  if p1 < 0 then none else if 4 ≤ p1.toNatClampNeg then none else
  if (σ 47 0 p1.toNatClampNeg) = 0 then
    some ((-11 : Int32), σ)
  else
    if p1 < 0 then none else if 4 ≤ p1.toNatClampNeg then none else
    if (24 : Int32) < (σ 49 0 p1.toNatClampNeg) then
      some ((-2 : Int32), σ)
    else
      M_planBad_L28 FU p1 (0 : Int32) σ
def cp_M_planBad {R : Type} (as : List AV) (σ : Sg) (k : AV → Sg → Option R) : Option R := match as with
  | [.inr (.inr (.inl (g1, i1))), .inl p1] => match Nat.beq g1 30 && Nat.beq i1 0 with
    | true => (M_planBad p1 σ).bind fun q => k (vI q.1) q.2
    | false => none
  | _ => none
-- M_wornAt (II)I
def M_wornAt (p1 : Int32) (p2 : Int32) (σ : Sg) : Option (Int32 × Sg) :=
  if p1 < 0 then none else if 4 ≤ p1.toNatClampNeg then none else
  if p2 < (σ 49 0 p1.toNatClampNeg) then
    if (((40 : Int32) * p1) + p2) < 0 then none else if 160 ≤ (((40 : Int32) * p1) + p2).toNatClampNeg then none else
    some ((σ 50 0 (((40 : Int32) * p1) + p2).toNatClampNeg), σ)
  else
    some ((-1 : Int32), σ)
def cp_M_wornAt {R : Type} (as : List AV) (σ : Sg) (k : AV → Sg → Option R) : Option R := match as with
  | [.inr (.inr (.inl (g1, i1))), .inl p1, .inl p2] => match Nat.beq g1 30 && Nat.beq i1 0 with
    | true => (M_wornAt p1 p2 σ).bind fun q => k (vI q.1) q.2
    | false => none
  | _ => none
-- M_planned (III)I
def M_planned_J76 (k15 : Int32 → Int32 → Int32 → Int32 → Int32 → Int32 → Int32 → Int32 → Sg → Option (Int32 × Sg)) (v1 : Int32) (v2 : Int32) (v3 : Int32) (v4 : Int32) (v5 : Int32) (v6 : Int32) (v7 : Int32) (v8 : Int32) (v9 : Int32) (v10 : Int32) (σ : Sg) : Option (Int32 × Sg) :=
  if v9 = v7 then
    k15 v1 v2 v3 v4 (v5 + (0 : Int32)) v6 v9 (v8 + 1) σ
  else
    (M_costOf v9 v10 v8 σ).bind fun q1 =>
    k15 v1 v2 v3 v4 (v5 + q1.1) v6 v9 (v8 + 1) q1.2
def M_planned_L15 : Nat → Int32 → Int32 → Int32 → Int32 → Int32 → Int32 → Int32 → Int32 → Sg → Option (Int32 × Sg)
  | 0, _, _, _, _, _, _, _, _, _ => none
  | n + 1, v1, v2, v3, v4, v5, v6, v7, v8, σ =>
    if v8 < (24 : Int32) then
      (M_wornAt v1 v8 σ).bind fun q2 =>
      if (((24 : Int32) * v2) + v8) < 0 then none else if 72 ≤ (((24 : Int32) * v2) + v8).toNatClampNeg then none else
      (M_fits q2.1 (q2.2 34 0 (((24 : Int32) * v2) + v8).toNatClampNeg) v8 q2.2).bind fun q3 =>
      if q3.1 = 0 then
        (M_fineOf q2.1 (q2.2 34 0 (((24 : Int32) * v2) + v8).toNatClampNeg) v8 q3.2).bind fun q4 =>
        M_planned_J76 (fun y0 y1 y2 y3 y4 y5 y6 y7 τ => M_planned_L15 n y0 y1 y2 y3 y4 y5 y6 y7 τ) v1 v2 v3 (v4 + q4.1) v5 (v6 + 1) v7 v8 q2.1 (q2.2 34 0 (((24 : Int32) * v2) + v8).toNatClampNeg) q4.2
      else
        M_planned_J76 (fun y0 y1 y2 y3 y4 y5 y6 y7 τ => M_planned_L15 n y0 y1 y2 y3 y4 y5 y6 y7 τ) v1 v2 v3 v4 v5 v6 v7 v8 q2.1 (q2.2 34 0 (((24 : Int32) * v2) + v8).toNatClampNeg) q3.2
    else
      if v3 = 0 then
        some ((v4 + v5), σ)
      else
        if v3 = (1 : Int32) then
          some (v4, σ)
        else
          some (v6, σ)
def M_planned (p1 : Int32) (p2 : Int32) (p3 : Int32) (σ : Sg) : Option (Int32 × Sg) :=
  M_planned_L15 FU p1 p2 p3 (0 : Int32) (0 : Int32) (0 : Int32) (-1 : Int32) (0 : Int32) σ
def cp_M_planned {R : Type} (as : List AV) (σ : Sg) (k : AV → Sg → Option R) : Option R := match as with
  | [.inr (.inr (.inl (g1, i1))), .inl p1, .inl p2, .inl p3] => match Nat.beq g1 30 && Nat.beq i1 0 with
    | true => (M_planned p1 p2 p3 σ).bind fun q => k (vI q.1) q.2
    | false => none
  | _ => none
-- M_isSheet (I)Z
def M_isSheet (p0 : Int32) (σ : Sg) : Option (Int32 × Sg) :=
  (M_in (p0).toInt64 (0 : Int64) (3 : Int64) σ).bind fun q1 =>
  some ((q1.1 &&& 1), q1.2)
def cp_M_isSheet {R : Type} (as : List AV) (σ : Sg) (k : AV → Sg → Option R) : Option R := match as with
  | [.inl p0] => (M_isSheet p0 σ).bind fun q => k (vI q.1) q.2
  | _ => none
-- M_plan (III)I
def M_plan (p1 : Int32) (p2 : Int32) (p3 : Int32) (σ : Sg) : Option (Int32 × Sg) :=
  (M_isSheet p1 σ).bind fun q1 =>
  if q1.1 = 0 then
    some ((-2 : Int32), q1.2)
  else
    (M_isOne p2 q1.2).bind fun q2 =>
    if q2.1 = 0 then
      some ((-2 : Int32), q2.2)
    else
      (M_in (p3).toInt64 (0 : Int64) (2 : Int64) q2.2).bind fun q3 =>
      if q3.1 = 0 then
        some ((-2 : Int32), q3.2)
      else
        (M_planBad p1 q3.2).bind fun q4 =>
        if q4.1 = 0 then
          (M_planned p1 p2 p3 q4.2).bind fun q5 =>
          some (q5.1, q5.2)
        else
          some (q4.1, q4.2)
def cp_M_plan {R : Type} (as : List AV) (σ : Sg) (k : AV → Sg → Option R) : Option R := match as with
  | [.inr (.inr (.inl (g1, i1))), .inl p1, .inl p2, .inl p3] => match Nat.beq g1 30 && Nat.beq i1 0 with
    | true => (M_plan p1 p2 p3 σ).bind fun q => k (vI q.1) q.2
    | false => none
  | _ => none
-- M_wear (II)I
def M_wear_L41 : Nat → Int32 → Int32 → Int32 → Sg → Option (Int32 × Sg)
  | 0, _, _, _, _ => none
  | n + 1, v1, v4, v5, σ =>
    if v1 < 0 then none else if 4 ≤ v1.toNatClampNeg then none else
    if v5 < (σ 49 0 v1.toNatClampNeg) then
      (M_wornAt v1 v5 σ).bind fun q1 =>
      if q1.1 = (-1 : Int32) then
        M_wear_L41 n v1 v4 (v5 + 1) q1.2
      else
        if (((3 : Int32) * q1.1) + (2 : Int32)) < 0 then none else if 24 ≤ (((3 : Int32) * q1.1) + (2 : Int32)).toNatClampNeg then none else
        (M_within ((q1.2 36 0 (((3 : Int32) * q1.1) + (2 : Int32)).toNatClampNeg) + (1 : Int32)) (0 : Int32) (999 : Int32) q1.2).bind fun q2 =>
        if (((3 : Int32) * q1.1) + (2 : Int32)) < 0 then none else if 24 ≤ (((3 : Int32) * q1.1) + (2 : Int32)).toNatClampNeg then none else
        let σ3 := upd3 q2.2 36 0 ((((3 : Int32) * q1.1) + (2 : Int32)).toNatClampNeg) q2.1
        M_wear_L41 n v1 v4 (v5 + 1) σ3
    else
      some (v4, σ)
def M_wear (p1 : Int32) (p2 : Int32) (σ : Sg) : Option (Int32 × Sg) :=
  (M_isSheet p1 σ).bind fun q4 =>
  if q4.1 = 0 then
    some ((-2 : Int32), q4.2)
  else
    (M_isOne p2 q4.2).bind fun q5 =>
    if q5.1 = 0 then
      some ((-2 : Int32), q5.2)
    else
      (M_planBad p1 q5.2).bind fun q6 =>
      if q6.1 = 0 then
        (M_planned p1 p2 (0 : Int32) q6.2).bind fun q7 =>
        M_wear_L41 FU p1 q7.1 (0 : Int32) q7.2
      else
        some (q6.1, q6.2)
def cp_M_wear {R : Type} (as : List AV) (σ : Sg) (k : AV → Sg → Option R) : Option R := match as with
  | [.inr (.inr (.inl (g1, i1))), .inl p1, .inl p2] => match Nat.beq g1 30 && Nat.beq i1 0 with
    | true => (M_wear p1 p2 σ).bind fun q => k (vI q.1) q.2
    | false => none
  | _ => none
-- M_bitsOf (I)I
def M_bitsOf_L4 : Nat → Int32 → Int32 → Sg → Option (Int32 × Sg)
  | 0, _, _, _ => none
  | n + 1, v1, v2, σ =>
    if v2 = 0 then
      some (v1, σ)
    else
      M_bitsOf_L4 n (v1 + 1) (v2 &&& (v2 - (1 : Int32))) σ
def M_bitsOf (p0 : Int32) (σ : Sg) : Option (Int32 × Sg) :=
  M_bitsOf_L4 FU (0 : Int32) p0 σ
def cp_M_bitsOf {R : Type} (as : List AV) (σ : Sg) (k : AV → Sg → Option R) : Option R := match as with
  | [.inl p0] => (M_bitsOf p0 σ).bind fun q => k (vI q.1) q.2
  | _ => none
-- M_rights (I)V
def M_rights_L2 : Nat → Int32 → Int32 → Sg → Option (Sg)
  | 0, _, _, _ => none
  | n + 1, v1, v2, σ =>
    if v2 < (24 : Int32) then
      (M_rightAt v1 v2 σ).bind fun q1 =>
      if v2 < 0 then none else if 24 ≤ v2.toNatClampNeg then none else
      let σ2 := upd3 q1.2 37 0 v2.toNatClampNeg q1.1
      M_rights_L2 n v1 (v2 + 1) σ2
    else
      some σ
def M_rights (p1 : Int32) (σ : Sg) : Option (Sg) :=
  M_rights_L2 FU p1 (0 : Int32) σ
def cp_M_rights {R : Type} (as : List AV) (σ : Sg) (k : AV → Sg → Option R) : Option R := match as with
  | [.inr (.inr (.inl (g1, i1))), .inl p1] => match Nat.beq g1 30 && Nat.beq i1 0 with
    | true => (M_rights p1 σ).bind fun q => k vU q
    | false => none
  | _ => none
-- M_covers (I)Z
def M_covers_L2 : Nat → Int32 → Int32 → Sg → Option (Int32 × Sg)
  | 0, _, _, _ => none
  | n + 1, v1, v2, σ =>
    if v2 < (24 : Int32) then
      if v2 < 0 then none else if 24 ≤ v2.toNatClampNeg then none else
      if (σ 37 0 v2.toNatClampNeg) = 0 then
        M_covers_L2 n v1 (v2 + 1) σ
      else
        if v2 < 0 then none else if 24 ≤ v2.toNatClampNeg then none else
        if ((σ 37 0 v2.toNatClampNeg) &&& v1) = 0 then
          some ((0 : Int32), σ)
        else
          M_covers_L2 n v1 (v2 + 1) σ
    else
      some ((1 : Int32), σ)
def M_covers (p1 : Int32) (σ : Sg) : Option (Int32 × Sg) :=
  M_covers_L2 FU p1 (0 : Int32) σ
def cp_M_covers {R : Type} (as : List AV) (σ : Sg) (k : AV → Sg → Option R) : Option R := match as with
  | [.inr (.inr (.inl (g1, i1))), .inl p1] => match Nat.beq g1 30 && Nat.beq i1 0 with
    | true => (M_covers p1 σ).bind fun q => k (vI q.1) q.2
    | false => none
  | _ => none
-- M_coverOf (I)I
def M_coverOf_L9 : Nat → Int32 → Int32 → Sg → Option (Int32 × Sg)
  | 0, _, _, _ => none
  | n + 1, v2, v3, σ =>
    if v3 < ((1 : Int32) <<< ((σ 30 0 10) &&& 31)) then
      if v2 = (-1 : Int32) then
        (M_covers v3 σ).bind fun q1 =>
        if q1.1 = 0 then
          M_coverOf_L9 n v2 (v3 + 1) q1.2
        else
          M_coverOf_L9 n v3 (v3 + 1) q1.2
      else
        (M_bitsOf v3 σ).bind fun q2 =>
        (M_bitsOf v2 q2.2).bind fun q3 =>
        if q2.1 < q3.1 then
          (M_covers v3 q3.2).bind fun q4 =>
          if q4.1 = 0 then
            M_coverOf_L9 n v2 (v3 + 1) q4.2
          else
            M_coverOf_L9 n v3 (v3 + 1) q4.2
        else
          M_coverOf_L9 n v2 (v3 + 1) q3.2
    else
      some (v2, σ)
def M_coverOf (p1 : Int32) (σ : Sg) : Option (Int32 × Sg) :=
  (M_rights p1 σ).bind fun σ5 =>
  M_coverOf_L9 FU (-1 : Int32) (0 : Int32) σ5
def cp_M_coverOf {R : Type} (as : List AV) (σ : Sg) (k : AV → Sg → Option R) : Option R := match as with
  | [.inr (.inr (.inl (g1, i1))), .inl p1] => match Nat.beq g1 30 && Nat.beq i1 0 with
    | true => (M_coverOf p1 σ).bind fun q => k (vI q.1) q.2
    | false => none
  | _ => none
-- M_bareOf (I)I
def M_bareOf_L4 : Nat → Int32 → Int32 → Int32 → Sg → Option (Int32 × Sg)
  | 0, _, _, _, _ => none
  | n + 1, v1, v2, v3, σ =>
    if v3 < (24 : Int32) then
      (M_rightAt v1 v3 σ).bind fun q1 =>
      if q1.1 = 0 then
        M_bareOf_L4 n v1 (v2 ||| ((1 : Int32) <<< (v3 &&& 31))) (v3 + 1) q1.2
      else
        M_bareOf_L4 n v1 (v2 ||| ((0 : Int32) <<< (v3 &&& 31))) (v3 + 1) q1.2
    else
      some (v2, σ)
def M_bareOf (p1 : Int32) (σ : Sg) : Option (Int32 × Sg) :=
  M_bareOf_L4 FU p1 (0 : Int32) (0 : Int32) σ
def cp_M_bareOf {R : Type} (as : List AV) (σ : Sg) (k : AV → Sg → Option R) : Option R := match as with
  | [.inr (.inr (.inl (g1, i1))), .inl p1] => match Nat.beq g1 30 && Nat.beq i1 0 with
    | true => (M_bareOf p1 σ).bind fun q => k (vI q.1) q.2
    | false => none
  | _ => none
-- M_changesOf (I)I
def M_changesOf_L223 : Nat → Int32 → Int32 → Sg → Option (Int32 × Sg)
  | 0, _, _, _ => none
  | n + 1, v2, v3, σ =>
    if v3 < (σ 30 0 10) then
      if v3 < 0 then none else if 9 ≤ v3.toNatClampNeg then none else
      if (σ 38 0 v3.toNatClampNeg) < v2 then
        if v3 < 0 then none else if 9 ≤ v3.toNatClampNeg then none else
        M_changesOf_L223 n (σ 38 0 v3.toNatClampNeg) (v3 + 1) σ
      else
        M_changesOf_L223 n v2 (v3 + 1) σ
    else
      some (v2, σ)
def M_changesOf_L185 (k68 : Int32 → Sg → Option (Int32 × Sg)) : Nat → Int32 → Int32 → Sg → Option (Int32 × Sg)
  | 0, _, _, _ => none
  | n + 1, v2, v3, σ =>
    if v3 < (σ 30 0 10) then
      if v3 < 0 then none else if 9 ≤ v3.toNatClampNeg then none else
      if v3 < 0 then none else if 9 ≤ v3.toNatClampNeg then none else
      let σ1 := upd3 σ 38 0 v3.toNatClampNeg (σ 39 0 v3.toNatClampNeg)
      M_changesOf_L185 k68 n v2 (v3 + 1) σ1
    else
      k68 (v2 + 1) σ
def M_changesOf_L95 (k68 : Int32 → Sg → Option (Int32 × Sg)) (k76 : Int32 → Int32 → Sg → Option (Int32 × Sg)) : Nat → Int32 → Int32 → Int32 → Int32 → Sg → Option (Int32 × Sg)
  | 0, _, _, _, _, _ => none
  | n + 1, v2, v3, v4, v5, σ =>
    if v5 < (σ 30 0 10) then
      if v5 < 0 then none else if 9 ≤ v5.toNatClampNeg then none else
      if ((σ 38 0 v5.toNatClampNeg) + (1 : Int32)) < v4 then
        if v5 < 0 then none else if 9 ≤ v5.toNatClampNeg then none else
        M_changesOf_L95 k68 k76 n v2 v3 ((σ 38 0 v5.toNatClampNeg) + (1 : Int32)) (v5 + 1) σ
      else
        M_changesOf_L95 k68 k76 n v2 v3 v4 (v5 + 1) σ
    else
      if v2 < 0 then none else if 24 ≤ v2.toNatClampNeg then none else
      if (σ 37 0 v2.toNatClampNeg) = 0 then
        if v3 < 0 then none else if 9 ≤ v3.toNatClampNeg then none else
        let σ2 := upd3 σ 39 0 v3.toNatClampNeg v4
        k76 v2 (v3 + 1) σ2
      else
        if v2 < 0 then none else if 24 ≤ v2.toNatClampNeg then none else
        if (((σ 37 0 v2.toNatClampNeg) >>> (v3 &&& 31)) &&& (1 : Int32)) = (1 : Int32) then
          if v3 < 0 then none else if 9 ≤ v3.toNatClampNeg then none else
          let σ4 := upd3 σ 39 0 v3.toNatClampNeg v4
          k76 v2 (v3 + 1) σ4
        else
          if v3 < 0 then none else if 9 ≤ v3.toNatClampNeg then none else
          let σ3 := upd3 σ 39 0 v3.toNatClampNeg (1000000 : Int32)
          k76 v2 (v3 + 1) σ3
def M_changesOf_L76 (k68 : Int32 → Sg → Option (Int32 × Sg)) : Nat → Int32 → Int32 → Sg → Option (Int32 × Sg)
  | 0, _, _, _ => none
  | n + 1, v2, v3, σ =>
    if v3 < (σ 30 0 10) then
      if v3 < 0 then none else if 9 ≤ v3.toNatClampNeg then none else
      M_changesOf_L95 k68 (fun y0 y1 τ => M_changesOf_L76 k68 n y0 y1 τ) FU v2 v3 (σ 38 0 v3.toNatClampNeg) (0 : Int32) σ
    else
      M_changesOf_L185 k68 FU v2 (0 : Int32) σ
def M_changesOf_L68 : Nat → Int32 → Sg → Option (Int32 × Sg)
  | 0, _, _ => none
  | n + 1, v2, σ =>
    if v2 < (24 : Int32) then
      M_changesOf_L76 (fun y0 τ => M_changesOf_L68 n y0 τ) FU v2 (0 : Int32) σ
    else
      M_changesOf_L223 FU (1000000 : Int32) (0 : Int32) σ
def M_changesOf_L16 : Nat → Int32 → Sg → Option (Int32 × Sg)
  | 0, _, _ => none
  | n + 1, v2, σ =>
    if v2 < (σ 30 0 10) then
      if (σ 37 0 0) = 0 then
        if v2 < 0 then none else if 9 ≤ v2.toNatClampNeg then none else
        let σ5 := upd3 σ 38 0 v2.toNatClampNeg (0 : Int32)
        M_changesOf_L16 n (v2 + 1) σ5
      else
        if (((σ 37 0 0) >>> (v2 &&& 31)) &&& (1 : Int32)) = (1 : Int32) then
          if v2 < 0 then none else if 9 ≤ v2.toNatClampNeg then none else
          let σ7 := upd3 σ 38 0 v2.toNatClampNeg (0 : Int32)
          M_changesOf_L16 n (v2 + 1) σ7
        else
          if v2 < 0 then none else if 9 ≤ v2.toNatClampNeg then none else
          let σ6 := upd3 σ 38 0 v2.toNatClampNeg (1000000 : Int32)
          M_changesOf_L16 n (v2 + 1) σ6
    else
      M_changesOf_L68 FU (1 : Int32) σ
def M_changesOf (p1 : Int32) (σ : Sg) : Option (Int32 × Sg) :=
  (M_rights p1 σ).bind fun σ8 =>
  if (σ8 30 0 10) = 0 then
    some ((0 : Int32), σ8)
  else
    M_changesOf_L16 FU (0 : Int32) σ8
def cp_M_changesOf {R : Type} (as : List AV) (σ : Sg) (k : AV → Sg → Option R) : Option R := match as with
  | [.inr (.inr (.inl (g1, i1))), .inl p1] => match Nat.beq g1 30 && Nat.beq i1 0 with
    | true => (M_changesOf p1 σ).bind fun q => k (vI q.1) q.2
    | false => none
  | _ => none
-- M_byCoat (III)I
def M_byCoat_J31 (v1 : Int32) (v2 : Int32) (w0 : Int32) (w1 : Int32) (σ : Sg) : Option (Int32 × Sg) :=
  if (((9 : Int32) * (v1 + (1 : Int32))) + v2) < 0 then none else if 225 ≤ (((9 : Int32) * (v1 + (1 : Int32))) + v2).toNatClampNeg then none else
  some (((w0 + w1) + (σ 40 0 (((9 : Int32) * (v1 + (1 : Int32))) + v2).toNatClampNeg)), σ)
def M_byCoat (p1 : Int32) (p2 : Int32) (p3 : Int32) (σ : Sg) : Option (Int32 × Sg) :=
  if (((9 : Int32) * p1) + p2) < 0 then none else if 216 ≤ (((9 : Int32) * p1) + p2).toNatClampNeg then none else
  if p2 = p3 then
    M_byCoat_J31 p1 p2 (σ 41 0 (((9 : Int32) * p1) + p2).toNatClampNeg) (0 : Int32) σ
  else
    if (((9 : Int32) * p1) + p2) < 0 then none else if 216 ≤ (((9 : Int32) * p1) + p2).toNatClampNeg then none else
    M_byCoat_J31 p1 p2 (σ 41 0 (((9 : Int32) * p1) + p2).toNatClampNeg) (σ 42 0 (((9 : Int32) * p1) + p2).toNatClampNeg) σ
def cp_M_byCoat {R : Type} (as : List AV) (σ : Sg) (k : AV → Sg → Option R) : Option R := match as with
  | [.inr (.inr (.inl (g1, i1))), .inl p1, .inl p2, .inl p3] => match Nat.beq g1 30 && Nat.beq i1 0 with
    | true => (M_byCoat p1 p2 p3 σ).bind fun q => k (vI q.1) q.2
    | false => none
  | _ => none
-- M_cheapOf (I)I
def M_cheapOf_L242 (k233 : Int32 → Int32 → Sg → Option (Int32 × Sg)) : Nat → Int32 → Int32 → Int32 → Sg → Option (Int32 × Sg)
  | 0, _, _, _, _ => none
  | n + 1, v2, v3, v4, σ =>
    (M_byCoat v3 v4 v2 σ).bind fun q1 =>
    if (((9 : Int32) * v3) + v2) < 0 then none else if 225 ≤ (((9 : Int32) * v3) + v2).toNatClampNeg then none else
    if q1.1 = (q1.2 40 0 (((9 : Int32) * v3) + v2).toNatClampNeg) then
      if v3 < 0 then none else if 24 ≤ v3.toNatClampNeg then none else
      let σ2 := upd3 q1.2 43 0 v3.toNatClampNeg (v4 - (1 : Int32))
      k233 v4 (v3 + 1) σ2
    else
      M_cheapOf_L242 k233 n v2 v3 (v4 + 1) q1.2
def M_cheapOf_L233 : Nat → Int32 → Int32 → Sg → Option (Int32 × Sg)
  | 0, _, _, _ => none
  | n + 1, v2, v3, σ =>
    if v3 < (24 : Int32) then
      M_cheapOf_L242 (fun y0 y1 τ => M_cheapOf_L233 n y0 y1 τ) FU v2 v3 (0 : Int32) σ
    else
      some ((σ 40 0 0), σ)
def M_cheapOf_L161 (k135 : Int32 → Sg → Option (Int32 × Sg)) (k141 : Int32 → Int32 → Sg → Option (Int32 × Sg)) : Nat → Int32 → Int32 → Int32 → Int32 → Sg → Option (Int32 × Sg)
  | 0, _, _, _, _, _ => none
  | n + 1, v2, v3, v4, v5, σ =>
    if (σ 30 0 10) < v5 then
      if (((9 : Int32) * v2) + v3) < 0 then none else if 225 ≤ (((9 : Int32) * v2) + v3).toNatClampNeg then none else
      let σ3 := upd3 σ 40 0 ((((9 : Int32) * v2) + v3).toNatClampNeg) v4
      k141 v2 (v3 + 1) σ3
    else
      (M_byCoat v2 v5 v3 σ).bind fun q4 =>
      if q4.1 < v4 then
        (M_byCoat v2 v5 v3 q4.2).bind fun q5 =>
        M_cheapOf_L161 k135 k141 n v2 v3 q5.1 (v5 + 1) q5.2
      else
        M_cheapOf_L161 k135 k141 n v2 v3 v4 (v5 + 1) q4.2
def M_cheapOf_L141 (k135 : Int32 → Sg → Option (Int32 × Sg)) : Nat → Int32 → Int32 → Sg → Option (Int32 × Sg)
  | 0, _, _, _ => none
  | n + 1, v2, v3, σ =>
    if (σ 30 0 10) < v3 then
      k135 (v2 + (-1)) σ
    else
      (M_byCoat v2 (0 : Int32) v3 σ).bind fun q6 =>
      M_cheapOf_L161 k135 (fun y0 y1 τ => M_cheapOf_L141 k135 n y0 y1 τ) FU v2 v3 q6.1 (1 : Int32) q6.2
def M_cheapOf_L135 : Nat → Int32 → Sg → Option (Int32 × Sg)
  | 0, _, _ => none
  | n + 1, v2, σ =>
    if v2 < 0 then
      M_cheapOf_L233 FU (0 : Int32) (0 : Int32) σ
    else
      M_cheapOf_L141 (fun y0 τ => M_cheapOf_L135 n y0 τ) FU v2 (0 : Int32) σ
def M_cheapOf_L107 : Nat → Int32 → Sg → Option (Int32 × Sg)
  | 0, _, _ => none
  | n + 1, v2, σ =>
    if (σ 30 0 10) < v2 then
      M_cheapOf_L135 FU (23 : Int32) σ
    else
      if ((216 : Int32) + v2) < 0 then none else if 225 ≤ ((216 : Int32) + v2).toNatClampNeg then none else
      let σ7 := upd3 σ 40 0 (((216 : Int32) + v2).toNatClampNeg) (0 : Int32)
      M_cheapOf_L107 n (v2 + 1) σ7
def M_cheapOf_J70 (k2 : Int32 → Int32 → Sg → Option (Int32 × Sg)) (k23 : Int32 → Int32 → Int32 → Int32 → Sg → Option (Int32 × Sg)) (v1 : Int32) (v2 : Int32) (v3 : Int32) (v4 : Int32) (w1 : Int32) (w2 : Int32) (σ : Sg) : Option (Int32 × Sg) :=
  if w1 < 0 then none else if 216 ≤ w1.toNatClampNeg then none else
  let σ8 := upd3 σ 41 0 w1.toNatClampNeg w2
  (M_costOf (v4 - (1 : Int32)) v3 v2 σ8).bind fun q9 =>
  if (((9 : Int32) * v2) + v4) < 0 then none else if 216 ≤ (((9 : Int32) * v2) + v4).toNatClampNeg then none else
  let σ10 := upd3 q9.2 42 0 ((((9 : Int32) * v2) + v4).toNatClampNeg) q9.1
  k23 v1 v2 v3 (v4 + 1) σ10
def M_cheapOf_L23 (k2 : Int32 → Int32 → Sg → Option (Int32 × Sg)) : Nat → Int32 → Int32 → Int32 → Int32 → Sg → Option (Int32 × Sg)
  | 0, _, _, _, _, _ => none
  | n + 1, v1, v2, v3, v4, σ =>
    if (σ 30 0 10) < v4 then
      k2 v1 (v2 + 1) σ
    else
      (M_fits (v4 - (1 : Int32)) v3 v2 σ).bind fun q11 =>
      if q11.1 = 0 then
        (M_fineOf (v4 - (1 : Int32)) v3 v2 q11.2).bind fun q12 =>
        M_cheapOf_J70 k2 (fun y0 y1 y2 y3 τ => M_cheapOf_L23 k2 n y0 y1 y2 y3 τ) v1 v2 v3 v4 (((9 : Int32) * v2) + v4) q12.1 q12.2
      else
        M_cheapOf_J70 k2 (fun y0 y1 y2 y3 τ => M_cheapOf_L23 k2 n y0 y1 y2 y3 τ) v1 v2 v3 v4 (((9 : Int32) * v2) + v4) (0 : Int32) q11.2
def M_cheapOf_L2 : Nat → Int32 → Int32 → Sg → Option (Int32 × Sg)
  | 0, _, _, _ => none
  | n + 1, v1, v2, σ =>
    if v2 < (24 : Int32) then
      if (((24 : Int32) * v1) + v2) < 0 then none else if 72 ≤ (((24 : Int32) * v1) + v2).toNatClampNeg then none else
      M_cheapOf_L23 (fun y0 y1 τ => M_cheapOf_L2 n y0 y1 τ) FU v1 v2 (σ 34 0 (((24 : Int32) * v1) + v2).toNatClampNeg) (0 : Int32) σ
    else
      M_cheapOf_L107 FU (0 : Int32) σ
def M_cheapOf (p1 : Int32) (σ : Sg) : Option (Int32 × Sg) :=
  M_cheapOf_L2 FU p1 (0 : Int32) σ
def cp_M_cheapOf {R : Type} (as : List AV) (σ : Sg) (k : AV → Sg → Option R) : Option R := match as with
  | [.inr (.inr (.inl (g1, i1))), .inl p1] => match Nat.beq g1 30 && Nat.beq i1 0 with
    | true => (M_cheapOf p1 σ).bind fun q => k (vI q.1) q.2
    | false => none
  | _ => none
-- M_day (II)I
def M_day_J36 (v1 : Int32) (v2 : Int32) (σ : Sg) : Option (Int32 × Sg) :=
  if v2 < (4 : Int32) then
    if v2 = 0 then
      (M_coverOf v1 σ).bind fun q6 =>
      some (q6.1, q6.2)
    else
      if v2 = (1 : Int32) then
        (M_coverOf v1 σ).bind fun q4 =>
        (M_bitsOf q4.1 q4.2).bind fun q5 =>
        some (q5.1, q5.2)
      else
        if v2 = (2 : Int32) then
          (M_bareOf v1 σ).bind fun q3 =>
          some (q3.1, q3.2)
        else
          (M_changesOf v1 σ).bind fun q2 =>
          some (q2.1, q2.2)
  else
    (M_cheapOf v1 σ).bind fun q1 =>
    if v2 = (4 : Int32) then
      some (q1.1, q1.2)
    else
      if (v2 - (10 : Int32)) < 0 then none else if 24 ≤ (v2 - (10 : Int32)).toNatClampNeg then none else
      some ((q1.2 43 0 (v2 - (10 : Int32)).toNatClampNeg), q1.2)
def M_day (p1 : Int32) (p2 : Int32) (σ : Sg) : Option (Int32 × Sg) :=
  (M_isOne p1 σ).bind fun q7 =>
  if q7.1 = 0 then
    some ((-2 : Int32), q7.2)
  else
    (M_in (p2).toInt64 (0 : Int64) (4 : Int64) q7.2).bind fun q8 =>
    if q8.1 = 0 then
      (M_in (p2).toInt64 (10 : Int64) (33 : Int64) q8.2).bind fun q9 =>
      if q9.1 = 0 then
        some ((-2 : Int32), q9.2)
      else
        M_day_J36 p1 p2 q9.2
    else
      M_day_J36 p1 p2 q8.2
def cp_M_day {R : Type} (as : List AV) (σ : Sg) (k : AV → Sg → Option R) : Option R := match as with
  | [.inr (.inr (.inl (g1, i1))), .inl p1, .inl p2] => match Nat.beq g1 30 && Nat.beq i1 0 with
    | true => (M_day p1 p2 σ).bind fun q => k (vI q.1) q.2
    | false => none
  | _ => none
-- M_sheet (III)I
def M_sheet_L77 : Nat → Int32 → Int32 → Int32 → Int32 → Sg → Option (Int32 × Sg)
  | 0, _, _, _, _, _ => none
  | n + 1, v1, v2, v3, v4, σ =>
    if v4 < v3 then
      if v2 < 0 then
        some ((1 : Int32), σ)
      else
        if (((40 : Int32) * v1) + v4) < 0 then none else if 160 ≤ (((40 : Int32) * v1) + v4).toNatClampNeg then none else
        let σ1 := upd3 σ 50 0 ((((40 : Int32) * v1) + v4).toNatClampNeg) (0 : Int32)
        M_sheet_L77 n v1 v2 v3 (v4 + 1) σ1
    else
      some ((1 : Int32), σ)
def M_sheet_J59 (v1 : Int32) (v2 : Int32) (v3 : Int32) (w1 : Int32) (w2 : Int32) (σ : Sg) : Option (Int32 × Sg) :=
  if w1 < 0 then none else if 4 ≤ w1.toNatClampNeg then none else
  let σ2 := upd3 σ 47 0 w1.toNatClampNeg (w2 &&& 1)
  if v1 < 0 then none else if 4 ≤ v1.toNatClampNeg then none else
  let σ3 := upd3 σ2 48 0 v1.toNatClampNeg v2
  if v1 < 0 then none else if 4 ≤ v1.toNatClampNeg then none else
  let σ4 := upd3 σ3 49 0 v1.toNatClampNeg v3
  M_sheet_L77 FU v1 v2 v3 (0 : Int32) σ4
def M_sheet_J45 (v1 : Int32) (v2 : Int32) (v3 : Int32) (σ : Sg) : Option (Int32 × Sg) :=
  if v2 < 0 then
    M_sheet_J59 v1 v2 v3 v1 (0 : Int32) σ
  else
    M_sheet_J59 v1 v2 v3 v1 (1 : Int32) σ
def M_sheet_J34 (v1 : Int32) (v2 : Int32) (v3 : Int32) (σ : Sg) : Option (Int32 × Sg) :=
  if v2 < 0 then
    M_sheet_J45 v1 v2 v3 σ
  else
    if v3 < 0 then
      some ((-14 : Int32), σ)
    else
      M_sheet_J45 v1 v2 v3 σ
def M_sheet (p1 : Int32) (p2 : Int32) (p3 : Int32) (σ : Sg) : Option (Int32 × Sg) :=
  (M_isSheet p1 σ).bind fun q5 =>
  if q5.1 = 0 then
    some ((-2 : Int32), q5.2)
  else
    (M_in (p2).toInt64 (-1 : Int64) (2 : Int64) q5.2).bind fun q6 =>
    if q6.1 = 0 then
      some ((-2 : Int32), q6.2)
    else
      if p2 < 0 then
        M_sheet_J34 p1 p2 p3 q6.2
      else
        if (40 : Int32) < p3 then
          some ((-2 : Int32), q6.2)
        else
          M_sheet_J34 p1 p2 p3 q6.2
def cp_M_sheet {R : Type} (as : List AV) (σ : Sg) (k : AV → Sg → Option R) : Option R := match as with
  | [.inr (.inr (.inl (g1, i1))), .inl p1, .inl p2, .inl p3] => match Nat.beq g1 30 && Nat.beq i1 0 with
    | true => (M_sheet p1 p2 p3 σ).bind fun q => k (vI q.1) q.2
    | false => none
  | _ => none
-- M_dress (II)I
def M_dress_L35 : Nat → Int32 → Int32 → Int32 → Sg → Option (Int32 × Sg)
  | 0, _, _, _, _ => none
  | n + 1, v1, v3, v4, σ =>
    if v4 < (24 : Int32) then
      if v4 < 0 then none else if 24 ≤ v4.toNatClampNeg then none else
      if (((40 : Int32) * v1) + v4) < 0 then none else if 160 ≤ (((40 : Int32) * v1) + v4).toNatClampNeg then none else
      let σ1 := upd3 σ 50 0 ((((40 : Int32) * v1) + v4).toNatClampNeg) (σ 43 0 v4.toNatClampNeg)
      M_dress_L35 n v1 v3 (v4 + 1) σ1
    else
      some (v3, σ)
def M_dress (p1 : Int32) (p2 : Int32) (σ : Sg) : Option (Int32 × Sg) :=
  (M_isSheet p1 σ).bind fun q2 =>
  if q2.1 = 0 then
    some ((-2 : Int32), q2.2)
  else
    (M_isOne p2 q2.2).bind fun q3 =>
    if q3.1 = 0 then
      some ((-2 : Int32), q3.2)
    else
      (M_cheapOf p2 q3.2).bind fun q4 =>
      (M_sheet p1 (0 : Int32) (24 : Int32) q4.2).bind fun q5 =>
      M_dress_L35 FU p1 q4.1 (0 : Int32) q5.2
def cp_M_dress {R : Type} (as : List AV) (σ : Sg) (k : AV → Sg → Option R) : Option R := match as with
  | [.inr (.inr (.inl (g1, i1))), .inl p1, .inl p2] => match Nat.beq g1 30 && Nat.beq i1 0 with
    | true => (M_dress p1 p2 σ).bind fun q => k (vI q.1) q.2
    | false => none
  | _ => none
-- M_anew (III)I
def M_anew_L49 : Nat → Int32 → Int32 → Int32 → Int32 → Int32 → Int32 → Int32 → Sg → Option (Int32 × Sg)
  | 0, _, _, _, _, _, _, _, _ => none
  | n + 1, v1, v2, v3, v4, v5, v6, v7, σ =>
    if v7 < (100 : Int32) then
      if (((3 : Int32) * v1) + (1 : Int32)) < 0 then none else if 24 ≤ (((3 : Int32) * v1) + (1 : Int32)).toNatClampNeg then none else
      let σ2 := upd3 σ 36 0 ((((3 : Int32) * v1) + (1 : Int32)).toNatClampNeg) v7
      (M_hoursBy v1 v2 σ2).bind fun q3 =>
      if v6 < q3.1 then
        M_anew_L49 n v1 v2 v3 v4 v7 q3.1 (v7 + 1) q3.2
      else
        M_anew_L49 n v1 v2 v3 v4 v5 v6 (v7 + 1) q3.2
    else
      if (((3 : Int32) * v1) + (1 : Int32)) < 0 then none else if 24 ≤ (((3 : Int32) * v1) + (1 : Int32)).toNatClampNeg then none else
      let σ1 := upd3 σ 36 0 ((((3 : Int32) * v1) + (1 : Int32)).toNatClampNeg) v4
      if v3 = 0 then
        some (v5, σ1)
      else
        some (v6, σ1)
def M_anew (p1 : Int32) (p2 : Int32) (p3 : Int32) (σ : Sg) : Option (Int32 × Sg) :=
  (M_isCoat p1 σ).bind fun q4 =>
  if q4.1 = 0 then
    some ((-2 : Int32), q4.2)
  else
    (M_isOne p2 q4.2).bind fun q5 =>
    if q5.1 = 0 then
      some ((-2 : Int32), q5.2)
    else
      (M_in (p3).toInt64 (0 : Int64) (1 : Int64) q5.2).bind fun q6 =>
      if q6.1 = 0 then
        some ((-2 : Int32), q6.2)
      else
        if (((3 : Int32) * p1) + (1 : Int32)) < 0 then none else if 24 ≤ (((3 : Int32) * p1) + (1 : Int32)).toNatClampNeg then none else
        M_anew_L49 FU p1 p2 p3 (q6.2 36 0 (((3 : Int32) * p1) + (1 : Int32)).toNatClampNeg) (-1 : Int32) (-1 : Int32) (0 : Int32) q6.2
def cp_M_anew {R : Type} (as : List AV) (σ : Sg) (k : AV → Sg → Option R) : Option R := match as with
  | [.inr (.inr (.inl (g1, i1))), .inl p1, .inl p2, .inl p3] => match Nat.beq g1 30 && Nat.beq i1 0 with
    | true => (M_anew p1 p2 p3 σ).bind fun q => k (vI q.1) q.2
    | false => none
  | _ => none
-- M_laysAside (I)V
def M_laysAside_L2 : Nat → Int32 → Int32 → Sg → Option (Sg)
  | 0, _, _, _ => none
  | n + 1, v1, v2, σ =>
    if v2 < (24 : Int32) then
      if (((24 : Int32) * v1) + v2) < 0 then none else if 72 ≤ (((24 : Int32) * v1) + v2).toNatClampNeg then none else
      if v2 < 0 then none else if 24 ≤ v2.toNatClampNeg then none else
      let σ1 := upd3 σ 44 0 v2.toNatClampNeg (σ 34 0 (((24 : Int32) * v1) + v2).toNatClampNeg)
      M_laysAside_L2 n v1 (v2 + 1) σ1
    else
      some σ
def M_laysAside (p1 : Int32) (σ : Sg) : Option (Sg) :=
  M_laysAside_L2 FU p1 (0 : Int32) σ
def cp_M_laysAside {R : Type} (as : List AV) (σ : Sg) (k : AV → Sg → Option R) : Option R := match as with
  | [.inr (.inr (.inl (g1, i1))), .inl p1] => match Nat.beq g1 30 && Nat.beq i1 0 with
    | true => (M_laysAside p1 σ).bind fun q => k vU q
    | false => none
  | _ => none
-- M_laysBack (I)V
def M_laysBack_L2 : Nat → Int32 → Int32 → Sg → Option (Sg)
  | 0, _, _, _ => none
  | n + 1, v1, v2, σ =>
    if v2 < (24 : Int32) then
      if v2 < 0 then none else if 24 ≤ v2.toNatClampNeg then none else
      if (((24 : Int32) * v1) + v2) < 0 then none else if 72 ≤ (((24 : Int32) * v1) + v2).toNatClampNeg then none else
      let σ1 := upd3 σ 34 0 ((((24 : Int32) * v1) + v2).toNatClampNeg) (σ 44 0 v2.toNatClampNeg)
      M_laysBack_L2 n v1 (v2 + 1) σ1
    else
      some σ
def M_laysBack (p1 : Int32) (σ : Sg) : Option (Sg) :=
  M_laysBack_L2 FU p1 (0 : Int32) σ
def cp_M_laysBack {R : Type} (as : List AV) (σ : Sg) (k : AV → Sg → Option R) : Option R := match as with
  | [.inr (.inr (.inl (g1, i1))), .inl p1] => match Nat.beq g1 30 && Nat.beq i1 0 with
    | true => (M_laysBack p1 σ).bind fun q => k vU q
    | false => none
  | _ => none
-- M_pushes (III)I
def M_pushes_L50 : Nat → Int32 → Int32 → Int32 → Int32 → Int32 → Int32 → Sg → Option (Int32 × Sg)
  | 0, _, _, _, _, _, _, _ => none
  | n + 1, v1, v2, v3, v4, v5, v6, σ =>
    if v6 < (24 : Int32) then
      (M_pushed v1 v6 v2 σ).bind fun σ1 =>
      (M_cheapOf v1 σ1).bind fun q2 =>
      (M_laysBack v1 q2.2).bind fun σ3 =>
      if q2.1 < v5 then
        M_pushes_L50 n v1 v2 v3 v6 q2.1 (v6 + 1) σ3
      else
        M_pushes_L50 n v1 v2 v3 v4 v5 (v6 + 1) σ3
    else
      if v3 = 0 then
        some (v4, σ)
      else
        some (v5, σ)
def M_pushes (p1 : Int32) (p2 : Int32) (p3 : Int32) (σ : Sg) : Option (Int32 × Sg) :=
  (M_isOne p1 σ).bind fun q4 =>
  if q4.1 = 0 then
    some ((-2 : Int32), q4.2)
  else
    (M_in (p2).toInt64 (-99 : Int64) (99 : Int64) q4.2).bind fun q5 =>
    if q5.1 = 0 then
      some ((-2 : Int32), q5.2)
    else
      (M_in (p3).toInt64 (0 : Int64) (1 : Int64) q5.2).bind fun q6 =>
      if q6.1 = 0 then
        some ((-2 : Int32), q6.2)
      else
        (M_laysAside p1 q6.2).bind fun σ7 =>
        M_pushes_L50 FU p1 p2 p3 (-1 : Int32) (1000000 : Int32) (0 : Int32) σ7
def cp_M_pushes {R : Type} (as : List AV) (σ : Sg) (k : AV → Sg → Option R) : Option R := match as with
  | [.inr (.inr (.inl (g1, i1))), .inl p1, .inl p2, .inl p3] => match Nat.beq g1 30 && Nat.beq i1 0 with
    | true => (M_pushes p1 p2 p3 σ).bind fun q => k (vI q.1) q.2
    | false => none
  | _ => none
-- M_apart (II)I
def M_apart_L5 : Nat → Int32 → Int32 → Int32 → Int32 → Sg → Option (Int32 × Sg)
  | 0, _, _, _, _, _ => none
  | n + 1, v1, v2, v3, v4, σ =>
    if v4 < (24 : Int32) then
      if (((24 : Int32) * v1) + v4) < 0 then none else if 72 ≤ (((24 : Int32) * v1) + v4).toNatClampNeg then none else
      if (((24 : Int32) * v2) + v4) < 0 then none else if 72 ≤ (((24 : Int32) * v2) + v4).toNatClampNeg then none else
      let x1 := ((σ 34 0 (((24 : Int32) * v1) + v4).toNatClampNeg) - (σ 34 0 (((24 : Int32) * v2) + v4).toNatClampNeg))
      if x1 < 0 then
        M_apart_L5 n v1 v2 (v3 + (-x1)) (v4 + 1) σ
      else
        M_apart_L5 n v1 v2 (v3 + x1) (v4 + 1) σ
    else
      some (v3, σ)
def M_apart (p1 : Int32) (p2 : Int32) (σ : Sg) : Option (Int32 × Sg) :=
  M_apart_L5 FU p1 p2 (0 : Int32) (0 : Int32) σ
def cp_M_apart {R : Type} (as : List AV) (σ : Sg) (k : AV → Sg → Option R) : Option R := match as with
  | [.inr (.inr (.inl (g1, i1))), .inl p1, .inl p2] => match Nat.beq g1 30 && Nat.beq i1 0 with
    | true => (M_apart p1 p2 σ).bind fun q => k (vI q.1) q.2
    | false => none
  | _ => none
-- M_all (I)I
def M_all_J97 (v1 : Int32) (v2 : Int32) (w0 : Int32) (σ : Sg) : Option (Int32 × Sg) :=
  if v1 = 0 then
    some (v2, σ)
  else
    if v1 = (1 : Int32) then
      some (w0, σ)
    else
      (M_apart (w0 / (10 : Int32)) (w0 - w0 / (10 : Int32) * (10 : Int32)) σ).bind fun q1 =>
      some (q1.1, q1.2)
def M_all_J75 (v1 : Int32) (v2 : Int32) (w0 : Int32) (σ : Sg) : Option (Int32 × Sg) :=
  (M_apart (1 : Int32) (2 : Int32) σ).bind fun q2 =>
  (M_apart (0 : Int32) w0 q2.2).bind fun q3 =>
  if q2.1 < q3.1 then
    M_all_J97 v1 v2 (12 : Int32) q3.2
  else
    M_all_J97 v1 v2 w0 q3.2
def M_all_J55 (v1 : Int32) (v2 : Int32) (σ : Sg) : Option (Int32 × Sg) :=
  (M_apart (0 : Int32) (2 : Int32) σ).bind fun q4 =>
  (M_apart (0 : Int32) (1 : Int32) q4.2).bind fun q5 =>
  if q4.1 < q5.1 then
    M_all_J75 v1 v2 (2 : Int32) q5.2
  else
    M_all_J75 v1 v2 (1 : Int32) q5.2
def M_all_L19 : Nat → Int32 → Int32 → Int32 → Sg → Option (Int32 × Sg)
  | 0, _, _, _, _ => none
  | n + 1, v1, v2, v3, σ =>
    if v3 < (σ 30 0 10) then
      if v1 = 0 then
        (M_hoursOf v3 σ).bind fun q6 =>
        if q6.1 = 0 then
          M_all_L19 n v1 (v2 ||| ((1 : Int32) <<< (v3 &&& 31))) (v3 + 1) q6.2
        else
          M_all_L19 n v1 (v2 ||| ((0 : Int32) <<< (v3 &&& 31))) (v3 + 1) q6.2
      else
        M_all_J55 v1 v2 σ
    else
      M_all_J55 v1 v2 σ
def M_all (p1 : Int32) (σ : Sg) : Option (Int32 × Sg) :=
  (M_in (p1).toInt64 (0 : Int64) (2 : Int64) σ).bind fun q7 =>
  if q7.1 = 0 then
    some ((-2 : Int32), q7.2)
  else
    M_all_L19 FU p1 (0 : Int32) (0 : Int32) q7.2
def cp_M_all {R : Type} (as : List AV) (σ : Sg) (k : AV → Sg → Option R) : Option R := match as with
  | [.inr (.inr (.inl (g1, i1))), .inl p1] => match Nat.beq g1 30 && Nat.beq i1 0 with
    | true => (M_all p1 σ).bind fun q => k (vI q.1) q.2
    | false => none
  | _ => none
-- M_lowest (JJI)J
def M_lowest_L6 : Nat → Int64 → Int64 → Int32 → Int64 → Int64 → Sg → Option (Int64 × Sg)
  | 0, _, _, _, _, _, _ => none
  | n + 1, v0, v2, v4, v5, v7, σ =>
    if (lg_cmp v7 (0 : Int64)) = 0 then
      if v4 = 0 then
        if v5 = 0 then none else
        some ((v0 / v5), σ)
      else
        if v5 = 0 then none else
        some ((v2 / v5), σ)
    else
      if v7 = 0 then none else
      M_lowest_L6 n v0 v2 v4 v7 (v5 - v5 / v7 * v7) σ
def M_lowest (p0 : Int64) (p1 : Int64) (p2 : Int32) (σ : Sg) : Option (Int64 × Sg) :=
  M_lowest_L6 FU p0 p1 p2 p0 p1 σ
def cp_M_lowest {R : Type} (as : List AV) (σ : Sg) (k : AV → Sg → Option R) : Option R := match as with
  | [.inr (.inl p0), .inr (.inl p1), .inl p2] => (M_lowest p0 p1 p2 σ).bind fun q => k (vL q.1) q.2
  | _ => none
-- M_mean (II)J
def M_mean_L26 : Nat → Int32 → Int32 → Int32 → Int32 → Sg → Option (Int64 × Sg)
  | 0, _, _, _, _, _ => none
  | n + 1, v1, v2, v3, v4, σ =>
    if v4 < (24 : Int32) then
      if (((24 : Int32) * v1) + v4) < 0 then none else if 72 ≤ (((24 : Int32) * v1) + v4).toNatClampNeg then none else
      M_mean_L26 n v1 v2 (v3 + (σ 34 0 (((24 : Int32) * v1) + v4).toNatClampNeg)) (v4 + 1) σ
    else
      (M_lowest (v3).toInt64 (24 : Int64) v2 σ).bind fun q1 =>
      some (q1.1, q1.2)
def M_mean (p1 : Int32) (p2 : Int32) (σ : Sg) : Option (Int64 × Sg) :=
  (M_isOne p1 σ).bind fun q2 =>
  if q2.1 = 0 then
    some ((-4611686018427387904 : Int64), q2.2)
  else
    (M_in (p2).toInt64 (0 : Int64) (1 : Int64) q2.2).bind fun q3 =>
    if q3.1 = 0 then
      some ((-4611686018427387904 : Int64), q3.2)
    else
      M_mean_L26 FU p1 p2 (0 : Int32) (0 : Int32) q3.2
def cp_M_mean {R : Type} (as : List AV) (σ : Sg) (k : AV → Sg → Option R) : Option R := match as with
  | [.inr (.inr (.inl (g1, i1))), .inl p1, .inl p2] => match Nat.beq g1 30 && Nat.beq i1 0 with
    | true => (M_mean p1 p2 σ).bind fun q => k (vL q.1) q.2
    | false => none
  | _ => none
-- M_firstOther (III)I
def M_firstOther_J30 (k3 : Int32 → Int32 → Int32 → Int32 → Sg → Option (Int32 × Sg)) (v1 : Int32) (v2 : Int32) (v3 : Int32) (v4 : Int32) (w0 : Int32) (σ : Sg) : Option (Int32 × Sg) :=
  if (((40 : Int32) * v1) + v4) < 0 then none else if 160 ≤ (((40 : Int32) * v1) + v4).toNatClampNeg then none else
  if w0 = (σ 50 0 (((40 : Int32) * v1) + v4).toNatClampNeg) then
    k3 v1 v2 v3 (v4 + 1) σ
  else
    some (v4, σ)
def M_firstOther_L3 : Nat → Int32 → Int32 → Int32 → Int32 → Sg → Option (Int32 × Sg)
  | 0, _, _, _, _, _ => none
  | n + 1, v1, v2, v3, v4, σ =>
    if v1 < 0 then none else if 4 ≤ v1.toNatClampNeg then none else
    if v4 < (σ 49 0 v1.toNatClampNeg) then
      (M_fits v2 v4 v3 σ).bind fun q1 =>
      if q1.1 = 0 then
        M_firstOther_J30 (fun y0 y1 y2 y3 τ => M_firstOther_L3 n y0 y1 y2 y3 τ) v1 v2 v3 v4 (0 : Int32) q1.2
      else
        M_firstOther_J30 (fun y0 y1 y2 y3 τ => M_firstOther_L3 n y0 y1 y2 y3 τ) v1 v2 v3 v4 (1 : Int32) q1.2
    else
      some ((-1 : Int32), σ)
def M_firstOther (p1 : Int32) (p2 : Int32) (p3 : Int32) (σ : Sg) : Option (Int32 × Sg) :=
  M_firstOther_L3 FU p1 p2 p3 (0 : Int32) σ
def cp_M_firstOther {R : Type} (as : List AV) (σ : Sg) (k : AV → Sg → Option R) : Option R := match as with
  | [.inr (.inr (.inl (g1, i1))), .inl p1, .inl p2, .inl p3] => match Nat.beq g1 30 && Nat.beq i1 0 with
    | true => (M_firstOther p1 p2 p3 σ).bind fun q => k (vI q.1) q.2
    | false => none
  | _ => none
-- M_hourSet (II)I
def M_hourSet_L5 : Nat → Int32 → Int32 → Int32 → Int32 → Sg → Option (Int32 × Sg)
  | 0, _, _, _, _, _ => none
  | n + 1, v1, v2, v3, v4, σ =>
    if v4 < (24 : Int32) then
      (M_firstOther v1 v2 v4 σ).bind fun q1 =>
      if q1.1 = (-1 : Int32) then
        M_hourSet_L5 n v1 v2 (v3 ||| ((1 : Int32) <<< (v4 &&& 31))) (v4 + 1) q1.2
      else
        M_hourSet_L5 n v1 v2 (v3 ||| ((0 : Int32) <<< (v4 &&& 31))) (v4 + 1) q1.2
    else
      some (v3, σ)
def M_hourSet (p1 : Int32) (p2 : Int32) (σ : Sg) : Option (Int32 × Sg) :=
  M_hourSet_L5 FU p1 p2 (0 : Int32) (0 : Int32) σ
def cp_M_hourSet {R : Type} (as : List AV) (σ : Sg) (k : AV → Sg → Option R) : Option R := match as with
  | [.inr (.inr (.inl (g1, i1))), .inl p1, .inl p2] => match Nat.beq g1 30 && Nat.beq i1 0 with
    | true => (M_hourSet p1 p2 σ).bind fun q => k (vI q.1) q.2
    | false => none
  | _ => none
-- M_tells (IIII)I
def M_tells_L203 : Nat → Int32 → Int32 → Int32 → Int32 → Int32 → Int32 → Int32 → Int32 → Int32 → Int32 → Sg → Option (Int32 × Sg)
  | 0, _, _, _, _, _, _, _, _, _, _, _ => none
  | n + 1, v1, v2, v3, v4, v5, v6, v8, v9, v10, v11, σ =>
    if v11 < 0 then
      (M_lays v5 v2 v6 σ).bind fun σ1 =>
      if v4 = (3 : Int32) then
        some (v9, σ1)
      else
        if v4 = (5 : Int32) then
          some (v9, σ1)
        else
          if v4 = (4 : Int32) then
            some (v10, σ1)
          else
            if v4 = (6 : Int32) then
              some (v10, σ1)
            else
              some (v8, σ1)
    else
      (M_lays v5 v2 v11 σ).bind fun σ2 =>
      (M_firstOther v1 v2 v3 σ2).bind fun q3 =>
      if q3.1 = (-1 : Int32) then
        if v11 < (10 : Int32) then
          M_tells_L203 n v1 v2 v3 v4 v5 v6 (v8 ||| ((1 : Int32) <<< (v11 &&& 31))) (v9 + 1) v11 (v11 + (-1)) q3.2
        else
          M_tells_L203 n v1 v2 v3 v4 v5 v6 (v8 ||| (0 : Int32)) (v9 + 1) v11 (v11 + (-1)) q3.2
      else
        M_tells_L203 n v1 v2 v3 v4 v5 v6 v8 v9 v10 (v11 + (-1)) q3.2
def M_tells_J148 (v1 : Int32) (v2 : Int32) (v3 : Int32) (v4 : Int32) (v5 : Int32) (w0 : Int32) (σ : Sg) : Option (Int32 × Sg) :=
  if v5 = (5 : Int32) then
    M_tells_L203 FU v1 v2 v3 v4 v5 w0 (0 : Int32) (0 : Int32) (-1 : Int32) ((σ 30 0 3) - (1 : Int32)) σ
  else
    if v5 = (4 : Int32) then
      M_tells_L203 FU v1 v2 v3 v4 v5 w0 (0 : Int32) (0 : Int32) (-1 : Int32) (5 : Int32) σ
    else
      if v5 = (1 : Int32) then
        M_tells_L203 FU v1 v2 v3 v4 v5 w0 (0 : Int32) (0 : Int32) (-1 : Int32) (9 : Int32) σ
      else
        M_tells_L203 FU v1 v2 v3 v4 v5 w0 (0 : Int32) (0 : Int32) (-1 : Int32) (99 : Int32) σ
def M_tells_J126 (v1 : Int32) (v2 : Int32) (v3 : Int32) (v4 : Int32) (w0 : Int32) (σ : Sg) : Option (Int32 × Sg) :=
  if w0 = (5 : Int32) then
    M_tells_J148 v1 v2 v3 v4 w0 (σ 30 0 4) σ
  else
    (M_told v2 w0 σ).bind fun q4 =>
    M_tells_J148 v1 v2 v3 v4 w0 q4.1 q4.2
def M_tells_J84 (v1 : Int32) (v2 : Int32) (v3 : Int32) (v4 : Int32) (σ : Sg) : Option (Int32 × Sg) :=
  if v4 = (1 : Int32) then
    M_tells_J126 v1 v2 v3 v4 (4 : Int32) σ
  else
    if v4 = (2 : Int32) then
      M_tells_J126 v1 v2 v3 v4 (1 : Int32) σ
    else
      if v4 < (5 : Int32) then
        M_tells_J126 v1 v2 v3 v4 (2 : Int32) σ
      else
        if v4 < (7 : Int32) then
          M_tells_J126 v1 v2 v3 v4 (3 : Int32) σ
        else
          M_tells_J126 v1 v2 v3 v4 (5 : Int32) σ
def M_tells_J62 (v1 : Int32) (v2 : Int32) (v3 : Int32) (v4 : Int32) (σ : Sg) : Option (Int32 × Sg) :=
  if v4 = 0 then
    (M_firstOther v1 v2 v3 σ).bind fun q6 =>
    some (q6.1, q6.2)
  else
    (M_hourSet v1 v2 σ).bind fun q5 =>
    some (q5.1, q5.2)
def M_tells_J50 (v1 : Int32) (v2 : Int32) (v3 : Int32) (v4 : Int32) (σ : Sg) : Option (Int32 × Sg) :=
  if v4 = 0 then
    M_tells_J62 v1 v2 v3 v4 σ
  else
    if v4 = (8 : Int32) then
      M_tells_J62 v1 v2 v3 v4 σ
    else
      M_tells_J84 v1 v2 v3 v4 σ
def M_tells (p1 : Int32) (p2 : Int32) (p3 : Int32) (p4 : Int32) (σ : Sg) : Option (Int32 × Sg) :=
  (M_isSheet p1 σ).bind fun q7 =>
  if q7.1 = 0 then
    some ((-2 : Int32), q7.2)
  else
    (M_isCoat p2 q7.2).bind fun q8 =>
    if q8.1 = 0 then
      some ((-2 : Int32), q8.2)
    else
      (M_isHour p3 q8.2).bind fun q9 =>
      if q9.1 = 0 then
        some ((-2 : Int32), q9.2)
      else
        (M_in (p4).toInt64 (0 : Int64) (8 : Int64) q9.2).bind fun q10 =>
        if q10.1 = 0 then
          some ((-2 : Int32), q10.2)
        else
          if p1 < 0 then none else if 4 ≤ p1.toNatClampNeg then none else
          if (q10.2 47 0 p1.toNatClampNeg) = 0 then
            some ((-11 : Int32), q10.2)
          else
            M_tells_J50 p1 p2 p3 p4 q10.2
def cp_M_tells {R : Type} (as : List AV) (σ : Sg) (k : AV → Sg → Option R) : Option R := match as with
  | [.inr (.inr (.inl (g1, i1))), .inl p1, .inl p2, .inl p3, .inl p4] => match Nat.beq g1 30 && Nat.beq i1 0 with
    | true => (M_tells p1 p2 p3 p4 σ).bind fun q => k (vI q.1) q.2
    | false => none
  | _ => none
-- M_film (IIII)I
def M_film_J76 (k53 : Int32 → Int32 → Int32 → Int32 → Int32 → Int32 → Sg → Option (Int32 × Sg)) (v1 : Int32) (v2 : Int32) (v3 : Int32) (v4 : Int32) (v5 : Int32) (v6 : Int32) (w0 : Int32) (σ : Sg) : Option (Int32 × Sg) :=
  if (((40 : Int32) * v1) + v6) < 0 then none else if 160 ≤ (((40 : Int32) * v1) + v6).toNatClampNeg then none else
  let σ1 := upd3 σ 50 0 ((((40 : Int32) * v1) + v6).toNatClampNeg) w0
  k53 v1 v2 v3 v4 (v5 + w0) (v6 + 1) σ1
def M_film_L53 : Nat → Int32 → Int32 → Int32 → Int32 → Int32 → Int32 → Sg → Option (Int32 × Sg)
  | 0, _, _, _, _, _, _, _ => none
  | n + 1, v1, v2, v3, v4, v5, v6, σ =>
    if v6 < v4 then
      (M_fits v2 v6 v3 σ).bind fun q2 =>
      if q2.1 = 0 then
        M_film_J76 (fun y0 y1 y2 y3 y4 y5 τ => M_film_L53 n y0 y1 y2 y3 y4 y5 τ) v1 v2 v3 v4 v5 v6 (0 : Int32) q2.2
      else
        M_film_J76 (fun y0 y1 y2 y3 y4 y5 τ => M_film_L53 n y0 y1 y2 y3 y4 y5 τ) v1 v2 v3 v4 v5 v6 (1 : Int32) q2.2
    else
      some (v5, σ)
def M_film (p1 : Int32) (p2 : Int32) (p3 : Int32) (p4 : Int32) (σ : Sg) : Option (Int32 × Sg) :=
  (M_isSheet p1 σ).bind fun q3 =>
  if q3.1 = 0 then
    some ((-2 : Int32), q3.2)
  else
    (M_isCoat p2 q3.2).bind fun q4 =>
    if q4.1 = 0 then
      some ((-2 : Int32), q4.2)
    else
      (M_isHour p3 q4.2).bind fun q5 =>
      if q5.1 = 0 then
        some ((-2 : Int32), q5.2)
      else
        (M_in (p4).toInt64 (0 : Int64) (40 : Int64) q5.2).bind fun q6 =>
        if q6.1 = 0 then
          some ((-2 : Int32), q6.2)
        else
          (M_sheet p1 (0 : Int32) p4 q6.2).bind fun q7 =>
          M_film_L53 FU p1 p2 p3 p4 (0 : Int32) (0 : Int32) q7.2
def cp_M_film {R : Type} (as : List AV) (σ : Sg) (k : AV → Sg → Option R) : Option R := match as with
  | [.inr (.inr (.inl (g1, i1))), .inl p1, .inl p2, .inl p3, .inl p4] => match Nat.beq g1 30 && Nat.beq i1 0 with
    | true => (M_film p1 p2 p3 p4 σ).bind fun q => k (vI q.1) q.2
    | false => none
  | _ => none
-- M_cheapDrawn (II)I
def M_cheapDrawn_L10 : Nat → Int32 → Int32 → Int32 → Sg → Option (Int32 × Sg)
  | 0, _, _, _, _ => none
  | n + 1, v2, v3, v4, σ =>
    if v4 < (24 : Int32) then
      if (((24 : Int32) * v2) + v4) < 0 then none else if 72 ≤ (((24 : Int32) * v2) + v4).toNatClampNeg then none else
      let σ3 := upd3 σ 34 0 ((((24 : Int32) * v2) + v4).toNatClampNeg) (((((v3 * (1103515245 : Int32)) + (12345 : Int32))).toUInt32 >>> (((9 : Int32)).toUInt32 &&& 31)).toInt32 - ((((v3 * (1103515245 : Int32)) + (12345 : Int32))).toUInt32 >>> (((9 : Int32)).toUInt32 &&& 31)).toInt32 / (100 : Int32) * (100 : Int32))
      M_cheapDrawn_L10 n v2 ((v3 * (1103515245 : Int32)) + (12345 : Int32)) (v4 + 1) σ3
    else
      (M_cheapOf v2 σ).bind fun q1 =>
      (M_laysBack v2 q1.2).bind fun σ2 =>
      some (q1.1, σ2)
def M_cheapDrawn (p1 : Int32) (p2 : Int32) (σ : Sg) : Option (Int32 × Sg) :=
  (M_laysAside p2 σ).bind fun σ4 =>
  M_cheapDrawn_L10 FU p2 p1 (0 : Int32) σ4
def cp_M_cheapDrawn {R : Type} (as : List AV) (σ : Sg) (k : AV → Sg → Option R) : Option R := match as with
  | [.inr (.inr (.inl (g1, i1))), .inl p1, .inl p2] => match Nat.beq g1 30 && Nat.beq i1 0 with
    | true => (M_cheapDrawn p1 p2 σ).bind fun q => k (vI q.1) q.2
    | false => none
  | _ => none
-- M_drawn (II)I
def M_drawn (p1 : Int32) (p2 : Int32) (σ : Sg) : Option (Int32 × Sg) :=
  (M_isOne p2 σ).bind fun q1 =>
  if q1.1 = 0 then
    some ((-2 : Int32), q1.2)
  else
    (M_cheapDrawn p1 p2 q1.2).bind fun q2 =>
    some (q2.1, q2.2)
def cp_M_drawn {R : Type} (as : List AV) (σ : Sg) (k : AV → Sg → Option R) : Option R := match as with
  | [.inr (.inr (.inl (g1, i1))), .inl p1, .inl p2] => match Nat.beq g1 30 && Nat.beq i1 0 with
    | true => (M_drawn p1 p2 σ).bind fun q => k (vI q.1) q.2
    | false => none
  | _ => none
-- M_chance (IIIII)J
def M_chance_L53 : Nat → Int32 → Int32 → Int32 → Int32 → Int32 → Int64 → Int32 → Sg → Option (Int64 × Sg)
  | 0, _, _, _, _, _, _, _, _ => none
  | n + 1, v1, v2, v3, v4, v5, v6, v8, σ =>
    if v8 < v2 then
      (M_cheapDrawn (v1 + v8) v3 σ).bind fun q2 =>
      if v4 < q2.1 then
        M_chance_L53 n v1 v2 v3 v4 v5 (v6 + (0 : Int64)) (v8 + 1) q2.2
      else
        M_chance_L53 n v1 v2 v3 v4 v5 (v6 + (1 : Int64)) (v8 + 1) q2.2
    else
      (M_lowest v6 (v2).toInt64 v5 σ).bind fun q1 =>
      some (q1.1, q1.2)
def M_chance (p1 : Int32) (p2 : Int32) (p3 : Int32) (p4 : Int32) (p5 : Int32) (σ : Sg) : Option (Int64 × Sg) :=
  (M_in (p2).toInt64 (1 : Int64) (10 : Int64) σ).bind fun q3 =>
  if q3.1 = 0 then
    some ((-4611686018427387904 : Int64), q3.2)
  else
    (M_isOne p3 q3.2).bind fun q4 =>
    if q4.1 = 0 then
      some ((-4611686018427387904 : Int64), q4.2)
    else
      (M_in (p4).toInt64 (0 : Int64) (9999 : Int64) q4.2).bind fun q5 =>
      if q5.1 = 0 then
        some ((-4611686018427387904 : Int64), q5.2)
      else
        (M_in (p5).toInt64 (0 : Int64) (1 : Int64) q5.2).bind fun q6 =>
        if q6.1 = 0 then
          some ((-4611686018427387904 : Int64), q6.2)
        else
          M_chance_L53 FU p1 p2 p3 p4 p5 (0 : Int64) (0 : Int32) q6.2
def cp_M_chance {R : Type} (as : List AV) (σ : Sg) (k : AV → Sg → Option R) : Option R := match as with
  | [.inr (.inr (.inl (g1, i1))), .inl p1, .inl p2, .inl p3, .inl p4, .inl p5] => match Nat.beq g1 30 && Nat.beq i1 0 with
    | true => (M_chance p1 p2 p3 p4 p5 σ).bind fun q => k (vL q.1) q.2
    | false => none
  | _ => none
-- M_image ()I
def M_image_L28 : Nat → Int32 → Sg → Option (Int32 × Sg)
  | 0, _, _ => none
  | n + 1, v1, σ =>
    if v1 < (24 : Int32) then
      if v1 < 0 then none else if 24 ≤ v1.toNatClampNeg then none else
      if v1 < 0 then none else if 24 ≤ v1.toNatClampNeg then none else
      let σ3 := upd3 σ 46 0 v1.toNatClampNeg (σ 36 0 v1.toNatClampNeg)
      M_image_L28 n (v1 + 1) σ3
    else
      let σ1 := upd3 σ 30 0 36 (σ 30 0 10)
      let σ2 := upd3 σ1 30 0 37 (σ1 30 0 4)
      some ((σ2 30 0 10), σ2)
def M_image_L2 : Nat → Int32 → Sg → Option (Int32 × Sg)
  | 0, _, _ => none
  | n + 1, v1, σ =>
    if v1 < (72 : Int32) then
      if v1 < 0 then none else if 72 ≤ v1.toNatClampNeg then none else
      if v1 < 0 then none else if 72 ≤ v1.toNatClampNeg then none else
      let σ4 := upd3 σ 45 0 v1.toNatClampNeg (σ 34 0 v1.toNatClampNeg)
      M_image_L2 n (v1 + 1) σ4
    else
      M_image_L28 FU (0 : Int32) σ
def M_image (σ : Sg) : Option (Int32 × Sg) :=
  M_image_L2 FU (0 : Int32) σ
def cp_M_image {R : Type} (as : List AV) (σ : Sg) (k : AV → Sg → Option R) : Option R := match as with
  | [.inr (.inr (.inl (g1, i1)))] => match Nat.beq g1 30 && Nat.beq i1 0 with
    | true => (M_image σ).bind fun q => k (vI q.1) q.2
    | false => none
  | _ => none
-- M_back ()I
def M_back_L39 : Nat → Int32 → Sg → Option (Int32 × Sg)
  | 0, _, _ => none
  | n + 1, v1, σ =>
    if v1 < (24 : Int32) then
      if v1 < 0 then none else if 24 ≤ v1.toNatClampNeg then none else
      if v1 < 0 then none else if 24 ≤ v1.toNatClampNeg then none else
      let σ3 := upd3 σ 36 0 v1.toNatClampNeg (σ 46 0 v1.toNatClampNeg)
      M_back_L39 n (v1 + 1) σ3
    else
      let σ1 := upd3 σ 30 0 10 (σ 30 0 36)
      let σ2 := upd3 σ1 30 0 4 (σ1 30 0 37)
      some ((σ2 30 0 10), σ2)
def M_back_L13 : Nat → Int32 → Sg → Option (Int32 × Sg)
  | 0, _, _ => none
  | n + 1, v1, σ =>
    if v1 < (72 : Int32) then
      if v1 < 0 then none else if 72 ≤ v1.toNatClampNeg then none else
      if v1 < 0 then none else if 72 ≤ v1.toNatClampNeg then none else
      let σ4 := upd3 σ 34 0 v1.toNatClampNeg (σ 45 0 v1.toNatClampNeg)
      M_back_L13 n (v1 + 1) σ4
    else
      M_back_L39 FU (0 : Int32) σ
def M_back (σ : Sg) : Option (Int32 × Sg) :=
  if (σ 30 0 36) = (-1 : Int32) then
    some ((-3 : Int32), σ)
  else
    M_back_L13 FU (0 : Int32) σ
def cp_M_back {R : Type} (as : List AV) (σ : Sg) (k : AV → Sg → Option R) : Option R := match as with
  | [.inr (.inr (.inl (g1, i1)))] => match Nat.beq g1 30 && Nat.beq i1 0 with
    | true => (M_back σ).bind fun q => k (vI q.1) q.2
    | false => none
  | _ => none
-- M_count (I)I
def M_count_L19 : Nat → Int32 → Int32 → Int32 → Sg → Option (Int32 × Sg)
  | 0, _, _, _, _ => none
  | n + 1, v1, v2, v3, σ =>
    if v3 < (σ 30 0 10) then
      if (((3 : Int32) * v3) + (2 : Int32)) < 0 then none else if 24 ≤ (((3 : Int32) * v3) + (2 : Int32)).toNatClampNeg then none else
      M_count_L19 n v1 (v2 + (σ 36 0 (((3 : Int32) * v3) + (2 : Int32)).toNatClampNeg)) (v3 + 1) σ
    else
      if v1 = 0 then
        some ((σ 30 0 10), σ)
      else
        if v1 = (1 : Int32) then
          some (v2, σ)
        else
          if v1 = (2 : Int32) then
            some ((σ 30 0 3), σ)
          else
            if v1 = (3 : Int32) then
              some ((σ 30 0 6), σ)
            else
              some ((σ 30 0 4), σ)
def M_count (p1 : Int32) (σ : Sg) : Option (Int32 × Sg) :=
  (M_in (p1).toInt64 (0 : Int64) (4 : Int64) σ).bind fun q1 =>
  if q1.1 = 0 then
    some ((-2 : Int32), q1.2)
  else
    M_count_L19 FU p1 (0 : Int32) (0 : Int32) q1.2
def cp_M_count {R : Type} (as : List AV) (σ : Sg) (k : AV → Sg → Option R) : Option R := match as with
  | [.inr (.inr (.inl (g1, i1))), .inl p1] => match Nat.beq g1 30 && Nat.beq i1 0 with
    | true => (M_count p1 σ).bind fun q => k (vI q.1) q.2
    | false => none
  | _ => none
-- M_cell (III)I
def M_cell (p1 : Int32) (p2 : Int32) (p3 : Int32) (σ : Sg) : Option (Int32 × Sg) :=
  (M_isSheet p1 σ).bind fun q1 =>
  if q1.1 = 0 then
    some ((-2 : Int32), q1.2)
  else
    if p1 < 0 then none else if 4 ≤ p1.toNatClampNeg then none else
    if (q1.2 47 0 p1.toNatClampNeg) = 0 then
      some ((-11 : Int32), q1.2)
    else
      if p1 < 0 then none else if 4 ≤ p1.toNatClampNeg then none else
      (M_in (p2).toInt64 (0 : Int64) (((q1.2 49 0 p1.toNatClampNeg) - (1 : Int32))).toInt64 q1.2).bind fun q2 =>
      if q2.1 = 0 then
        some ((-12 : Int32), q2.2)
      else
        if p1 < 0 then none else if 4 ≤ p1.toNatClampNeg then none else
        if (q2.2 48 0 p1.toNatClampNeg) = 0 then
          if (((40 : Int32) * p1) + p2) < 0 then none else if 160 ≤ (((40 : Int32) * p1) + p2).toNatClampNeg then none else
          let σ5 := upd3 q2.2 50 0 ((((40 : Int32) * p1) + p2).toNatClampNeg) (p3).toInt8.toInt32
          some ((1 : Int32), σ5)
        else
          if p1 < 0 then none else if 4 ≤ p1.toNatClampNeg then none else
          if (q2.2 48 0 p1.toNatClampNeg) = (1 : Int32) then
            if (((40 : Int32) * p1) + p2) < 0 then none else if 160 ≤ (((40 : Int32) * p1) + p2).toNatClampNeg then none else
            let σ4 := upd3 q2.2 50 0 ((((40 : Int32) * p1) + p2).toNatClampNeg) (p3).toInt16.toInt32
            some ((1 : Int32), σ4)
          else
            if (((40 : Int32) * p1) + p2) < 0 then none else if 160 ≤ (((40 : Int32) * p1) + p2).toNatClampNeg then none else
            let σ3 := upd3 q2.2 50 0 ((((40 : Int32) * p1) + p2).toNatClampNeg) p3
            some ((1 : Int32), σ3)
def cp_M_cell {R : Type} (as : List AV) (σ : Sg) (k : AV → Sg → Option R) : Option R := match as with
  | [.inr (.inr (.inl (g1, i1))), .inl p1, .inl p2, .inl p3] => match Nat.beq g1 30 && Nat.beq i1 0 with
    | true => (M_cell p1 p2 p3 σ).bind fun q => k (vI q.1) q.2
    | false => none
  | _ => none
-- M_copy (IIIII)I
def M_copy_J145 (k121 : Int32 → Int32 → Int32 → Int32 → Int32 → Int32 → Int32 → Sg → Option (Int32 × Sg)) (v1 : Int32) (v2 : Int32) (v3 : Int32) (v4 : Int32) (v5 : Int32) (v6 : Int32) (v7 : Int32) (w0 : Int32) (σ : Sg) : Option (Int32 × Sg) :=
  if ((((40 : Int32) * v1) + v2) + w0) < 0 then none else if 160 ≤ ((((40 : Int32) * v1) + v2) + w0).toNatClampNeg then none else
  if ((((40 : Int32) * v3) + v4) + w0) < 0 then none else if 160 ≤ ((((40 : Int32) * v3) + v4) + w0).toNatClampNeg then none else
  let σ1 := upd3 σ 50 0 (((((40 : Int32) * v3) + v4) + w0).toNatClampNeg) (σ 50 0 ((((40 : Int32) * v1) + v2) + w0).toNatClampNeg)
  k121 v1 v2 v3 v4 v5 v6 (v7 + 1) σ1
def M_copy_L121 : Nat → Int32 → Int32 → Int32 → Int32 → Int32 → Int32 → Int32 → Sg → Option (Int32 × Sg)
  | 0, _, _, _, _, _, _, _, _ => none
  | n + 1, v1, v2, v3, v4, v5, v6, v7, σ =>
    if v7 < v5 then
      if v6 = 0 then
        M_copy_J145 (fun y0 y1 y2 y3 y4 y5 y6 τ => M_copy_L121 n y0 y1 y2 y3 y4 y5 y6 τ) v1 v2 v3 v4 v5 v6 v7 v7 σ
      else
        M_copy_J145 (fun y0 y1 y2 y3 y4 y5 y6 τ => M_copy_L121 n y0 y1 y2 y3 y4 y5 y6 τ) v1 v2 v3 v4 v5 v6 v7 ((v5 - (1 : Int32)) - v7) σ
    else
      some (v5, σ)
def M_copy (p1 : Int32) (p2 : Int32) (p3 : Int32) (p4 : Int32) (p5 : Int32) (σ : Sg) : Option (Int32 × Sg) :=
  (M_isSheet p1 σ).bind fun q2 =>
  if q2.1 = 0 then
    some ((-2 : Int32), q2.2)
  else
    (M_isSheet p3 q2.2).bind fun q3 =>
    if q3.1 = 0 then
      some ((-2 : Int32), q3.2)
    else
      if p1 < 0 then none else if 4 ≤ p1.toNatClampNeg then none else
      if (q3.2 47 0 p1.toNatClampNeg) = 0 then
        some ((-11 : Int32), q3.2)
      else
        if p3 < 0 then none else if 4 ≤ p3.toNatClampNeg then none else
        if (q3.2 47 0 p3.toNatClampNeg) = 0 then
          some ((-11 : Int32), q3.2)
        else
          if p1 < 0 then none else if 4 ≤ p1.toNatClampNeg then none else
          if p3 < 0 then none else if 4 ≤ p3.toNatClampNeg then none else
          if (q3.2 48 0 p1.toNatClampNeg) = (q3.2 48 0 p3.toNatClampNeg) then
            if p5 < 0 then
              some ((-12 : Int32), q3.2)
            else
              if p2 < 0 then
                some ((-12 : Int32), q3.2)
              else
                if p4 < 0 then
                  some ((-12 : Int32), q3.2)
                else
                  if p1 < 0 then none else if 4 ≤ p1.toNatClampNeg then none else
                  if ((q3.2 49 0 p1.toNatClampNeg) - p5) < p2 then
                    some ((-12 : Int32), q3.2)
                  else
                    if p3 < 0 then none else if 4 ≤ p3.toNatClampNeg then none else
                    if ((q3.2 49 0 p3.toNatClampNeg) - p5) < p4 then
                      some ((-12 : Int32), q3.2)
                    else
                      if p1 = p3 then
                        if p2 < p4 then
                          M_copy_L121 FU p1 p2 p3 p4 p5 (1 : Int32) (0 : Int32) q3.2
                        else
                          M_copy_L121 FU p1 p2 p3 p4 p5 (0 : Int32) (0 : Int32) q3.2
                      else
                        M_copy_L121 FU p1 p2 p3 p4 p5 (0 : Int32) (0 : Int32) q3.2
          else
            some ((-13 : Int32), q3.2)
def cp_M_copy {R : Type} (as : List AV) (σ : Sg) (k : AV → Sg → Option R) : Option R := match as with
  | [.inr (.inr (.inl (g1, i1))), .inl p1, .inl p2, .inl p3, .inl p4, .inl p5] => match Nat.beq g1 30 && Nat.beq i1 0 with
    | true => (M_copy p1 p2 p3 p4 p5 σ).bind fun q => k (vI q.1) q.2
    | false => none
  | _ => none
-- M_coats (IIII)I
def M_coats_L75 : Nat → Int32 → Int32 → Int32 → Int32 → Int32 → Sg → Option (Int32 × Sg)
  | 0, _, _, _, _, _, _ => none
  | n + 1, v1, v3, v4, v5, v6, σ =>
    if v6 < v4 then
      if v3 < 0 then
        some ((-12 : Int32), σ)
      else
        if v1 < 0 then none else if 4 ≤ v1.toNatClampNeg then none else
        if (((σ 49 0 v1.toNatClampNeg) - ((3 : Int32) * v6)) - (3 : Int32)) < v3 then
          some ((-12 : Int32), σ)
        else
          if ((((40 : Int32) * v1) + v3) + ((3 : Int32) * v6)) < 0 then none else if 160 ≤ ((((40 : Int32) * v1) + v3) + ((3 : Int32) * v6)).toNatClampNeg then none else
          if (((((40 : Int32) * v1) + v3) + ((3 : Int32) * v6)) + (1 : Int32)) < 0 then none else if 160 ≤ (((((40 : Int32) * v1) + v3) + ((3 : Int32) * v6)) + (1 : Int32)).toNatClampNeg then none else
          if (((((40 : Int32) * v1) + v3) + ((3 : Int32) * v6)) + (2 : Int32)) < 0 then none else if 160 ≤ (((((40 : Int32) * v1) + v3) + ((3 : Int32) * v6)) + (2 : Int32)).toNatClampNeg then none else
          (M_coat (σ 50 0 ((((40 : Int32) * v1) + v3) + ((3 : Int32) * v6)).toNatClampNeg) (σ 50 0 (((((40 : Int32) * v1) + v3) + ((3 : Int32) * v6)) + (1 : Int32)).toNatClampNeg) (σ 50 0 (((((40 : Int32) * v1) + v3) + ((3 : Int32) * v6)) + (2 : Int32)).toNatClampNeg) σ).bind fun q1 =>
          if q1.1 < 0 then
            M_coats_L75 n v1 v3 v4 (v5 + (0 : Int32)) (v6 + 1) q1.2
          else
            M_coats_L75 n v1 v3 v4 (v5 + (1 : Int32)) (v6 + 1) q1.2
    else
      some (v5, σ)
def M_coats (p1 : Int32) (p2 : Int32) (p3 : Int32) (p4 : Int32) (σ : Sg) : Option (Int32 × Sg) :=
  (M_isSheet p1 σ).bind fun q2 =>
  if q2.1 = 0 then
    some ((-2 : Int32), q2.2)
  else
    (M_in (p2).toInt64 (0 : Int64) (2 : Int64) q2.2).bind fun q3 =>
    if q3.1 = 0 then
      some ((-2 : Int32), q3.2)
    else
      (M_in (p4).toInt64 (0 : Int64) (8 : Int64) q3.2).bind fun q4 =>
      if q4.1 = 0 then
        some ((-2 : Int32), q4.2)
      else
        if p1 < 0 then none else if 4 ≤ p1.toNatClampNeg then none else
        if (q4.2 47 0 p1.toNatClampNeg) = 0 then
          if p1 < 0 then none else if 4 ≤ p1.toNatClampNeg then none else
          if (q4.2 47 0 p1.toNatClampNeg) = 0 then
            some ((-11 : Int32), q4.2)
          else
            M_coats_L75 FU p1 p3 p4 (0 : Int32) (0 : Int32) q4.2
        else
          if p1 < 0 then none else if 4 ≤ p1.toNatClampNeg then none else
          if (q4.2 48 0 p1.toNatClampNeg) = p2 then
            if p1 < 0 then none else if 4 ≤ p1.toNatClampNeg then none else
            if (q4.2 47 0 p1.toNatClampNeg) = 0 then
              some ((-11 : Int32), q4.2)
            else
              M_coats_L75 FU p1 p3 p4 (0 : Int32) (0 : Int32) q4.2
          else
            some ((-13 : Int32), q4.2)
def cp_M_coats {R : Type} (as : List AV) (σ : Sg) (k : AV → Sg → Option R) : Option R := match as with
  | [.inr (.inr (.inl (g1, i1))), .inl p1, .inl p2, .inl p3, .inl p4] => match Nat.beq g1 30 && Nat.beq i1 0 with
    | true => (M_coats p1 p2 p3 p4 σ).bind fun q => k (vI q.1) q.2
    | false => none
  | _ => none
-- M_over (I)I
def M_over (p0 : Int32) (σ : Sg) : Option (Int32 × Sg) :=
  if p0 = 0 then
    some ((-1 : Int32), σ)
  else
    if p0 = (3 : Int32) then
      some ((1 : Int32), σ)
    else
      if p0 = (4 : Int32) then
        some ((2 : Int32), σ)
      else
        some ((0 : Int32), σ)
def cp_M_over {R : Type} (as : List AV) (σ : Sg) (k : AV → Sg → Option R) : Option R := match as with
  | [.inl p0] => (M_over p0 σ).bind fun q => k (vI q.1) q.2
  | _ => none
-- M_taken (II)I
def M_taken_J51 (v1 : Int32) (v2 : Int32) (v3 : Int32) (σ : Sg) : Option (Int32 × Sg) :=
  if v3 = v2 then
    if ((3 : Int32) * v1) < 0 then none else if 24 ≤ ((3 : Int32) * v1).toNatClampNeg then none else
    some ((σ 36 0 ((3 : Int32) * v1).toNatClampNeg), σ)
  else
    some ((-13 : Int32), σ)
def M_taken_L33 : Nat → Int32 → Int32 → Int32 → Sg → Option (Int32 × Sg)
  | 0, _, _, _, _ => none
  | n + 1, v1, v2, v3, σ =>
    if v3 = (-1 : Int32) then
      M_taken_J51 v1 v2 v3 σ
    else
      if v3 = v2 then
        M_taken_J51 v1 v2 v3 σ
      else
        (M_over v3 σ).bind fun q1 =>
        M_taken_L33 n v1 v2 q1.1 q1.2
def M_taken (p1 : Int32) (p2 : Int32) (σ : Sg) : Option (Int32 × Sg) :=
  (M_in (p2).toInt64 (0 : Int64) (5 : Int64) σ).bind fun q2 =>
  if q2.1 = 0 then
    some ((-2 : Int32), q2.2)
  else
    (M_isCoat p1 q2.2).bind fun q3 =>
    if q3.1 = 0 then
      some ((-11 : Int32), q3.2)
    else
      if p1 < 0 then none else if 8 ≤ p1.toNatClampNeg then none else
      M_taken_L33 FU p1 p2 (q3.2 35 0 p1.toNatClampNeg) q3.2
def cp_M_taken {R : Type} (as : List AV) (σ : Sg) (k : AV → Sg → Option R) : Option R := match as with
  | [.inr (.inr (.inl (g1, i1))), .inl p1, .inl p2] => match Nat.beq g1 30 && Nat.beq i1 0 with
    | true => (M_taken p1 p2 σ).bind fun q => k (vI q.1) q.2
    | false => none
  | _ => none
end
end
section
/-! numbers: an int is below 0 or a number; sums, products, order of numbers -/
theorem na_li (n : Nat) : (OfNat.ofNat n : Int32) = nI n := rfl
theorem na_lt {a b : Nat} (ha : a < 2147483648) (hb : b < 2147483648) : (nI a < nI b) = (a < b) := propext ⟨fun h => Nat.not_le.mp fun q => nI_nlt q ha h, fun h => nI_lt h hb⟩
theorem na_le {a b : Nat} (ha : a < 2147483648) (hb : b < 2147483648) : (nI a ≤ nI b) = (a ≤ b) := propext ⟨fun h => Nat.not_lt.mp fun q => nI_ge q ha h, fun h => nI_le h hb⟩
theorem na_eq {a b : Nat} (ha : a < 2147483648) (hb : b < 2147483648) : (nI a = nI b) = (a = b) := propext ⟨fun h => by
  have h1 := nI_toInt (n := a) ha
  have h2 := nI_toInt (n := b) hb
  rw [h] at h1
  omega, fun h => by rw [h]⟩
theorem na_mul (a b : Nat) : nI a * nI b = nI (a * b) := (Int32.ofNat_mul a b).symm
theorem na_add (a b : Nat) : nI a + nI b = nI (a + b) := (Int32.ofNat_add a b).symm
theorem na_sub {a b : Nat} (h : b ≤ a) : nI a - nI b = nI (a - b) := (Int32.ofNat_sub a b h).symm
theorem na_cl {a : Nat} (h : a < 2147483648) : (nI a).toNatClampNeg = a := nI_clamp h
theorem na_n0 {a : Nat} (h : a < 2147483648) : (nI a < 0) = False := eq_false (nI_pos h)
theorem na_lo {a : Nat} (h : a < 2147483648) : (nI a).toInt64 = lN a := nI_l h
theorem na_or (p : Int32) : p < 0 ∨ ∃ n : Nat, n < 2147483648 ∧ p = nI n := by
  by_cases h : p < 0
  · exact Or.inl h
  · refine Or.inr ⟨p.toInt.toNat, ?_, ?_⟩
    · have := Int32.toInt_lt p
      omega
    · have h0 : 0 ≤ p.toInt := by
        have := Int32.le_iff_toInt_le.mp (Int32.not_lt.mp h)
        simpa using this
      apply Int32.toInt_inj.mp
      have hl := Int32.toInt_lt p
      rw [nI_toInt (by omega)]
      omega
theorem na_neg_lt {p : Int32} (h : p < 0) {n : Nat} (hn : n < 2147483648) : p < nI n := by
  rw [Int32.lt_iff_toInt_lt] at h ⊢
  rw [nI_toInt hn]
  have : (0 : Int32).toInt = 0 := rfl
  omega
theorem na_neg_nlt {p : Int32} (h : p < 0) {n : Nat} (hn : n < 2147483648) : ¬ nI n < p := by
  rw [Int32.lt_iff_toInt_lt] at h ⊢
  rw [nI_toInt hn]
  have : (0 : Int32).toInt = 0 := rfl
  omega
theorem na_neg_ne {p : Int32} (h : p < 0) {n : Nat} (hn : n < 2147483648) : ¬ p = nI n := fun e => by
  rw [e] at h
  exact nI_pos hn h
theorem na_i64_lt (x y : Int32) : (x.toInt64 < y.toInt64) = (x < y) := by
  rw [Int64.lt_iff_toInt_lt, Int32.lt_iff_toInt_lt, Int32.toInt_toInt64, Int32.toInt_toInt64]
theorem s_M_in (x a b : Int32) (σ : Sg) : M_in x.toInt64 a.toInt64 b.toInt64 σ = some (if x < a then 0 else if b < x then 0 else 1, σ) := by
  unfold M_in
  simp only [lg_cmp_lt, lg_cmp_gt, na_i64_lt]
  split
  · rfl
  · split <;> rfl
theorem na_lit64 (n : Nat) (h : n < 2147483648) : (OfNat.ofNat n : Int64) = (nI n).toInt64 := (nI_l h).symm
theorem s_M_isOne (p : Int32) (σ : Sg) : M_isOne p σ = some (if p < 0 then 0 else if nI 2 < p then 0 else 1, σ) := by
  unfold M_isOne
  rw [show (0 : Int64) = (0 : Int32).toInt64 from rfl, show (2 : Int64) = (nI 2).toInt64 from rfl, s_M_in]
  simp only [Option.bind_some]
  split
  · rfl
  · split <;> rfl
theorem s_M_isHour (p : Int32) (σ : Sg) : M_isHour p σ = some (if p < 0 then 0 else if nI 23 < p then 0 else 1, σ) := by
  unfold M_isHour
  rw [show (0 : Int64) = (0 : Int32).toInt64 from rfl, show (23 : Int64) = (nI 23).toInt64 from rfl, s_M_in]
  simp only [Option.bind_some]
  split
  · rfl
  · split <;> rfl
theorem s_X_isOne (p : Int32) (σ : Sg) : X_isOne p σ = some (if p < 0 then 0 else if p < nI 3 then 1 else 0, σ) := by
  unfold X_isOne
  rw [show (3 : Int32) = nI 3 from rfl]
  split
  · rfl
  · split <;> rfl
theorem s_X_isHour (p : Int32) (σ : Sg) : X_isHour p σ = some (if p < 0 then 0 else if p < nI 24 then 1 else 0, σ) := by
  unfold X_isHour
  rw [show (24 : Int32) = nI 24 from rfl]
  split
  · rfl
  · split <;> rfl
/-- the mood of one at an hour -/
theorem s_X_moodAt {p h : Nat} (hp : p < 3) (hh : h < 24) (σ : Sg) : X_moodAt (nI p) (nI h) σ = some (σ 23 0 (24 * p + h), σ) := by
  unfold X_moodAt
  simp (disch := omega) only [s_X_isOne, s_X_isHour, Option.bind_some, na_li, na_mul, na_add, na_lt, na_eq, na_cl, Nat.not_lt_zero, hp, hh, if_true, if_false, Nat.one_ne_zero]
  rw [if_neg (by omega), show p * 24 + h = 24 * p + h from by omega]
end
section
/-! a text's steps on a small stack -/
/-- the stack of a text's steps, as a list (the top first) -/
def AS (σ : Sg) (i : Nat) (st : List Int32) : Prop := σ 2 i 4 = nI st.length ∧ st.length ≤ 40 ∧ ∀ k, k < st.length → σ 5 i k = ab_nth 0 st (st.length - 1 - k)
/-- nothing but text i's stack differs -/
def Un (i : Nat) (σ σ' : Sg) : Prop := ∀ g a j, ¬ (g = 5 ∧ a = i) → ¬ (g = 2 ∧ a = i ∧ j = 4) → σ' g a j = σ g a j
theorem Un.rf {i : Nat} {σ : Sg} : Un i σ σ := fun _ _ _ _ _ => rfl
theorem Un.tr {i : Nat} {σ σ1 σ2 : Sg} (h : Un i σ σ1) (h2 : Un i σ1 σ2) : Un i σ σ2 := fun g a j h3 h4 => (h2 g a j h3 h4).trans (h g a j h3 h4)
theorem s_lay {σ : Sg} {i : Nat} {st : List Int32} (h : AS σ i st) (hl : st.length < 40) (v : Int32) : ∃ σ', Text_lay i v σ = some σ' ∧ AS σ' i (v :: st) ∧ Un i σ σ' := by
  obtain ⟨h1, h2, h3⟩ := h
  unfold Text_lay
  rw [h1]
  simp (disch := omega) only [na_li, na_lt, na_cl, Nat.not_lt_zero, if_true, if_false, hl]
  rw [if_neg (by omega)]
  refine ⟨_, rfl, ⟨?_, ?_, fun k hk => ?_⟩, fun g a j h5 h6 => ?_⟩
  · rw [List.length_cons, ← na_add]
    simp [upd3, h1]
  · simp only [List.length_cons]; omega
  · simp only [List.length_cons] at hk ⊢
    by_cases e : k = st.length
    · subst e
      simp [upd3, ab_nth]
    · have e2 : st.length + 1 - 1 - k = (st.length - 1 - k) + 1 := by omega
      rw [e2]
      simp [upd3, e, ab_nth]
      exact h3 k (by omega)
  · have h7 : ¬ (g = 5 ∧ a = i ∧ j = st.length) := fun q => h5 ⟨q.1, q.2.1⟩
    simp [upd3, h6, h7]
theorem s_lift {σ : Sg} {i : Nat} {v : Int32} {st : List Int32} (h : AS σ i (v :: st)) : ∃ σ', Text_lift i σ = some (v, σ') ∧ AS σ' i st ∧ Un i σ σ' := by
  obtain ⟨h1, h2, h3⟩ := h
  simp only [List.length_cons] at h1 h2 h3
  unfold Text_lift
  have e1 : ¬ 40 < st.length + 1 := by omega
  have e2 : 0 < st.length + 1 := by omega
  have e3 : nI (st.length + 1) - nI 1 = nI st.length := by rw [na_sub (by omega)]; rfl
  simp (disch := omega) only [h1, na_li, na_lt, if_true, if_false, e1, e2, e3]
  have e4 : upd3 σ 2 i 4 (nI st.length) 2 i 4 = nI st.length := by simp [upd3]
  simp (disch := omega) only [e4, na_lt, na_cl, Nat.not_lt_zero, if_false]
  rw [if_neg (by omega)]
  refine ⟨_, ?_, ⟨e4, by omega, fun k hk => ?_⟩, fun g a j h5 h6 => ?_⟩
  · have := h3 st.length (by omega)
    rw [show st.length + 1 - 1 - st.length = 0 by omega] at this
    simp [upd3, this, ab_nth]
  · have := h3 k (by omega)
    rw [show st.length + 1 - 1 - k = (st.length - 1 - k) + 1 by omega] at this
    simpa [upd3, ab_nth] using this
  · simp [upd3, h6]
/-- what two operands give -/
def tp_j (t l r : Int32) : Int32 :=
  if t = 43 then l + r else if t = 45 then l - r else if t = 60 then (if l < r then 1 else 0) else if t = 61 then (if l = r then 1 else 0) else if t = 303 then (if l = 0 then if r = 0 then 0 else 1 else 1) else if t = 304 then (if l = 0 then 0 else if r = 0 then 0 else 1) else l * r
theorem s_joined (t l r : Int32) (σ : Sg) : Text_joined t l r σ = some (tp_j t l r, σ) := by
  unfold Text_joined tp_j
  repeat' split
  all_goals rfl
/-- what a name says: cut, mood, number, hour, worn, off -/
def tp_n (e : Nat → Int32) (t : Int32) : Int32 :=
  if t = 310 then e 0 else if t = 311 then e 1 else if t = 312 then e 2 else if t = 313 then e 3 else if t = 314 then e 4 else e 5
def offS (cut mood : Int32) : Int32 := if mood < cut then cut - mood else mood - cut
/-- the names of a coat at a mood and an hour -/
def envX (σ : Sg) (c : Nat) (mood hour : Int32) : Nat → Int32 := fun k => match k with
  | 0 => σ 1 c 2
  | 1 => mood
  | 2 => σ 1 c 1
  | 3 => hour
  | 4 => σ 1 c 3
  | _ => offS (σ 1 c 2) mood
theorem s_off (c : Nat) (mood : Int32) (σ : Sg) : Coat_off c mood σ = some (offS (σ 1 c 2) mood, σ) := by
  unfold Coat_off offS
  split <;> rfl
theorem s_named (t : Int32) (c : Nat) (mood hour : Int32) (σ : Sg) : Text_named t c mood hour σ = some (tp_n (envX σ c mood hour) t, σ) := by
  unfold Text_named tp_n
  simp only [s_off, Option.bind_some, envX]
  repeat' split
  all_goals rfl
/-- one step -/
def tp_1 (e : Nat → Int32) (s : Int32) (st : List Int32) : Option (List Int32) :=
  if s < 0 then
    if -310 < s then
      if -s = 305 then (match st with
        | r :: t => some ((if r = 0 then 1 else 0) :: t)
        | [] => none)
      else if -s = 306 then (match st with
        | r :: t => some (-r :: t)
        | [] => none)
      else (match st with
        | r :: l :: t => some (tp_j (-s) l r :: t)
        | _ => none)
    else if st.length < 40 then some (tp_n e (-s) :: st) else none
  else if st.length < 40 then some (s :: st) else none
def tp_r (e : Nat → Int32) : List Int32 → List Int32 → Option (List Int32)
  | [], st => some st
  | s :: r, st => match tp_1 e s st with
    | some st' => tp_r e r st'
    | none => none
theorem tp_app (e : Nat → Int32) (a b : List Int32) : ∀ st, tp_r e (a ++ b) st = (tp_r e a st).bind (tp_r e b) := by
  induction a with
  | nil => intro st; rfl
  | cons s r ih =>
    intro st
    simp only [List.cons_append, tp_r]
    cases tp_1 e s st with
    | none => rfl
    | some st' => exact ih st'
theorem s_join {σ : Sg} {i : Nat} {s : Int32} {e : Nat → Int32} {st st' : List Int32} (h : AS σ i st) (hs : s < 0) (hs2 : -310 < s) (h1 : tp_1 e s st = some st') : ∃ σ', Text_join i (-s) σ = some σ' ∧ AS σ' i st' ∧ Un i σ σ' := by
  unfold tp_1 at h1
  rw [if_pos hs, if_pos hs2] at h1
  unfold Text_join
  match st, h, h1 with
  | [], h, h1 => exact absurd h1 (by simp)
  | [r], h, h1 =>
    obtain ⟨σ1, e1, a1, u1⟩ := s_lift h
    rw [e1]
    simp only [Option.bind_some]
    split at h1
    · rename_i q
      cases h1
      rw [if_pos q]
      split
      · obtain ⟨σ2, e2, a2, u2⟩ := s_lay a1 (by simp) 1
        exact ⟨σ2, by rw [e2]; rfl, a2, u1.tr u2⟩
      · obtain ⟨σ2, e2, a2, u2⟩ := s_lay a1 (by simp) 0
        exact ⟨σ2, by rw [e2]; rfl, a2, u1.tr u2⟩
    · rename_i q
      rw [if_neg q]
      split at h1
      · rename_i q2
        cases h1
        rw [if_pos q2]
        obtain ⟨σ2, e2, a2, u2⟩ := s_lay a1 (by simp) (-r)
        exact ⟨σ2, by rw [e2]; rfl, a2, u1.tr u2⟩
      · cases h1
  | r :: l :: t, h, h1 =>
    have hlen := h.2.1
    simp only [List.length_cons] at hlen
    obtain ⟨σ1, e1, a1, u1⟩ := s_lift h
    rw [e1]
    simp only [Option.bind_some]
    split at h1
    · rename_i q
      cases h1
      rw [if_pos q]
      split
      · obtain ⟨σ2, e2, a2, u2⟩ := s_lay a1 (by simp only [List.length_cons]; omega) 1
        exact ⟨σ2, by rw [e2]; rfl, a2, u1.tr u2⟩
      · obtain ⟨σ2, e2, a2, u2⟩ := s_lay a1 (by simp only [List.length_cons]; omega) 0
        exact ⟨σ2, by rw [e2]; rfl, a2, u1.tr u2⟩
    · rename_i q
      rw [if_neg q]
      split at h1
      · rename_i q2
        cases h1
        rw [if_pos q2]
        obtain ⟨σ2, e2, a2, u2⟩ := s_lay a1 (by simp only [List.length_cons]; omega) (-r)
        exact ⟨σ2, by rw [e2]; rfl, a2, u1.tr u2⟩
      · rename_i q2
        cases h1
        rw [if_neg q2]
        obtain ⟨σ2, e2, a2, u2⟩ := s_lift a1
        rw [e2]
        simp only [Option.bind_some, s_joined]
        obtain ⟨σ3, e3, a3, u3⟩ := s_lay a2 (by omega) (tp_j (-s) l r)
        exact ⟨σ3, by rw [e3]; rfl, a3, (u1.tr u2).tr u3⟩
end
section
/-! what a text's part says of a coat, a mood, an hour: the class's side -/
def bdS (v : Int32) : Int32 := if 0 < (if v < 99 then v else 99) then (if v < 99 then v else 99) else 0
theorem s_bounded (v : Int32) (σ : Sg) : X_bounded v σ = some (bdS v, σ) := rfl
/-- m steps of text i from place k on -/
def pg (σ : Sg) (i : Nat) : Nat → Nat → List Int32
  | _, 0 => []
  | k, m + 1 => σ 3 i k :: pg σ i (k + 1) m
theorem pg_eq {σ σ' : Sg} {i : Nat} (h : ∀ j, σ' 3 i j = σ 3 i j) : ∀ m k, pg σ' i k m = pg σ i k m := by
  intro m
  induction m with
  | zero => intro k; rfl
  | succ m ih => intro k; simp only [pg, h, ih]
theorem Un.steps {i : Nat} {σ σ' : Sg} (h : Un i σ σ') (j : Nat) : σ' 3 i j = σ 3 i j := h 3 i j (fun q => by cases q.1) (fun q => by cases q.1)
theorem Un.ends {i : Nat} {σ σ' : Sg} (h : Un i σ σ') (j : Nat) : σ' 4 i j = σ 4 i j := h 4 i j (fun q => by cases q.1) (fun q => by cases q.1)
theorem Un.env {i : Nat} {σ σ' : Sg} (h : Un i σ σ') (c : Nat) (mood hour : Int32) : envX σ' c mood hour = envX σ c mood hour := by
  have h1 : ∀ j, σ' 1 c j = σ 1 c j := fun j => h 1 c j (fun q => by cases q.1) (fun q => by cases q.1)
  funext k
  unfold envX
  simp only [h1]
theorem s_value_L {i c part e : Nat} {mood hour v : Int32} (hp : part < 3) (he : e ≤ 160) : ∀ (m n k : Nat) (σ : Sg) (st rest : List Int32), k + m = e → m < n → σ 4 i part = nI e → AS σ i st → tp_r (envX σ c mood hour) (pg σ i k m) st = some (v :: rest) → ∃ σ', Text_value_L38 n i (nI part) c mood hour (nI k) σ = some (bdS v, σ') ∧ Un i σ σ' := by
  intro m
  induction m with
  | zero =>
    intro n k σ st rest hk hn hE hA hr
    have hr := Option.some.inj hr
    subst hr
    obtain ⟨n, rfl⟩ : ∃ n', n = n' + 1 := ⟨n - 1, by omega⟩
    unfold Text_value_L38
    obtain ⟨σ1, e1, a1, u1⟩ := s_lift hA
    have hke : k = e := by omega
    subst hke
    simp (disch := omega) only [na_li, na_lt, na_cl, Nat.not_lt_zero, if_false, hE, Nat.lt_irrefl]
    rw [if_neg (by omega), e1]
    exact ⟨σ1, rfl, u1⟩
  | succ m ih =>
    intro n k σ st rest hk hn hE hA hr
    obtain ⟨n, rfl⟩ : ∃ n', n = n' + 1 := ⟨n - 1, by omega⟩
    unfold pg tp_r at hr
    cases h1 : tp_1 (envX σ c mood hour) (σ 3 i k) st with
    | none => rw [h1] at hr; cases hr
    | some st1 =>
      rw [h1] at hr
      have go : ∀ σ1, AS σ1 i st1 → Un i σ σ1 → ∃ σ', Text_value_L38 n i (nI part) c mood hour (nI (k + 1)) σ1 = some (bdS v, σ') ∧ Un i σ σ' := by
        intro σ1 a1 u1
        obtain ⟨σ2, e2, u2⟩ := ih n (k + 1) σ1 st1 rest (by omega) (by omega) (by rw [u1.ends]; exact hE) a1 (by rw [u1.env, pg_eq u1.steps]; exact hr)
        exact ⟨σ2, e2, u1.tr u2⟩
      have hke : k < e := by omega
      have hk160 : k < 160 := by omega
      have hn3 : ¬ 3 ≤ part := by omega
      have hn160 : ¬ 160 ≤ k := by omega
      have hk1 : nI k + 1 = nI (k + 1) := (nI_succ k).symm
      unfold Text_value_L38
      rw [if_neg (nI_pos (by omega)), na_cl (by omega), if_neg hn3, hE, if_pos (nI_lt hke (by omega)), if_pos (show nI k < 160 from nI_lt (b := 160) hk160 (by decide)), if_neg (nI_pos (by omega)), na_cl (by omega), if_neg hn160]
      by_cases hs : σ 3 i k < 0
      · rw [if_pos hs, if_neg (nI_pos (by omega)), if_neg hn160]
        by_cases hs2 : -310 < σ 3 i k
        · rw [if_pos hs2, if_neg (nI_pos (by omega)), if_neg hn160]
          obtain ⟨σ1, e1, a1, u1⟩ := s_join hA hs hs2 h1
          rw [e1]
          simp only [Option.bind_some, hk1]
          exact go σ1 a1 u1
        · rw [if_neg hs2, if_neg (nI_pos (by omega)), if_neg hn160]
          unfold tp_1 at h1
          rw [if_pos hs, if_neg hs2] at h1
          split at h1
          · rename_i hl
            have h1 := Option.some.inj h1
            subst h1
            simp only [s_named, Option.bind_some]
            obtain ⟨σ1, e1, a1, u1⟩ := s_lay hA hl (tp_n (envX σ c mood hour) (-σ 3 i k))
            rw [e1]
            simp only [Option.bind_some, hk1]
            exact go σ1 a1 u1
          · cases h1
      · rw [if_neg hs, if_neg (nI_pos (by omega)), if_neg hn160]
        unfold tp_1 at h1
        rw [if_neg hs] at h1
        split at h1
        · rename_i hl
          have h1 := Option.some.inj h1
          subst h1
          obtain ⟨σ1, e1, a1, u1⟩ := s_lay hA hl (σ 3 i k)
          rw [e1]
          simp only [Option.bind_some, hk1]
          exact go σ1 a1 u1
        · cases h1
end
