/-! AN ABSTRACT MACHINE over the rows of the two objects: values, heap, one instruction, a run. What it answers the real machine answers (part 04). -/
/-- a value: an int, a long, a cell (its type and which one of it), or nothing that is looked at -/
abbrev AV : Type := Int32 ⊕ (Int64 ⊕ ((Nat × Nat) ⊕ Unit))
/-- the heap: of each type, of each cell of it, of each place: ints and longs; the class' side, the reference's side -/
abbrev HP : Type := ((Nat → Nat → Nat → Int32) × (Nat → Nat → Nat → Int64)) × ((Nat → Nat → Nat → Int32) × (Nat → Nat → Nat → Int64))
/-- what a call answers: an int, nothing, a long, a text's number -/
abbrev AF : Type := (List AV → HP → Option (Int32 × HP)) ⊕ ((List AV → HP → Option HP) ⊕ ((List AV → HP → Option (Int64 × HP)) ⊕ (List AV → HP → Option (Nat × HP))))
/-- an instruction with its place, the next place, and where it may jump to -/
abbrev AC : Type := Nat × Instr × Nat × List Nat
/-- pools: fields, constants, statics, virtual calls, static calls, arraycopy -/
abbrev AP : Type := List (Nat × Nat × Nat) × List (Nat × AV) × List (Nat × AV) × List (Nat × Nat × AF) × List (Nat × Nat × AF) × List (Nat × Unit)
/-- what a return does -/
abbrev AR (ρ : Type) : Type := (Int32 → HP → Option ρ) × (HP → Option ρ) × (Int64 → HP → Option ρ) × (Nat × Nat → HP → Option ρ)
def am_get {α : Type} : List (Nat × α) → Nat → Option α
  | [], _ => none
  | (q, i) :: r, k => match Nat.beq q k with
    | true => some i
    | false => am_get r k
def am_nth : List AV → Nat → Option AV
  | [], _ => none
  | v :: _, 0 => some v
  | _ :: r, n + 1 => am_nth r n
def am_put : List AV → Nat → AV → List AV
  | [], _, _ => []
  | _ :: r, 0, x => x :: r
  | v :: r, n + 1, x => v :: am_put r n x
def am_isL : AV → Bool
  | .inr (.inl _) => true
  | _ => false
/-- the second half of a long lies at this place -/
def am_half : List AV → Nat → Bool
  | v :: _, 1 => am_isL v
  | _ :: r, n + 2 => am_half r (n + 1)
  | _, _ => false
def am_take : Nat → List AV → List AV → Option (List AV × List AV)
  | 0, acc, st => some (acc, st)
  | n + 1, acc, v :: st => am_take n (v :: acc) st
  | _ + 1, _, [] => none
def am_sz : List AV → Nat
  | [] => 0
  | v :: r => (match am_isL v with
    | true => 2
    | false => 1) + am_sz r
def am_rs (c : Nat) : Bool := match c with
  | 7 => true
  | 13 => true
  | 14 => true
  | _ => false
def am_up {α : Type} (f : Nat → Nat → Nat → α) (c j k : Nat) (v : α) : Nat → Nat → Nat → α := fun c' j' k' => if c' = c ∧ j' = j ∧ k' = k then v else f c' j' k'
def h_rI (h : HP) (c j k : Nat) : Int32 := match am_rs c with
  | true => h.2.1 c j k
  | false => h.1.1 c j k
def h_rJ (h : HP) (c j k : Nat) : Int64 := match am_rs c with
  | true => h.2.2 c j k
  | false => h.1.2 c j k
def h_wI (h : HP) (c j k : Nat) (v : Int32) : HP := match am_rs c with
  | true => (h.1, (am_up h.2.1 c j k v, h.2.2))
  | false => ((am_up h.1.1 c j k v, h.1.2), h.2)
def h_wJ (h : HP) (c j k : Nat) (v : Int64) : HP := match am_rs c with
  | true => (h.1, (h.2.1, am_up h.2.2 c j k v))
  | false => ((h.1.1, am_up h.1.2 c j k v), h.2)
def h_cp (h : HP) (j1 j2 sp dp n : Nat) : HP := ((h.1.1, fun c j k => if c = 12 ∧ j = j2 then va_cpy (h.1.2 12 j1) (h.1.2 12 j2) sp dp n k else h.1.2 c j k), h.2)
/-- fields of a class: 0 int, 1 boolean, 2 long, 3 a cell, 4 the int 0 -/
def am_fl (c : Nat) : List Nat := match c with
  | 0 => [0, 0, 0, 0, 0, 0]
  | 1 => [0, 0, 3, 0, 3, 0]
  | 2 => [0, 0]
  | 3 => [0, 0, 3]
  | 4 => [3, 0]
  | 5 => [3, 3, 0, 0, 0, 0]
  | 6 => [3, 3, 3, 1, 3, 3, 3, 3]
  | 7 => [3, 3, 3, 3, 0, 0, 0, 0, 2, 0, 1, 3, 3, 3, 3, 3, 3, 1]
  | 16 => [3, 4]
  | _ => []
def am_ft (c k : Nat) : Nat := (am_fl c).getD k 9
/-- how many cells of a type there are -/
def am_cnt (c : Nat) : Nat := match c with
  | 0 => 24
  | 1 => 3
  | 2 => 18
  | 3 => 4
  | 4 => 1
  | 5 => 1
  | 6 => 1
  | 7 => 1
  | 8 => 3
  | 9 => 3
  | 10 => 1
  | 11 => 2
  | 12 => 4
  | 13 => 8
  | 14 => 2
  | 15 => 1
  | 16 => 12
  | 17 => 12
  | _ => 0
/-- which cell a place of a cell holds -/
def am_rf (c j k : Nat) : Nat × Nat := match c with
  | 1 => (match k with
    | 2 => (8, j)
    | _ => (9, j))
  | 3 => (12, j)
  | 4 => (11, 0)
  | 5 => (match k with
    | 0 => (4, 0)
    | _ => (1, 1))
  | 6 => (match k with
    | 0 => (1, 0)
    | 1 => (1, 1)
    | 2 => (1, 2)
    | 4 => (4, 0)
    | 5 => (5, 0)
    | 6 => (10, 0)
    | _ => (11, 1))
  | 7 => (match k with
    | 0 => (13, 0)
    | 1 => (13, 1)
    | 2 => (13, 2)
    | 3 => (13, 3)
    | 11 => (13, 4)
    | 12 => (13, 5)
    | 13 => (14, 0)
    | 14 => (14, 1)
    | 15 => (13, 6)
    | _ => (13, 7))
  | 8 => (0, 8 * j + k)
  | 9 => (2, 6 * j + k)
  | 10 => (3, k)
  | _ => (17, j)
def am_byt : List (List Int32) := [[109, 101, 109, 98, 101, 114], [108, 111, 97, 110], [102, 114, 111, 109], [116, 111], [119, 101, 97, 114], [97, 116], [98, 114, 97, 115, 115], [98, 111, 110, 101], [114, 111, 112, 101], [107, 110, 111, 98], [108, 97, 116, 99, 104], [104, 97, 110, 100, 108, 101]]
def am_bln : List Nat := [6, 4, 4, 2, 4, 2, 5, 4, 4, 4, 5, 6]
/-- how long a row is -/
def am_len (c j : Nat) : Nat := match c with
  | 8 => 8
  | 9 => 6
  | 10 => 4
  | 11 => (match j with
    | 0 => 120
    | _ => 7)
  | 12 => 40
  | 13 => (match j with
    | 0 => 64
    | 1 => 7
    | 2 => 64
    | 3 => 120
    | 4 => 4
    | 5 => 4
    | 6 => 64
    | _ => 64)
  | 14 => (match j with
    | 0 => 160
    | _ => 40)
  | _ => 0
/-- a place in a row, if it is one -/
def am_ix (i : Int32) (n : Nat) : Option Nat := if i < 0 ∨ n ≤ i.toNatClampNeg then none else some i.toNatClampNeg
def am_hd : List Nat → Nat
  | [] => 0
  | t :: _ => t
def am_sw {ρ : Type} (x : Int32) (k : Nat → Option ρ) (d : Nat) : Int → List Nat → Option ρ
  | _, [] => k d
  | i, t :: r => if x = Int32.ofInt i then k t else am_sw x k d (i + 1) r
/-- a call's answer goes on -/
def am_call {ρ : Type} (F : AF) (as : List AV) (h : HP) (k : List AV → HP → Option ρ) : Option ρ := match F with
  | .inl f => (f as h).bind (fun q => k [.inl q.1] q.2)
  | .inr (.inl f) => (f as h).bind (fun q => k [] q)
  | .inr (.inr (.inl f)) => (f as h).bind (fun q => k [.inr (.inl q.1)] q.2)
  | .inr (.inr (.inr f)) => (f as h).bind (fun q => k [.inr (.inr (.inl (16, q.1)))] q.2)
/-- one instruction: X the script and its length, P the pools, R the returns, go what comes then -/
def am_exec {ρ : Type} (X : (Nat → Int32) × Nat) (P : AP) (R : AR ρ) (ins : Instr) (nx : Nat) (tg : List Nat) (go : Nat → List AV → List AV → HP → Option ρ) (L st : List AV) (h : HP) : Option ρ :=
  match ins with
  | .iconst n => go nx L (.inl (Int32.ofInt n) :: st) h
  | .bipush n => go nx L (.inl (Int8.ofInt n).toInt32 :: st) h
  | .sipush n => go nx L (.inl (Int16.ofInt n).toInt32 :: st) h
  | .lconst n => go nx L (.inr (.inl (Int64.ofNat (n : Nat))) :: st) h
  | .ldc ix => (match am_get P.2.1 ix with
    | some (.inl v) => go nx L (.inl v :: st) h
    | some (.inr (.inr (.inl (16, j)))) => go nx L (.inr (.inr (.inl (16, j))) :: st) h
    | _ => none)
  | .ldc_w ix => (match am_get P.2.1 ix with
    | some (.inl v) => go nx L (.inl v :: st) h
    | _ => none)
  | .ldc2_w ix => (match am_get P.2.1 ix with
    | some (.inr (.inl v)) => go nx L (.inr (.inl v) :: st) h
    | _ => none)
  | .iload n => (match am_nth L n with
    | some (.inl v) => go nx L (.inl v :: st) h
    | _ => none)
  | .iload_n n => (match am_nth L (n : Nat) with
    | some (.inl v) => go nx L (.inl v :: st) h
    | _ => none)
  | .lload n => (match am_nth L n with
    | some (.inr (.inl v)) => go nx L (.inr (.inl v) :: st) h
    | _ => none)
  | .lload_n n => (match am_nth L (n : Nat) with
    | some (.inr (.inl v)) => go nx L (.inr (.inl v) :: st) h
    | _ => none)
  | .aload n => (match am_nth L n with
    | some (.inr (.inr (.inl v))) => go nx L (.inr (.inr (.inl v)) :: st) h
    | _ => none)
  | .aload_n n => (match am_nth L (n : Nat) with
    | some (.inr (.inr (.inl v))) => go nx L (.inr (.inr (.inl v)) :: st) h
    | _ => none)
  | .istore n => (match st with
    | .inl v :: st => (match am_half L n with
      | false => go nx (am_put L n (.inl v)) st h
      | true => none)
    | _ => none)
  | .istore_n n => (match st with
    | .inl v :: st => (match am_half L (n : Nat) with
      | false => go nx (am_put L (n : Nat) (.inl v)) st h
      | true => none)
    | _ => none)
  | .astore n => (match st with
    | .inr (.inr (.inl v)) :: st => (match am_half L n with
      | false => go nx (am_put L n (.inr (.inr (.inl v)))) st h
      | true => none)
    | _ => none)
  | .astore_n n => (match st with
    | .inr (.inr (.inl v)) :: st => (match am_half L (n : Nat) with
      | false => go nx (am_put L (n : Nat) (.inr (.inr (.inl v)))) st h
      | true => none)
    | _ => none)
  | .lstore n => (match st with
    | .inr (.inl v) :: st => (match am_half L n with
      | false => go nx (am_put (am_put L n (.inr (.inl v))) (n + 1) (.inr (.inr (.inr ())))) st h
      | true => none)
    | _ => none)
  | .lstore_n n => (match st with
    | .inr (.inl v) :: st => (match am_half L (n : Nat) with
      | false => go nx (am_put (am_put L (n : Nat) (.inr (.inl v))) ((n : Nat) + 1) (.inr (.inr (.inr ())))) st h
      | true => none)
    | _ => none)
  | .iinc n k => (match am_nth L n with
    | some (.inl v) => (match am_half L n with
      | false => go nx (am_put L n (.inl (v + Int32.ofInt k))) st h
      | true => none)
    | _ => none)
  | .iadd => (match st with
    | .inl y :: .inl x :: st => go nx L (.inl (x + y) :: st) h
    | _ => none)
  | .isub => (match st with
    | .inl y :: .inl x :: st => go nx L (.inl (x - y) :: st) h
    | _ => none)
  | .imul => (match st with
    | .inl y :: .inl x :: st => go nx L (.inl (x * y) :: st) h
    | _ => none)
  | .irem => (match st with
    | .inl y :: .inl x :: st => if y = 0 then none else go nx L (.inl (x - x / y * y) :: st) h
    | _ => none)
  | .iand => (match st with
    | .inl y :: .inl x :: st => go nx L (.inl (x &&& y) :: st) h
    | _ => none)
  | .ior => (match st with
    | .inl y :: .inl x :: st => go nx L (.inl (x ||| y) :: st) h
    | _ => none)
  | .ixor => (match st with
    | .inl y :: .inl x :: st => go nx L (.inl (x ^^^ y) :: st) h
    | _ => none)
  | .ishl => (match st with
    | .inl y :: .inl x :: st => go nx L (.inl (x <<< (y &&& 31)) :: st) h
    | _ => none)
  | .ishr => (match st with
    | .inl y :: .inl x :: st => go nx L (.inl (x >>> (y &&& 31)) :: st) h
    | _ => none)
  | .iushr => (match st with
    | .inl y :: .inl x :: st => go nx L (.inl (x.toUInt32 >>> (y.toUInt32 &&& Int32.toUInt32 31)).toInt32 :: st) h
    | _ => none)
  | .ladd => (match st with
    | .inr (.inl y) :: .inr (.inl x) :: st => go nx L (.inr (.inl (x + y)) :: st) h
    | _ => none)
  | .lsub => (match st with
    | .inr (.inl y) :: .inr (.inl x) :: st => go nx L (.inr (.inl (x - y)) :: st) h
    | _ => none)
  | .lmul => (match st with
    | .inr (.inl y) :: .inr (.inl x) :: st => go nx L (.inr (.inl (x * y)) :: st) h
    | _ => none)
  | .land => (match st with
    | .inr (.inl y) :: .inr (.inl x) :: st => go nx L (.inr (.inl (x &&& y)) :: st) h
    | _ => none)
  | .lor => (match st with
    | .inr (.inl y) :: .inr (.inl x) :: st => go nx L (.inr (.inl (x ||| y)) :: st) h
    | _ => none)
  | .lshl => (match st with
    | .inl y :: .inr (.inl x) :: st => go nx L (.inr (.inl (x <<< (y.toInt64 &&& 63))) :: st) h
    | _ => none)
  | .lshr => (match st with
    | .inl y :: .inr (.inl x) :: st => go nx L (.inr (.inl (x >>> (y.toInt64 &&& 63))) :: st) h
    | _ => none)
  | .lcmp => (match st with
    | .inr (.inl y) :: .inr (.inl x) :: st => go nx L (.inl (lg_cmp x y) :: st) h
    | _ => none)
  | .i2l => (match st with
    | .inl x :: st => go nx L (.inr (.inl x.toInt64) :: st) h
    | _ => none)
  | .l2i => (match st with
    | .inr (.inl x) :: st => go nx L (.inl x.toInt32 :: st) h
    | _ => none)
  | .i2b => (match st with
    | .inl x :: st => go nx L (.inl x.toInt8.toInt32 :: st) h
    | _ => none)
  | .i2s => (match st with
    | .inl x :: st => go nx L (.inl x.toInt16.toInt32 :: st) h
    | _ => none)
  | .i2c => (match st with
    | .inl x :: st => go nx L (.inl (x.toUInt32 % 65536).toInt32 :: st) h
    | _ => none)
  | .pop => (match st with
    | v :: st => (match am_isL v with
      | false => go nx L st h
      | true => none)
    | _ => none)
  | .dup => (match st with
    | v :: st => (match am_isL v with
      | false => go nx L (v :: v :: st) h
      | true => none)
    | _ => none)
  | .dup2 => (match st with
    | v :: w :: st => (match am_isL v, am_isL w with
      | false, false => go nx L (v :: w :: v :: w :: st) h
      | _, _ => none)
    | _ => none)
  | .goto _ => go (am_hd tg) L st h
  | .ifCond cd _ => (match st with
    | .inl x :: st => (match cd with
      | .eq => if x = 0 then go (am_hd tg) L st h else go nx L st h
      | .ne => if x = 0 then go nx L st h else go (am_hd tg) L st h
      | .lt => if x < 0 then go (am_hd tg) L st h else go nx L st h
      | .ge => if 0 ≤ x then go (am_hd tg) L st h else go nx L st h
      | .gt => if 0 < x then go (am_hd tg) L st h else go nx L st h
      | .le => if x ≤ 0 then go (am_hd tg) L st h else go nx L st h)
    | _ => none)
  | .if_icmp cd _ => (match st with
    | .inl y :: .inl x :: st => (match cd with
      | .eq => if x = y then go (am_hd tg) L st h else go nx L st h
      | .ne => if x = y then go nx L st h else go (am_hd tg) L st h
      | .lt => if x < y then go (am_hd tg) L st h else go nx L st h
      | .ge => if y ≤ x then go (am_hd tg) L st h else go nx L st h
      | .gt => if y < x then go (am_hd tg) L st h else go nx L st h
      | .le => if x ≤ y then go (am_hd tg) L st h else go nx L st h)
    | _ => none)
  | .tableswitch _ lo _ _ => (match st, tg with
    | .inl x :: st, d :: ts => am_sw x (fun t => go t L st h) d lo ts
    | _, _ => none)
  | .getfield ix => (match am_get P.1 ix, st with
    | some (c, k), .inr (.inr (.inl (c', j))) :: st => (match Nat.beq c c' with
      | true => (match am_ft c k with
        | 0 => go nx L (.inl (h_rI h c j k) :: st) h
        | 1 => go nx L (.inl (h_rI h c j k) :: st) h
        | 2 => go nx L (.inr (.inl (h_rJ h c j k)) :: st) h
        | 3 => go nx L (.inr (.inr (.inl (am_rf c j k))) :: st) h
        | 4 => go nx L (.inl 0 :: st) h
        | _ => none)
      | false => none)
    | _, _ => none)
  | .putfield ix => (match am_get P.1 ix, st with
    | some (c, k), v :: .inr (.inr (.inl (c', j))) :: st => (match Nat.beq c c', v with
      | true, .inl x => (match am_ft c k with
        | 0 => go nx L st (h_wI h c j k x)
        | 1 => if x &&& 1 = x then go nx L st (h_wI h c j k x) else none
        | _ => none)
      | true, .inr (.inl x) => (match am_ft c k with
        | 2 => go nx L st (h_wJ h c j k x)
        | _ => none)
      | _, _ => none)
    | _, _ => none)
  | .getstatic ix => (match am_get P.2.2.1 ix with
    | some (.inl v) => go nx L (.inl v :: st) h
    | some (.inr (.inr (.inr u))) => go nx L (.inr (.inr (.inr u)) :: st) h
    | _ => none)
  | .arraylength => (match st with
    | .inr (.inr (.inl (c, j))) :: st => (match c with
      | 15 => go nx L (.inl (Int32.ofNat X.2) :: st) h
      | 17 => go nx L (.inl (Int32.ofNat (am_bln.getD j 0)) :: st) h
      | _ => none)
    | _ => none)
  | .iaload => (match st with
    | .inl i :: .inr (.inr (.inl (c, j))) :: st => (match c with
      | 11 => (am_ix i (am_len c j)).bind (fun k => go nx L (.inl (h_rI h c j k) :: st) h)
      | 13 => (am_ix i (am_len c j)).bind (fun k => go nx L (.inl (h_rI h c j k) :: st) h)
      | 15 => (am_ix i X.2).bind (fun k => go nx L (.inl (X.1 k) :: st) h)
      | _ => none)
    | _ => none)
  | .baload => (match st with
    | .inl i :: .inr (.inr (.inl (c, j))) :: st => (match c with
      | 17 => (am_ix i (am_bln.getD j 0)).bind (fun k => go nx L (.inl ((am_byt.getD j []).getD k 0) :: st) h)
      | _ => none)
    | _ => none)
  | .laload => (match st with
    | .inl i :: .inr (.inr (.inl (c, j))) :: st => (match c with
      | 12 => (am_ix i (am_len c j)).bind (fun k => go nx L (.inr (.inl (h_rJ h c j k)) :: st) h)
      | 14 => (am_ix i (am_len c j)).bind (fun k => go nx L (.inr (.inl (h_rJ h c j k)) :: st) h)
      | _ => none)
    | _ => none)
  | .aaload => (match st with
    | .inl i :: .inr (.inr (.inl (c, j))) :: st => (match c with
      | 8 => (am_ix i (am_len c j)).bind (fun k => go nx L (.inr (.inr (.inl (am_rf c j k))) :: st) h)
      | 9 => (am_ix i (am_len c j)).bind (fun k => go nx L (.inr (.inr (.inl (am_rf c j k))) :: st) h)
      | 10 => (am_ix i (am_len c j)).bind (fun k => go nx L (.inr (.inr (.inl (am_rf c j k))) :: st) h)
      | _ => none)
    | _ => none)
  | .iastore => (match st with
    | .inl x :: .inl i :: .inr (.inr (.inl (c, j))) :: st => (match c with
      | 11 => (am_ix i (am_len c j)).bind (fun k => go nx L st (h_wI h c j k x))
      | 13 => (am_ix i (am_len c j)).bind (fun k => go nx L st (h_wI h c j k x))
      | _ => none)
    | _ => none)
  | .lastore => (match st with
    | .inr (.inl x) :: .inl i :: .inr (.inr (.inl (c, j))) :: st => (match c with
      | 12 => (am_ix i (am_len c j)).bind (fun k => go nx L st (h_wJ h c j k x))
      | 14 => (am_ix i (am_len c j)).bind (fun k => go nx L st (h_wJ h c j k x))
      | _ => none)
    | _ => none)
  | .invokevirtual ix => (match am_get P.2.2.2.1 ix with
    | some (n, F) => (match am_take n [] st with
      | some (as, rest) => (match Nat.ble (am_sz rest) 8 with
        | true => am_call F as h (fun r h => go nx L (r ++ rest) h)
        | false => none)
      | none => none)
    | none => none)
  | .invokestatic ix => (match am_get P.2.2.2.2.1 ix with
    | some (n, F) => (match am_take n [] st with
      | some (as, rest) => (match Nat.ble (am_sz rest) 8 with
        | true => am_call F as h (fun r h => go nx L (r ++ rest) h)
        | false => none)
      | none => none)
    | none => (match am_get P.2.2.2.2.2 ix, st with
      | some _, .inl n :: .inl dp :: .inr (.inr (.inl (12, j2))) :: .inl sp :: .inr (.inr (.inl (12, j1))) :: [] =>
        if sp < 0 ∨ dp < 0 ∨ n < 0 ∨ 40 < sp.toNatClampNeg + n.toNatClampNeg ∨ 40 < dp.toNatClampNeg + n.toNatClampNeg then none
        else go nx L [] (h_cp h j1 j2 sp.toNatClampNeg dp.toNatClampNeg n.toNatClampNeg)
      | _, _ => none))
  | .ireturn => (match st with
    | [.inl v] => R.1 v h
    | _ => none)
  | .return_ => (match st with
    | [] => R.2.1 h
    | _ => none)
  | .lreturn => (match st with
    | [.inr (.inl v)] => R.2.2.1 v h
    | _ => none)
  | .areturn => (match st with
    | [.inr (.inr (.inl v))] => R.2.2.2 v h
    | _ => none)
  | _ => none
/-- a run from a place on: K says at which places it is handed over -/
def am_run {ρ : Type} (X : (Nat → Int32) × Nat) (P : AP) (R : AR ρ) (C : List AC) (K : List (Nat × (List AV → List AV → HP → Option ρ))) : Nat → Nat → List AV → List AV → HP → Option ρ
  | 0, _, _, _, _ => none
  | n + 1, pc, L, st, h => match am_get C pc with
    | none => none
    | some (ins, nx, tg) => am_exec X P R ins nx tg (fun pc' L' st' h' => match am_get K pc' with
      | some k => k L' st' h'
      | none => am_run X P R C K n pc' L' st' h') L st h
def am_rI : AR (Int32 × HP) := (fun v h => some (v, h), fun _ => none, fun _ _ => none, fun _ _ => none)
def am_rZ : AR (Int32 × HP) := (fun v h => some (v &&& 1, h), fun _ => none, fun _ _ => none, fun _ _ => none)
def am_rV : AR HP := (fun _ _ => none, fun h => some h, fun _ _ => none, fun _ _ => none)
def am_rJ : AR (Int64 × HP) := (fun _ _ => none, fun _ => none, fun v h => some (v, h), fun _ _ => none)
def am_rR : AR (Nat × HP) := (fun _ _ => none, fun _ => none, fun _ _ => none, fun v h => match Nat.beq 16 v.1 with
  | true => some (v.2, h)
  | false => none)
def am_rB : AR (Int32 × HP) := (fun v h => some (v.toInt8.toInt32, h), fun _ => none, fun _ _ => none, fun _ _ => none)
def am_rC : AR (Int32 × HP) := (fun v h => some (v.toUInt32.toUInt16.toUInt32.toInt32, h), fun _ => none, fun _ _ => none, fun _ _ => none)
