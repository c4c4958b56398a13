/-! MINI: what a method's code does, as a weakest condition over a world of cells at the numbers 0, 1, .. (a reference is such a number; 1000 and on are constants: texts, read-only rows). A world is a list of shapes (fixed but in constructors) and the ints in it. No Lean of the kit's is copied here. -/
/-- a field: none an int; some none null; some (some r) a reference -/
abbrev mFs : Type := Option (Option Nat)
/-- a cell's shape: an object (class, fields) | int[n] | long[n] (of longs that are ints) | references -/
abbrev mSh : Type := (Nat × List mFs) ⊕ (Nat ⊕ (Nat ⊕ List (Option Nat)))
abbrev mSg : Type := Nat → Nat → Int32
abbrev mLc : Type := List (Option Value)
/-- an instruction with what it means: its length, the place of its word in the tables, three numbers, pairs -/
abbrev mIt : Type := Instr × Nat × Nat × Nat × Nat × Nat × List (Nat × Nat)
/-- returned, or threw a class -/
abbrev mOut : Type := Option Value ⊕ Nat
abbrev mPst : Type := mOut → List mSh → mSg → Prop
abbrev mJt : Type := Nat → mLc → List Value → List mSh → mSg → Nat → Nat → Prop
abbrev mCt : Type := Nat → List Value → List mSh → mSg → mPst → Prop
def mnx {α : Type} : List α → Nat → Option α
  | [], _ => none
  | a :: _, 0 => some a
  | _ :: l, n + 1 => mnx l n
def mse {α : Type} : List α → Nat → α → List α
  | [], _, _ => []
  | _ :: l, 0, v => v :: l
  | a :: l, n + 1, v => a :: mse l n v
def mput (σ : mSg) (a i : Nat) (v : Int32) : mSg := fun b => if b = a then upd (σ b) i v else σ b
/-- the live ones of the locals -/
def mkl : Nat → mLc → mLc
  | _, [] => []
  | m, v :: L => (match m % 2 with | 0 => none | _ => v) :: mkl (m / 2) L
/-- the local ahead of place n, if it is a long, is known no more -/
def mclr : mLc → Nat → mLc
  | [], _ => []
  | a :: L, 0 => a :: L
  | a :: L, 1 => (match a with | some (.long _) => none | some (.double _) => none | _ => a) :: L
  | a :: L, n + 2 => a :: mclr L (n + 1)
def mst1 (L : mLc) (i : Nat) (v : Value) : mLc := mse (mclr L i) i (some v)
def mst2 (L : mLc) (i : Nat) (v : Value) : mLc := mse (mse (mclr L i) i (some v)) (i + 1) none
/-- ranges of cells that a callee sees: its numbers to the caller's, and back -/
def mgl : List (Nat × Nat) → Nat → Nat
  | [], j => 1000 + j
  | (k, n) :: r, j => match Nat.blt j n with | true => k + j | false => mgl r (j - n)
def mlo : List (Nat × Nat) → Nat → Option Nat
  | [], _ => none
  | (k, n) :: r, a => match Nat.ble k a && Nat.blt a (k + n) with | true => some (a - k) | false => match mlo r a with | some j => some (j + n) | none => none
def mtot : List (Nat × Nat) → Nat
  | [] => 0
  | (_, n) :: r => n + mtot r
/-- the ranges lie apart, and within the first N -/
def map1 (k n : Nat) : List (Nat × Nat) → Bool
  | [] => true
  | (k2, n2) :: r => (Nat.ble (k + n) k2 || Nat.ble (k2 + n2) k) && map1 k n r
def mapt (N : Nat) : List (Nat × Nat) → Bool
  | [] => true
  | (k, n) :: r => Nat.ble (k + n) N && (map1 k n r && mapt N r)
def mrv (rg : List (Nat × Nat)) : List Value → Option (List Value)
  | [] => some []
  | .ref r :: l => match Nat.ble 1000 r with
    | true => match mrv rg l with | some l' => some (.ref r :: l') | none => none
    | false => match mlo rg r with
      | some q => match mrv rg l with | some l' => some (.ref q :: l') | none => none
      | none => none
  | v :: l => match mrv rg l with | some l' => some (v :: l') | none => none
def mckF (rg : List (Nat × Nat)) : List mFs → List mFs → Bool
  | [], [] => true
  | none :: a, none :: b => mckF rg a b
  | some none :: a, some none :: b => mckF rg a b
  | some (some q) :: a, some (some q2) :: b => match mlo rg q with | some j => Nat.beq j q2 && mckF rg a b | none => false
  | _, _ => false
def mckR (rg : List (Nat × Nat)) : List (Option Nat) → List (Option Nat) → Bool
  | [], [] => true
  | none :: a, none :: b => mckR rg a b
  | some q :: a, some q2 :: b => match mlo rg q with | some j => Nat.beq j q2 && mckR rg a b | none => false
  | _, _ => false
def mck1 (rg : List (Nat × Nat)) : Option mSh → mSh → Bool
  | some (.inl (c, fs)), .inl (c2, fs2) => Nat.beq c c2 && mckF rg fs fs2
  | some (.inr (.inl n)), .inr (.inl n2) => Nat.beq n n2
  | some (.inr (.inr (.inl n))), .inr (.inr (.inl n2)) => Nat.beq n n2
  | some (.inr (.inr (.inr rs))), .inr (.inr (.inr rs2)) => mckR rg rs rs2
  | _, _ => false
def mckA (rg : List (Nat × Nat)) (sh : List mSh) : Nat → List mSh → Bool
  | _, [] => true
  | j, s :: l => mck1 rg (mnx sh (mgl rg j)) s && mckA rg sh (j + 1) l
/-- the callee's shapes are the caller's in these ranges -/
def mck (rg : List (Nat × Nat)) (sh shl : List mSh) : Bool := (Nat.beq (mtot rg) shl.length && (Nat.ble (mtot rg) 1000 && mapt sh.length rg)) && mckA rg sh 0 shl
/-- how many cells belong to an object of a class: Deals, Guesses, Law, Log, Memory, (Reader), Rounds, State, Tape, DustYard, DustYardModel -/
def mbl : Nat → Nat
  | 0 => 3
  | 1 => 4
  | 2 => 7
  | 3 => 2
  | 4 => 110
  | 6 => 4
  | 7 => 9
  | 8 => 4
  | 9 => 176
  | 10 => 14
  | _ => 1
def mrg1 (sh : List mSh) (r : Nat) : List (Nat × Nat) := match mnx sh r with
  | some (.inl (5, [some (some a), some (some b), some (some d)])) => [(r, 1), (a, 4), (b, 9), (d, 7)]
  | some (.inl (c, _)) => [(r, mbl c)]
  | _ => [(r, 1)]
def mrg (sh : List mSh) : List Value → List (Nat × Nat)
  | [] => []
  | .ref r :: l => match Nat.ble 1000 r with | true => mrg sh l | false => mrg1 sh r ++ mrg sh l
  | _ :: l => mrg sh l
/-- the ints behind a callee's end -/
def mback (rg : List (Nat × Nat)) (σ σl : mSg) : mSg := fun a => match mlo rg a with | some j => σl j | none => σ a
def mfsE : List mFs → List mFs → Bool
  | [], [] => true
  | none :: a, none :: b => mfsE a b
  | some none :: a, some none :: b => mfsE a b
  | some (some q) :: a, some (some q2) :: b => Nat.beq q q2 && mfsE a b
  | _, _ => false
def mrsE : List (Option Nat) → List (Option Nat) → Bool
  | [], [] => true
  | none :: a, none :: b => mrsE a b
  | some q :: a, some q2 :: b => Nat.beq q q2 && mrsE a b
  | _, _ => false
def mshE : mSh → mSh → Bool
  | .inl (c, fs), .inl (c2, fs2) => Nat.beq c c2 && mfsE fs fs2
  | .inr (.inl n), .inr (.inl n2) => Nat.beq n n2
  | .inr (.inr (.inl n)), .inr (.inr (.inl n2)) => Nat.beq n n2
  | .inr (.inr (.inr rs)), .inr (.inr (.inr rs2)) => mrsE rs rs2
  | _, _ => false
/-- the first list is the beginning of the second -/
def mpre : List mSh → List mSh → Bool
  | [], _ => true
  | a :: l, b :: m => mshE a b && mpre l m
  | _ :: _, [] => false
/-- references of a list are below n, or constants -/
def mokV (n : Nat) : List Value → Bool
  | [] => true
  | .ref r :: l => (Nat.blt r n || Nat.ble 1000 r) && mokV n l
  | _ :: l => mokV n l
def mokL (n : Nat) : mLc → Bool
  | [] => true
  | some (.ref r) :: l => (Nat.blt r n || Nat.ble 1000 r) && mokL n l
  | _ :: l => mokL n l
def mokF (n : Nat) : List mFs → Bool
  | [] => true
  | some (some r) :: l => Nat.blt r n && mokF n l
  | _ :: l => mokF n l
def mokR (n : Nat) : List (Option Nat) → Bool
  | [] => true
  | some r :: l => Nat.blt r n && mokR n l
  | _ :: l => mokR n l
def mokS (n : Nat) : List mSh → Bool
  | [] => true
  | .inl (_, fs) :: l => mokF n fs && mokS n l
  | .inr (.inr (.inr rs)) :: l => mokR n rs && mokS n l
  | _ :: l => mokS n l
def mcat : List Value → Nat
  | [] => 0
  | .long _ :: l => 2 + mcat l
  | .double _ :: l => 2 + mcat l
  | _ :: l => 1 + mcat l
def mtk : Nat → List Value → List Value
  | 0, _ => []
  | _ + 1, [] => []
  | n + 1, v :: l => v :: mtk n l
def mdr : Nat → List Value → List Value
  | 0, l => l
  | _ + 1, [] => []
  | n + 1, _ :: l => mdr n l
def mhd : List (Nat × Nat) → Nat → Option Nat
  | [], _ => none
  | (a, t) :: l, x => match Nat.beq a x with | true => some t | false => mhd l x
/-- constants and what only the stack and the locals are asked for -/
def mpu (i : Instr) (a d : Nat) (L : mLc) (st : List Value) : Option (List Value) := match i with
  | .iconst _ => some (.int (match d with | 0 => nI a | _ => -(nI a)) :: st)
  | .bipush _ => some (.int (match d with | 0 => nI a | _ => -(nI a)) :: st)
  | .sipush _ => some (.int (match d with | 0 => nI a | _ => -(nI a)) :: st)
  | .ldc _ => some ((match d with | 0 => Value.int (nI a) | 1 => .int (-(nI a)) | _ => .ref (1000 + a)) :: st)
  | .ldc_w _ => some ((match d with | 0 => Value.int (nI a) | 1 => .int (-(nI a)) | _ => .ref (1000 + a)) :: st)
  | .ldc2_w _ => some (.long (lN a) :: st)
  | .lconst _ => some (.long (lN a) :: st)
  | .iload k => match mnx L k with | some (some (.int x)) => some (.int x :: st) | _ => none
  | .iload_n k => match mnx L k.val with | some (some (.int x)) => some (.int x :: st) | _ => none
  | .lload k => match mnx L k with | some (some (.long x)) => some (.long x :: st) | _ => none
  | .lload_n k => match mnx L k.val with | some (some (.long x)) => some (.long x :: st) | _ => none
  | .aload k => match mnx L k with | some (some (.ref x)) => some (.ref x :: st) | _ => none
  | .aload_n k => match mnx L k.val with | some (some (.ref x)) => some (.ref x :: st) | _ => none
  | .iadd => match st with | .int y :: .int x :: r => some (.int (x + y) :: r) | _ => none
  | .isub => match st with | .int y :: .int x :: r => some (.int (x - y) :: r) | _ => none
  | .imul => match st with | .int y :: .int x :: r => some (.int (x * y) :: r) | _ => none
  | .iand => match st with | .int y :: .int x :: r => some (.int (x &&& y) :: r) | _ => none
  | .ior => match st with | .int y :: .int x :: r => some (.int (x ||| y) :: r) | _ => none
  | .ixor => match st with | .int y :: .int x :: r => some (.int (x ^^^ y) :: r) | _ => none
  | .ishl => match st with | .int y :: .int x :: r => some (.int (x <<< (y &&& 31)) :: r) | _ => none
  | .ishr => match st with | .int y :: .int x :: r => some (.int (x >>> (y &&& 31)) :: r) | _ => none
  | .iushr => match st with | .int y :: .int x :: r => some (.int ((x.toUInt32 >>> (y.toUInt32 &&& Int32.toUInt32 31)).toInt32) :: r) | _ => none
  | .ineg => match st with | .int x :: r => some (.int (-x) :: r) | _ => none
  | .i2l => match st with | .int x :: r => some (.long x.toInt64 :: r) | _ => none
  | .l2i => match st with | .long x :: r => some (.int x.toInt32 :: r) | _ => none
  | .ladd => match st with | .long y :: .long x :: r => some (.long (x + y) :: r) | _ => none
  | .lmul => match st with | .long y :: .long x :: r => some (.long (x * y) :: r) | _ => none
  | .lcmp => match st with | .long y :: .long x :: r => some (.int (lg_cmp x y) :: r) | _ => none
  | .dup => match st with | .int x :: r => some (.int x :: .int x :: r) | .ref x :: r => some (.ref x :: .ref x :: r) | _ => none
  | .dup2 => match st with | .int y :: .ref x :: r => some (.int y :: .ref x :: .int y :: .ref x :: r) | _ => none
  | .pop => match st with | .int _ :: r => some r | .ref _ :: r => some r | _ => none
  | _ => none
/-- a branch: taken, not taken -/
def mbr (k : Jvm.ClassFile.Cond) (x y : Int32) (t f : Prop) : Prop := match k with
  | .eq => (x = y → t) ∧ (¬ x = y → f)
  | .ne => (¬ x = y → t) ∧ (x = y → f)
  | .lt => (x < y → t) ∧ (¬ x < y → f)
  | .ge => (y ≤ x → t) ∧ (¬ y ≤ x → f)
  | .gt => (y < x → t) ∧ (¬ y < x → f)
  | .le => (x ≤ y → t) ∧ (¬ x ≤ y → f)
def msw (x : Int32) (J : Nat → Nat → Prop) : Int → List (Nat × Nat) → Prop
  | _, [] => True
  | z, (t, m) :: l => (x.toInt = z → J t m) ∧ msw x J (z + 1) l
/-- fields of a new object of a class (by the numbers above): none an int, some none a reference -/
def mbf : Nat → List mFs
  | 0 => [some none, some none, none, none, none]
  | 1 => [some none, some none, some none, none]
  | 2 => [none, none, some none, some none, some none, some none, some none, some none]
  | 3 => [some none, none, none]
  | 4 => [some none, none, none]
  | 5 => [some none, some none, some none]
  | 6 => [some none, some none, some none, none]
  | 7 => [some none, some none, some none, some none, some none, some none, some none, none, none, none, none, none, none, none, none, none, none, none]
  | 8 => [some none, some none, some none, none, none, none]
  | 9 => [some none, some none, some none, some none, some none, some none, some none, some none, some none, some none, some none, some none, some none, none, none]
  | 10 => [none, some none, some none, none, some none, some none, none, some none, none, none, none, none, none, none, some none, none, none, none, some none, some none, some none, some none, some none, some none, some none]
  | _ => []
def mnew (σ : mSg) (k : Nat) : mSg := fun b => if b = k then fun _ => 0 else σ b
/-- what a read-only row holds: 1200 what the rat has; 1201 the script -/
def mro (scr : Nat × (Nat → Int32)) : Nat → Option (Nat × (Nat → Int32))
  | 1200 => some (4, fun i => match i with | 0 => 1 | 1 => 0 | 2 => -1 | _ => 2)
  | 1201 => some scr
  | _ => none
