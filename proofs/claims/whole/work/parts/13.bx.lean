/-! WHAT A STRETCH OF CODE DOES -/
/-- what a read-only row holds: 1200 what the rat has; 1201 the script -/
def mrow (scr : Option (Nat × (Nat → Int32))) : Nat → Option (Nat × (Nat → Int32))
  | 1200 => some (4, mrat)
  | 1201 => scr
  | _ => none
/-- behind a call: returned, or thrown and caught here, or thrown on -/
def mend (J : mJt) (Q : mPst) (hs : List (Nat × Nat)) (L : mLc) (c n : Nat) (K : List Value → List mSh → mSg → Prop) (o : mOut) (sh : List mSh) (σ : mSg) : Prop := match o with
  | .inl none => K [] sh σ
  | .inl (some v) => K [v] sh σ
  | .inr x => match mhd hs x with
    | some t => J t (mkl 0 L) [] sh σ c n
    | none => Q (.inr x) sh σ
/-- behind a call that saw a part of the world: its new cells are let go, an answer is a number -/
def mloc (shl : List mSh) (K : mOut → mSg → Prop) (o : mOut) (sh2 : List mSh) (σ2 : mSg) : Prop := match mpre shl sh2 with
  | true => match o with
    | .inl (some (.int x)) => K (.inl (some (.int x))) σ2
    | .inl (some (.long x)) => K (.inl (some (.long x))) σ2
    | .inl none => K (.inl none) σ2
    | .inr x => K (.inr x) σ2
    | _ => False
  | false => False
/-- the receiver is an object of a class -/
def mrc (sh : List mSh) (k : Nat) : List Value → Bool
  | .ref r :: _ => match mnx sh r with | some (.inl (c, _)) => Nat.beq c k | _ => false
  | _ => false
/-- a text's length, a sign of it -/
def mslen (g : Bool) (r : Nat) (K : Int32 → Prop) : Prop := match g with
  | true => match mstr (r - 1000) with
    | [] => False
    | z :: cs => K (nI (z :: cs).length)
  | false => False
def mschr (g : Bool) (r : Nat) (x : Int32) (K : Int32 → Prop) : Prop := match g with
  | true => match mstr (r - 1000) with
    | [] => False
    | z :: cs => vp_in x (z :: cs).length ∧ K (nI ((z :: cs).getD x.toNatClampNeg 0))
  | false => False
/-- a stretch of code: C what calls do, mi cells, slots and the class of a method, msp the shapes that a method sees, scr the script, mc and ms the room, rb whether a boolean is answered, J labels, Q the end -/
def bx (C : mCt) (mi : Nat → Nat × Nat × Nat) (msp : Nat → List mSh) (scr : Option (Nat × (Nat → Int32))) (mc ms : Nat) (rb : Bool) (J : mJt) (Q : mPst) : List mIt → mLc → List Value → List mSh → mSg → Nat → Nat → Prop
  | [], _, _, _, _, _, _ => False
  | (i, _, _, a, b, d, ps) :: is, L, st, sh, σ, c, n => match i with
    | .nop => J a (mkl b L) st sh σ c n
    | .goto _ => J a (mkl b L) st sh σ c n
    | .ifCond k _ => match st with
      | .int x :: r => mbr k x 0 (J a (mkl b L) r sh σ c n) (bx C mi msp scr mc ms rb J Q is L r sh σ c n)
      | _ => False
    | .if_icmp k _ => match st with
      | .int y :: .int x :: r => mbr k x y (J a (mkl b L) r sh σ c n) (bx C mi msp scr mc ms rb J Q is L r sh σ c n)
      | _ => False
    | .tableswitch _ lo hi _ => match st with
      | .int x :: r => (x.toInt < lo ∨ hi < x.toInt → J a (mkl b L) r sh σ c n) ∧ msw x (fun t m => J t (mkl m L) r sh σ c n) lo ps
      | _ => False
    | .istore k => match st with | .int x :: r => bx C mi msp scr mc ms rb J Q is (mst1 L k (.int x)) r sh σ c n | _ => False
    | .istore_n k => match st with | .int x :: r => bx C mi msp scr mc ms rb J Q is (mst1 L k.val (.int x)) r sh σ c n | _ => False
    | .astore k => match st with | .ref x :: r => bx C mi msp scr mc ms rb J Q is (mst1 L k (.ref x)) r sh σ c n | _ => False
    | .astore_n k => match st with | .ref x :: r => bx C mi msp scr mc ms rb J Q is (mst1 L k.val (.ref x)) r sh σ c n | _ => False
    | .lstore k => match st with | .long x :: r => bx C mi msp scr mc ms rb J Q is (mst2 L k (.long x)) r sh σ c n | _ => False
    | .lstore_n k => match st with | .long x :: r => bx C mi msp scr mc ms rb J Q is (mst2 L k.val (.long x)) r sh σ c n | _ => False
    | .iinc k _ => match mnx L k with
      | some (some (.int x)) => bx C mi msp scr mc ms rb J Q is (mst1 L k (.int (match d with | 0 => x + nI a | _ => x - nI a))) st sh σ c n
      | _ => False
    | .idiv => match st with | .int y :: .int x :: r => ¬ y = 0 ∧ bx C mi msp scr mc ms rb J Q is L (.int (x / y) :: r) sh σ c n | _ => False
    | .irem => match st with | .int y :: .int x :: r => ¬ y = 0 ∧ bx C mi msp scr mc ms rb J Q is L (.int (x - x / y * y) :: r) sh σ c n | _ => False
    | .ldiv => match st with | .long y :: .long x :: r => ¬ y = 0 ∧ bx C mi msp scr mc ms rb J Q is L (.long (x / y) :: r) sh σ c n | _ => False
    | .getstatic _ => bx C mi msp scr mc ms rb J Q is L (.ref 1200 :: st) sh σ c n
    | .getfield _ => match st with
      | .ref r :: rest => match mnx sh r with
        | some (.inl (k, fs)) => match Nat.beq k a with
          | true => match mnx fs b with
            | some none => bx C mi msp scr mc ms rb J Q is L (.int (σ r b) :: rest) sh σ c n
            | some (some (some q)) => bx C mi msp scr mc ms rb J Q is L (.ref q :: rest) sh σ c n
            | _ => False
          | false => False
        | _ => False
      | _ => False
    | .putfield _ => match st with
      | .int x :: .ref r :: rest => match mnx sh r with
        | some (.inl (k, fs)) => match Nat.beq k a with
          | true => match mnx fs b with
            | some none => match d with
              | 0 => bx C mi msp scr mc ms rb J Q is L rest sh (mput σ r b x) c n
              | 1 => (x = 0 ∨ x = 1) ∧ bx C mi msp scr mc ms rb J Q is L rest sh (mput σ r b x) c n
              | _ => False
            | _ => False
          | false => False
        | _ => False
      | .ref q :: .ref r :: rest => match mnx sh r with
        | some (.inl (k, fs)) => match Nat.beq k a && Nat.blt q 1000 with
          | true => match mnx fs b with
            | some (some _) => match d with
              | 2 => bx C mi msp scr mc ms rb J Q is L rest (mse sh r (.inl (k, mse fs b (some (some q))))) σ c n
              | _ => False
            | _ => False
          | false => False
        | _ => False
      | _ => False
    | .iaload => match st with
      | .int x :: .ref r :: rest => match Nat.ble 1000 r with
        | true => match mrow scr r with
          | some (N, f) => vp_in x N ∧ bx C mi msp scr mc ms rb J Q is L (.int (f x.toNatClampNeg) :: rest) sh σ c n
          | none => False
        | false => match mnx sh r with
          | some (.inr (.inl N)) => vp_in x N ∧ bx C mi msp scr mc ms rb J Q is L (.int (σ r x.toNatClampNeg) :: rest) sh σ c n
          | _ => False
      | _ => False
    | .iastore => match st with
      | .int v :: .int x :: .ref r :: rest => match mnx sh r with
        | some (.inr (.inl N)) => vp_in x N ∧ bx C mi msp scr mc ms rb J Q is L rest sh (mput σ r x.toNatClampNeg v) c n
        | _ => False
      | _ => False
    | .laload => match st with
      | .int x :: .ref r :: rest => match mnx sh r with
        | some (.inr (.inr (.inl N))) => vp_in x N ∧ bx C mi msp scr mc ms rb J Q is L (.long (σ r x.toNatClampNeg).toInt64 :: rest) sh σ c n
        | _ => False
      | _ => False
    | .lastore => match st with
      | .long v :: .int x :: .ref r :: rest => match mnx sh r with
        | some (.inr (.inr (.inl N))) => vp_in x N ∧ v.toInt32.toInt64 = v ∧ bx C mi msp scr mc ms rb J Q is L rest sh (mput σ r x.toNatClampNeg v.toInt32) c n
        | _ => False
      | _ => False
    | .aaload => match st with
      | .int x :: .ref r :: rest => match mnx sh r with
        | some (.inr (.inr (.inr rs))) => vp_in x rs.length ∧ ∃ q, mnx rs x.toNatClampNeg = some (some q) ∧ bx C mi msp scr mc ms rb J Q is L (.ref q :: rest) sh σ c n
        | _ => False
      | _ => False
    | .aastore => match st with
      | .ref q :: .int x :: .ref r :: rest => match mnx sh r, mnx sh q with
        | some (.inr (.inr (.inr rs))), some (.inl (7, _)) => match Nat.blt q 1000 with
          | true => vp_in x rs.length ∧ bx C mi msp scr mc ms rb J Q is L rest (mse sh r (.inr (.inr (.inr (mse rs x.toNatClampNeg (some q)))))) σ c n
          | false => False
        | _, _ => False
      | _ => False
    | .arraylength => match st with
      | .ref r :: rest => match Nat.ble 1000 r with
        | true => match r with
          | 1201 => match scr with
            | some (N, _) => bx C mi msp scr mc ms rb J Q is L (.int (nI N) :: rest) sh σ c n
            | none => False
          | _ => False
        | false => match mnx sh r with
          | some (.inr (.inl N)) => bx C mi msp scr mc ms rb J Q is L (.int (nI N) :: rest) sh σ c n
          | some (.inr (.inr (.inr rs))) => bx C mi msp scr mc ms rb J Q is L (.int (nI rs.length) :: rest) sh σ c n
          | _ => False
      | _ => False
    | .newarray t => match st with
      | .int x :: rest => match (mokV sh.length rest && mokL sh.length L) && (mokS sh.length sh && (Nat.blt sh.length 1000 && (Nat.ble (c + 1) mc && (Nat.ble (n + a) ms && Nat.ble a 100000)))) with
        | true => match t with
          | .int => x = nI a ∧ bx C mi msp scr mc ms rb J Q is L (.ref sh.length :: rest) (sh ++ [.inr (.inl a)]) (mnew σ sh.length) (c + 1) (n + a)
          | .long => x = nI a ∧ bx C mi msp scr mc ms rb J Q is L (.ref sh.length :: rest) (sh ++ [.inr (.inr (.inl a))]) (mnew σ sh.length) (c + 1) (n + a)
          | _ => False
        | false => False
      | _ => False
    | .anewarray _ => match st with
      | .int x :: rest => match (mokV sh.length rest && mokL sh.length L) && (mokS sh.length sh && (Nat.blt sh.length 1000 && (Nat.ble (c + 1) mc && (Nat.ble (n + a) ms && Nat.ble a 100000)))) with
        | true => x = nI a ∧ bx C mi msp scr mc ms rb J Q is L (.ref sh.length :: rest) (sh ++ [.inr (.inr (.inr (List.replicate a none)))]) (mnew σ sh.length) (c + 1) (n + a)
        | false => False
      | _ => False
    | .new _ => match d with
      | 9 => match Nat.ble (mcat st) 8 && (Nat.ble (c + 1) mc && Nat.ble (n + 6) ms) with
        | true => Q (.inr a) sh σ
        | false => False
      | 0 => match (mokV sh.length st && mokL sh.length L) && (mokS sh.length sh && (Nat.blt sh.length 1000 && (Nat.ble (c + 1) mc && Nat.ble (n + (mbf a).length) ms))) with
        | true => bx C mi msp scr mc ms rb J Q is L (.ref sh.length :: st) (sh ++ [.inl (a, mbf a)]) (mnew σ sh.length) (c + 1) (n + (mbf a).length)
        | false => False
      | _ => False
    | .invokevirtual _ => match d with
      | 7 => match st with
        | .ref r :: rest => mslen (Nat.ble 1000 r && (Nat.ble (mcat rest) 8 && (Nat.ble c mc && Nat.ble n ms))) r (fun x => bx C mi msp scr mc ms rb J Q is L (.int x :: rest) sh σ c n)
        | _ => False
      | 8 => match st with
        | .int x :: .ref r :: rest => mschr (Nat.ble 1000 r && (Nat.ble (mcat rest) 8 && (Nat.ble c mc && Nat.ble n ms))) r x (fun y => bx C mi msp scr mc ms rb J Q is L (.int y :: rest) sh σ c n)
        | _ => False
      | 0 => match mrc sh (mi a).2.2 (mtk b st).reverse && ((mokV sh.length (mdr b st) && mokL sh.length L) && ((Nat.ble b st.length && Nat.ble (mcat (mdr b st)) 8) && (Nat.ble (c + (mi a).1) mc && Nat.ble (n + (mi a).2.1) ms))) with
        | true => C a (mtk b st).reverse sh σ (mend J Q ps L (c + (mi a).1) (n + (mi a).2.1) (fun v sh2 σ2 => bx C mi msp scr mc ms rb J Q is L (v ++ mdr b st) sh2 σ2 (c + (mi a).1) (n + (mi a).2.1)))
        | false => False
      | 1 => match mrc sh (mi a).2.2 (mtk b st).reverse && (mck (mrg sh (mtk b st).reverse) sh (msp a) && ((Nat.ble b st.length && Nat.ble (mcat (mdr b st)) 8) && (Nat.ble (c + (mi a).1) mc && Nat.ble (n + (mi a).2.1) ms))) with
        | true => match mrv (mrg sh (mtk b st).reverse) (mtk b st).reverse with
          | some as => C a as (msp a) (fun j => σ (mgl (mrg sh (mtk b st).reverse) j)) (mloc (msp a) (fun o σ2 => mend J Q ps L (c + (mi a).1) (n + (mi a).2.1) (fun v sh2 σ3 => bx C mi msp scr mc ms rb J Q is L (v ++ mdr b st) sh2 σ3 (c + (mi a).1) (n + (mi a).2.1)) o sh (mback (mrg sh (mtk b st).reverse) σ σ2)))
          | none => False
        | false => False
      | _ => False
    | .invokestatic _ => match d with
      | 2 => match st with | .int y :: .int x :: r => (match (Nat.ble (mcat r) 8 && (Nat.ble c mc && Nat.ble n ms)) with | true => bx C mi msp scr mc ms rb J Q is L (.int (if x < y then y else x) :: r) sh σ c n | false => False) | _ => False
      | 3 => match st with | .int y :: .int x :: r => (match (Nat.ble (mcat r) 8 && (Nat.ble c mc && Nat.ble n ms)) with | true => bx C mi msp scr mc ms rb J Q is L (.int (if x < y then x else y) :: r) sh σ c n | false => False) | _ => False
      | 4 => match st with | .int x :: r => (match (Nat.ble (mcat r) 8 && (Nat.ble c mc && Nat.ble n ms)) with | true => bx C mi msp scr mc ms rb J Q is L (.int (if 0 ≤ x then x else 0 - x) :: r) sh σ c n | false => False) | _ => False
      | 5 => match st with
        | .int k :: .int dp :: .ref q :: .int sp :: .ref r :: rest => match mnx sh r, mnx sh q with
          | some (.inr (.inl N)), some (.inr (.inl M)) => match (Nat.ble (mcat rest) 8 && (Nat.ble c mc && Nat.ble n ms)) with
            | true => (¬ sp < 0 ∧ ¬ dp < 0 ∧ ¬ k < 0 ∧ sp.toNatClampNeg + k.toNatClampNeg ≤ N ∧ dp.toNatClampNeg + k.toNatClampNeg ≤ M) ∧ bx C mi msp scr mc ms rb J Q is L rest sh (fun b2 => if b2 = q then va_cpy (σ r) (σ q) sp.toNatClampNeg dp.toNatClampNeg k.toNatClampNeg else σ b2) c n
            | false => False
          | _, _ => False
        | _ => False
      | 0 => match (mokV sh.length (mdr b st) && mokL sh.length L) && ((Nat.ble b st.length && Nat.ble (mcat (mdr b st)) 8) && (Nat.ble (c + (mi a).1) mc && Nat.ble (n + (mi a).2.1) ms)) with
        | true => C a (mtk b st).reverse sh σ (mend J Q ps L (c + (mi a).1) (n + (mi a).2.1) (fun v sh2 σ2 => bx C mi msp scr mc ms rb J Q is L (v ++ mdr b st) sh2 σ2 (c + (mi a).1) (n + (mi a).2.1)))
        | false => False
      | 1 => match mck (mrg sh (mtk b st).reverse) sh (msp a) && ((Nat.ble b st.length && Nat.ble (mcat (mdr b st)) 8) && (Nat.ble (c + (mi a).1) mc && Nat.ble (n + (mi a).2.1) ms)) with
        | true => match mrv (mrg sh (mtk b st).reverse) (mtk b st).reverse with
          | some as => C a as (msp a) (fun j => σ (mgl (mrg sh (mtk b st).reverse) j)) (mloc (msp a) (fun o σ2 => mend J Q ps L (c + (mi a).1) (n + (mi a).2.1) (fun v sh2 σ3 => bx C mi msp scr mc ms rb J Q is L (v ++ mdr b st) sh2 σ3 (c + (mi a).1) (n + (mi a).2.1)) o sh (mback (mrg sh (mtk b st).reverse) σ σ2)))
          | none => False
        | false => False
      | _ => False
    | .invokespecial _ => match d with
      | 6 => match st with | .ref _ :: r => (match (Nat.ble (mcat r) 8 && (Nat.ble c mc && Nat.ble n ms)) with | true => bx C mi msp scr mc ms rb J Q is L r sh σ c n | false => False) | _ => False
      | 0 => match mrc sh (mi a).2.2 (mtk b st).reverse && ((mokV sh.length (mdr b st) && mokL sh.length L) && ((Nat.ble b st.length && Nat.ble (mcat (mdr b st)) 8) && (Nat.ble (c + (mi a).1) mc && Nat.ble (n + (mi a).2.1) ms))) with
        | true => C a (mtk b st).reverse sh σ (mend J Q ps L (c + (mi a).1) (n + (mi a).2.1) (fun v sh2 σ2 => bx C mi msp scr mc ms rb J Q is L (v ++ mdr b st) sh2 σ2 (c + (mi a).1) (n + (mi a).2.1)))
        | false => False
      | _ => False
    | .ireturn => match st with
      | [.int x] => match Nat.ble c mc && Nat.ble n ms with
        | true => match rb with
          | true => (x = 0 ∨ x = 1) ∧ Q (.inl (some (.int x))) sh σ
          | false => Q (.inl (some (.int x))) sh σ
        | false => False
      | _ => False
    | .lreturn => match st with
      | [.long x] => match Nat.ble c mc && Nat.ble n ms with | true => Q (.inl (some (.long x))) sh σ | false => False
      | _ => False
    | .return_ => match st with
      | [] => match Nat.ble c mc && Nat.ble n ms with | true => Q (.inl none) sh σ | false => False
      | _ => False
    | j => match mpu j a d L st with
      | some st2 => bx C mi msp scr mc ms rb J Q is L st2 sh σ c n
      | none => False
