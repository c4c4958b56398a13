/-! what bx says at each instruction -/
section MBU
variable {C : mCt} {mi : Nat → Nat × Nat × Nat} {msp : Nat → List mSh} {scr : Option (Nat × (Nat → Int32))} {mc ms : Nat} {rb : Bool} {J : mJt} {Q : mPst} {is : List mIt} {L : mLc} {st : List Value} {sh : List mSh} {σ : mSg} {c n len w a b d : Nat} {ps : List (Nat × Nat)}
theorem bu_nop  : bx C mi msp scr mc ms rb J Q ((.nop , len, w, a, b, d, ps) :: is) L st sh σ c n = (J a (mkl b L) st sh σ c n) := rfl
theorem bu_goto {z0 : Int} : bx C mi msp scr mc ms rb J Q ((.goto z0, len, w, a, b, d, ps) :: is) L st sh σ c n = (J a (mkl b L) st sh σ c n) := rfl
theorem bu_ifCond {k : Jvm.ClassFile.Cond} {z1 : Int} : bx C mi msp scr mc ms rb J Q ((.ifCond k z1, len, w, a, b, d, ps) :: is) L st sh σ c n = (match st with
      | .int x :: r => mbr k x 0 (J a (mkl b L) r sh σ c n) (bx C mi msp scr mc ms rb J Q is L r sh σ c n)
      | _ => False) := rfl
theorem bu_if_icmp {k : Jvm.ClassFile.Cond} {z1 : Int} : bx C mi msp scr mc ms rb J Q ((.if_icmp k z1, len, w, a, b, d, ps) :: is) L st sh σ c n = (match st with
      | .int y :: .int x :: r => mbr k x y (J a (mkl b L) r sh σ c n) (bx C mi msp scr mc ms rb J Q is L r sh σ c n)
      | _ => False) := rfl
theorem bu_tableswitch {z0 : Int} {lo : Int} {hi : Int} {z3 : Array Int} : bx C mi msp scr mc ms rb J Q ((.tableswitch z0 lo hi z3, len, w, a, b, d, ps) :: is) L st sh σ c n = (match st with
      | .int x :: r => (x.toInt < lo ∨ hi < x.toInt → J a (mkl b L) r sh σ c n) ∧ msw x (fun t m => J t (mkl m L) r sh σ c n) lo ps
      | _ => False) := rfl
theorem bu_istore {k : Nat} : bx C mi msp scr mc ms rb J Q ((.istore k, len, w, a, b, d, ps) :: is) L st sh σ c n = (match st with | .int x :: r => bx C mi msp scr mc ms rb J Q is (mst1 L k (.int x)) r sh σ c n | _ => False) := rfl
theorem bu_istore_n {k : Fin 4} : bx C mi msp scr mc ms rb J Q ((.istore_n k, len, w, a, b, d, ps) :: is) L st sh σ c n = (match st with | .int x :: r => bx C mi msp scr mc ms rb J Q is (mst1 L k.val (.int x)) r sh σ c n | _ => False) := rfl
theorem bu_astore {k : Nat} : bx C mi msp scr mc ms rb J Q ((.astore k, len, w, a, b, d, ps) :: is) L st sh σ c n = (match st with | .ref x :: r => bx C mi msp scr mc ms rb J Q is (mst1 L k (.ref x)) r sh σ c n | _ => False) := rfl
theorem bu_astore_n {k : Fin 4} : bx C mi msp scr mc ms rb J Q ((.astore_n k, len, w, a, b, d, ps) :: is) L st sh σ c n = (match st with | .ref x :: r => bx C mi msp scr mc ms rb J Q is (mst1 L k.val (.ref x)) r sh σ c n | _ => False) := rfl
theorem bu_lstore {k : Nat} : bx C mi msp scr mc ms rb J Q ((.lstore k, len, w, a, b, d, ps) :: is) L st sh σ c n = (match st with | .long x :: r => bx C mi msp scr mc ms rb J Q is (mst2 L k (.long x)) r sh σ c n | _ => False) := rfl
theorem bu_lstore_n {k : Fin 4} : bx C mi msp scr mc ms rb J Q ((.lstore_n k, len, w, a, b, d, ps) :: is) L st sh σ c n = (match st with | .long x :: r => bx C mi msp scr mc ms rb J Q is (mst2 L k.val (.long x)) r sh σ c n | _ => False) := rfl
theorem bu_iinc {k : Nat} {z1 : Int} : bx C mi msp scr mc ms rb J Q ((.iinc k z1, len, w, a, b, d, ps) :: is) L st sh σ c n = (match mnx L k with
      | some (some (.int x)) => bx C mi msp scr mc ms rb J Q is (mst1 L k (.int (match d with | 0 => x + nI a | _ => x - nI a))) st sh σ c n
      | _ => False) := rfl
theorem bu_idiv  : bx C mi msp scr mc ms rb J Q ((.idiv , len, w, a, b, d, ps) :: is) L st sh σ c n = (match st with | .int y :: .int x :: r => ¬ y = 0 ∧ bx C mi msp scr mc ms rb J Q is L (.int (x / y) :: r) sh σ c n | _ => False) := rfl
theorem bu_irem  : bx C mi msp scr mc ms rb J Q ((.irem , len, w, a, b, d, ps) :: is) L st sh σ c n = (match st with | .int y :: .int x :: r => ¬ y = 0 ∧ bx C mi msp scr mc ms rb J Q is L (.int (x - x / y * y) :: r) sh σ c n | _ => False) := rfl
theorem bu_ldiv  : bx C mi msp scr mc ms rb J Q ((.ldiv , len, w, a, b, d, ps) :: is) L st sh σ c n = (match st with | .long y :: .long x :: r => ¬ y = 0 ∧ bx C mi msp scr mc ms rb J Q is L (.long (x / y) :: r) sh σ c n | _ => False) := rfl
theorem bu_getstatic {z0 : Nat} : bx C mi msp scr mc ms rb J Q ((.getstatic z0, len, w, a, b, d, ps) :: is) L st sh σ c n = (bx C mi msp scr mc ms rb J Q is L (.ref 1200 :: st) sh σ c n) := rfl
theorem bu_getfield {z0 : Nat} : bx C mi msp scr mc ms rb J Q ((.getfield z0, len, w, a, b, d, ps) :: is) L st sh σ c n = (match st with
      | .ref r :: rest => match mnx sh r with
        | some (.inl (k, fs)) => match Nat.beq k a with
          | true => match mnx fs b with
            | some none => bx C mi msp scr mc ms rb J Q is L (.int (σ r b) :: rest) sh σ c n
            | some (some (some q)) => bx C mi msp scr mc ms rb J Q is L (.ref q :: rest) sh σ c n
            | _ => False
          | false => False
        | _ => False
      | _ => False) := rfl
theorem bu_putfield {z0 : Nat} : bx C mi msp scr mc ms rb J Q ((.putfield z0, len, w, a, b, d, ps) :: is) L st sh σ c n = (match st with
      | .int x :: .ref r :: rest => match mnx sh r with
        | some (.inl (k, fs)) => match Nat.beq k a with
          | true => match mnx fs b with
            | some none => match d with
              | 0 => bx C mi msp scr mc ms rb J Q is L rest sh (mput σ r b x) c n
              | 1 => (x = 0 ∨ x = 1) ∧ bx C mi msp scr mc ms rb J Q is L rest sh (mput σ r b x) c n
              | _ => False
            | _ => False
          | false => False
        | _ => False
      | .ref q :: .ref r :: rest => match mnx sh r with
        | some (.inl (k, fs)) => match Nat.beq k a && Nat.blt q 1000 with
          | true => match mnx fs b with
            | some (some _) => match d with
              | 2 => bx C mi msp scr mc ms rb J Q is L rest (mse sh r (.inl (k, mse fs b (some (some q))))) σ c n
              | _ => False
            | _ => False
          | false => False
        | _ => False
      | _ => False) := rfl
theorem bu_iaload  : bx C mi msp scr mc ms rb J Q ((.iaload , len, w, a, b, d, ps) :: is) L st sh σ c n = (match st with
      | .int x :: .ref r :: rest => match Nat.ble 1000 r with
        | true => match mrow scr r with
          | some (N, f) => vp_in x N ∧ bx C mi msp scr mc ms rb J Q is L (.int (f x.toNatClampNeg) :: rest) sh σ c n
          | none => False
        | false => match mnx sh r with
          | some (.inr (.inl N)) => vp_in x N ∧ bx C mi msp scr mc ms rb J Q is L (.int (σ r x.toNatClampNeg) :: rest) sh σ c n
          | _ => False
      | _ => False) := rfl
theorem bu_iastore  : bx C mi msp scr mc ms rb J Q ((.iastore , len, w, a, b, d, ps) :: is) L st sh σ c n = (match st with
      | .int v :: .int x :: .ref r :: rest => match mnx sh r with
        | some (.inr (.inl N)) => vp_in x N ∧ bx C mi msp scr mc ms rb J Q is L rest sh (mput σ r x.toNatClampNeg v) c n
        | _ => False
      | _ => False) := rfl
theorem bu_laload  : bx C mi msp scr mc ms rb J Q ((.laload , len, w, a, b, d, ps) :: is) L st sh σ c n = (match st with
      | .int x :: .ref r :: rest => match mnx sh r with
        | some (.inr (.inr (.inl N))) => vp_in x N ∧ bx C mi msp scr mc ms rb J Q is L (.long (σ r x.toNatClampNeg).toInt64 :: rest) sh σ c n
        | _ => False
      | _ => False) := rfl
theorem bu_lastore  : bx C mi msp scr mc ms rb J Q ((.lastore , len, w, a, b, d, ps) :: is) L st sh σ c n = (match st with
      | .long v :: .int x :: .ref r :: rest => match mnx sh r with
        | some (.inr (.inr (.inl N))) => vp_in x N ∧ v.toInt32.toInt64 = v ∧ bx C mi msp scr mc ms rb J Q is L rest sh (mput σ r x.toNatClampNeg v.toInt32) c n
        | _ => False
      | _ => False) := rfl
theorem bu_aaload  : bx C mi msp scr mc ms rb J Q ((.aaload , len, w, a, b, d, ps) :: is) L st sh σ c n = (match st with
      | .int x :: .ref r :: rest => match mnx sh r with
        | some (.inr (.inr (.inr rs))) => vp_in x rs.length ∧ ∃ q, mnx rs x.toNatClampNeg = some (some q) ∧ bx C mi msp scr mc ms rb J Q is L (.ref q :: rest) sh σ c n
        | _ => False
      | _ => False) := rfl
theorem bu_aastore  : bx C mi msp scr mc ms rb J Q ((.aastore , len, w, a, b, d, ps) :: is) L st sh σ c n = (match st with
      | .ref q :: .int x :: .ref r :: rest => match mnx sh r, mnx sh q with
        | some (.inr (.inr (.inr rs))), some (.inl (7, _)) => match Nat.blt q 1000 with
          | true => vp_in x rs.length ∧ bx C mi msp scr mc ms rb J Q is L rest (mse sh r (.inr (.inr (.inr (mse rs x.toNatClampNeg (some q)))))) σ c n
          | false => False
        | _, _ => False
      | _ => False) := rfl
theorem bu_arraylength  : bx C mi msp scr mc ms rb J Q ((.arraylength , len, w, a, b, d, ps) :: is) L st sh σ c n = (match st with
      | .ref r :: rest => match Nat.ble 1000 r with
        | true => match r with
          | 1201 => match scr with
            | some (N, _) => bx C mi msp scr mc ms rb J Q is L (.int (nI N) :: rest) sh σ c n
            | none => False
          | _ => False
        | false => match mnx sh r with
          | some (.inr (.inl N)) => bx C mi msp scr mc ms rb J Q is L (.int (nI N) :: rest) sh σ c n
          | some (.inr (.inr (.inr rs))) => bx C mi msp scr mc ms rb J Q is L (.int (nI rs.length) :: rest) sh σ c n
          | _ => False
      | _ => False) := rfl
theorem bu_newarray {t} : bx C mi msp scr mc ms rb J Q ((.newarray t, len, w, a, b, d, ps) :: is) L st sh σ c n = (match st with
      | .int x :: rest => match (mokV sh.length rest && mokL sh.length L) && (mokS sh.length sh && (Nat.blt sh.length 1000 && (Nat.ble (c + 1) mc && (Nat.ble (n + a) ms && Nat.ble a 100000)))) with
        | true => match t with
          | .int => x = nI a ∧ bx C mi msp scr mc ms rb J Q is L (.ref sh.length :: rest) (sh ++ [.inr (.inl a)]) (mnew σ sh.length) (c + 1) (n + a)
          | .long => x = nI a ∧ bx C mi msp scr mc ms rb J Q is L (.ref sh.length :: rest) (sh ++ [.inr (.inr (.inl a))]) (mnew σ sh.length) (c + 1) (n + a)
          | _ => False
        | false => False
      | _ => False) := rfl
theorem bu_anewarray {z0 : Nat} : bx C mi msp scr mc ms rb J Q ((.anewarray z0, len, w, a, b, d, ps) :: is) L st sh σ c n = (match st with
      | .int x :: rest => match (mokV sh.length rest && mokL sh.length L) && (mokS sh.length sh && (Nat.blt sh.length 1000 && (Nat.ble (c + 1) mc && (Nat.ble (n + a) ms && Nat.ble a 100000)))) with
        | true => x = nI a ∧ bx C mi msp scr mc ms rb J Q is L (.ref sh.length :: rest) (sh ++ [.inr (.inr (.inr (List.replicate a none)))]) (mnew σ sh.length) (c + 1) (n + a)
        | false => False
      | _ => False) := rfl
theorem bu_new9 {z0 : Nat} : bx C mi msp scr mc ms rb J Q ((.new z0, len, w, a, b, 9, ps) :: is) L st sh σ c n = (match Nat.ble (mcat st) 8 && (Nat.ble (c + 1) mc && Nat.ble (n + 6) ms) with
        | true => Q (.inr a) sh σ
        | false => False) := rfl
theorem bu_new0 {z0 : Nat} : bx C mi msp scr mc ms rb J Q ((.new z0, len, w, a, b, 0, ps) :: is) L st sh σ c n = (match (mokV sh.length st && mokL sh.length L) && (mokS sh.length sh && (Nat.blt sh.length 1000 && (Nat.ble (c + 1) mc && Nat.ble (n + (mbf a).length) ms))) with
        | true => bx C mi msp scr mc ms rb J Q is L (.ref sh.length :: st) (sh ++ [.inl (a, mbf a)]) (mnew σ sh.length) (c + 1) (n + (mbf a).length)
        | false => False) := rfl
theorem bu_invokevirtual7 {z0 : Nat} : bx C mi msp scr mc ms rb J Q ((.invokevirtual z0, len, w, a, b, 7, ps) :: is) L st sh σ c n = (match st with
        | .ref r :: rest => mslen (Nat.ble 1000 r && (Nat.ble (mcat rest) 8 && (Nat.ble c mc && Nat.ble n ms))) r (fun x => bx C mi msp scr mc ms rb J Q is L (.int x :: rest) sh σ c n)
        | _ => False) := rfl
theorem bu_invokevirtual8 {z0 : Nat} : bx C mi msp scr mc ms rb J Q ((.invokevirtual z0, len, w, a, b, 8, ps) :: is) L st sh σ c n = (match st with
        | .int x :: .ref r :: rest => mschr (Nat.ble 1000 r && (Nat.ble (mcat rest) 8 && (Nat.ble c mc && Nat.ble n ms))) r x (fun y => bx C mi msp scr mc ms rb J Q is L (.int y :: rest) sh σ c n)
        | _ => False) := rfl
theorem bu_invokevirtual0 {z0 : Nat} : bx C mi msp scr mc ms rb J Q ((.invokevirtual z0, len, w, a, b, 0, ps) :: is) L st sh σ c n = (match mrc sh (mi a).2.2 (mtk b st).reverse && ((mokV sh.length (mdr b st) && mokL sh.length L) && ((Nat.ble b st.length && Nat.ble (mcat (mdr b st)) 8) && (Nat.ble (c + (mi a).1) mc && Nat.ble (n + (mi a).2.1) ms))) with
        | true => C a (mtk b st).reverse sh σ (mend J Q ps L (c + (mi a).1) (n + (mi a).2.1) (fun v sh2 σ2 => bx C mi msp scr mc ms rb J Q is L (v ++ mdr b st) sh2 σ2 (c + (mi a).1) (n + (mi a).2.1)))
        | false => False) := rfl
theorem bu_invokevirtual1 {z0 : Nat} : bx C mi msp scr mc ms rb J Q ((.invokevirtual z0, len, w, a, b, 1, ps) :: is) L st sh σ c n = (match mrc sh (mi a).2.2 (mtk b st).reverse && (mck (mrg sh (mtk b st).reverse) sh (msp a) && ((Nat.ble b st.length && Nat.ble (mcat (mdr b st)) 8) && (Nat.ble (c + (mi a).1) mc && Nat.ble (n + (mi a).2.1) ms))) with
        | true => match mrv (mrg sh (mtk b st).reverse) (mtk b st).reverse with
          | some as => C a as (msp a) (fun j => σ (mgl (mrg sh (mtk b st).reverse) j)) (mloc (msp a) (fun o σ2 => mend J Q ps L (c + (mi a).1) (n + (mi a).2.1) (fun v sh2 σ3 => bx C mi msp scr mc ms rb J Q is L (v ++ mdr b st) sh2 σ3 (c + (mi a).1) (n + (mi a).2.1)) o sh (mback (mrg sh (mtk b st).reverse) σ σ2)))
          | none => False
        | false => False) := rfl
theorem bu_invokestatic2 {z0 : Nat} : bx C mi msp scr mc ms rb J Q ((.invokestatic z0, len, w, a, b, 2, ps) :: is) L st sh σ c n = (match st with | .int y :: .int x :: r => (match (Nat.ble (mcat r) 8 && (Nat.ble c mc && Nat.ble n ms)) with | true => bx C mi msp scr mc ms rb J Q is L (.int (if x < y then y else x) :: r) sh σ c n | false => False) | _ => False) := rfl
theorem bu_invokestatic3 {z0 : Nat} : bx C mi msp scr mc ms rb J Q ((.invokestatic z0, len, w, a, b, 3, ps) :: is) L st sh σ c n = (match st with | .int y :: .int x :: r => (match (Nat.ble (mcat r) 8 && (Nat.ble c mc && Nat.ble n ms)) with | true => bx C mi msp scr mc ms rb J Q is L (.int (if x < y then x else y) :: r) sh σ c n | false => False) | _ => False) := rfl
theorem bu_invokestatic4 {z0 : Nat} : bx C mi msp scr mc ms rb J Q ((.invokestatic z0, len, w, a, b, 4, ps) :: is) L st sh σ c n = (match st with | .int x :: r => (match (Nat.ble (mcat r) 8 && (Nat.ble c mc && Nat.ble n ms)) with | true => bx C mi msp scr mc ms rb J Q is L (.int (if 0 ≤ x then x else 0 - x) :: r) sh σ c n | false => False) | _ => False) := rfl
theorem bu_invokestatic5 {z0 : Nat} : bx C mi msp scr mc ms rb J Q ((.invokestatic z0, len, w, a, b, 5, ps) :: is) L st sh σ c n = (match st with
        | .int k :: .int dp :: .ref q :: .int sp :: .ref r :: rest => match mnx sh r, mnx sh q with
          | some (.inr (.inl N)), some (.inr (.inl M)) => match (Nat.ble (mcat rest) 8 && (Nat.ble c mc && Nat.ble n ms)) with
            | true => (¬ sp < 0 ∧ ¬ dp < 0 ∧ ¬ k < 0 ∧ sp.toNatClampNeg + k.toNatClampNeg ≤ N ∧ dp.toNatClampNeg + k.toNatClampNeg ≤ M) ∧ bx C mi msp scr mc ms rb J Q is L rest sh (fun b2 => if b2 = q then va_cpy (σ r) (σ q) sp.toNatClampNeg dp.toNatClampNeg k.toNatClampNeg else σ b2) c n
            | false => False
          | _, _ => False
        | _ => False) := rfl
theorem bu_invokestatic0 {z0 : Nat} : bx C mi msp scr mc ms rb J Q ((.invokestatic z0, len, w, a, b, 0, ps) :: is) L st sh σ c n = (match (mokV sh.length (mdr b st) && mokL sh.length L) && ((Nat.ble b st.length && Nat.ble (mcat (mdr b st)) 8) && (Nat.ble (c + (mi a).1) mc && Nat.ble (n + (mi a).2.1) ms)) with
        | true => C a (mtk b st).reverse sh σ (mend J Q ps L (c + (mi a).1) (n + (mi a).2.1) (fun v sh2 σ2 => bx C mi msp scr mc ms rb J Q is L (v ++ mdr b st) sh2 σ2 (c + (mi a).1) (n + (mi a).2.1)))
        | false => False) := rfl
theorem bu_invokestatic1 {z0 : Nat} : bx C mi msp scr mc ms rb J Q ((.invokestatic z0, len, w, a, b, 1, ps) :: is) L st sh σ c n = (match mck (mrg sh (mtk b st).reverse) sh (msp a) && ((Nat.ble b st.length && Nat.ble (mcat (mdr b st)) 8) && (Nat.ble (c + (mi a).1) mc && Nat.ble (n + (mi a).2.1) ms)) with
        | true => match mrv (mrg sh (mtk b st).reverse) (mtk b st).reverse with
          | some as => C a as (msp a) (fun j => σ (mgl (mrg sh (mtk b st).reverse) j)) (mloc (msp a) (fun o σ2 => mend J Q ps L (c + (mi a).1) (n + (mi a).2.1) (fun v sh2 σ3 => bx C mi msp scr mc ms rb J Q is L (v ++ mdr b st) sh2 σ3 (c + (mi a).1) (n + (mi a).2.1)) o sh (mback (mrg sh (mtk b st).reverse) σ σ2)))
          | none => False
        | false => False) := rfl
theorem bu_invokespecial6 {z0 : Nat} : bx C mi msp scr mc ms rb J Q ((.invokespecial z0, len, w, a, b, 6, ps) :: is) L st sh σ c n = (match st with | .ref _ :: r => (match (Nat.ble (mcat r) 8 && (Nat.ble c mc && Nat.ble n ms)) with | true => bx C mi msp scr mc ms rb J Q is L r sh σ c n | false => False) | _ => False) := rfl
theorem bu_invokespecial0 {z0 : Nat} : bx C mi msp scr mc ms rb J Q ((.invokespecial z0, len, w, a, b, 0, ps) :: is) L st sh σ c n = (match mrc sh (mi a).2.2 (mtk b st).reverse && ((mokV sh.length (mdr b st) && mokL sh.length L) && ((Nat.ble b st.length && Nat.ble (mcat (mdr b st)) 8) && (Nat.ble (c + (mi a).1) mc && Nat.ble (n + (mi a).2.1) ms))) with
        | true => C a (mtk b st).reverse sh σ (mend J Q ps L (c + (mi a).1) (n + (mi a).2.1) (fun v sh2 σ2 => bx C mi msp scr mc ms rb J Q is L (v ++ mdr b st) sh2 σ2 (c + (mi a).1) (n + (mi a).2.1)))
        | false => False) := rfl
theorem bu_ireturn  : bx C mi msp scr mc ms rb J Q ((.ireturn , len, w, a, b, d, ps) :: is) L st sh σ c n = (match st with
      | [.int x] => match Nat.ble c mc && Nat.ble n ms with
        | true => match rb with
          | true => (x = 0 ∨ x = 1) ∧ Q (.inl (some (.int x))) sh σ
          | false => Q (.inl (some (.int x))) sh σ
        | false => False
      | _ => False) := rfl
theorem bu_lreturn  : bx C mi msp scr mc ms rb J Q ((.lreturn , len, w, a, b, d, ps) :: is) L st sh σ c n = (match st with
      | [.long x] => match Nat.ble c mc && Nat.ble n ms with | true => Q (.inl (some (.long x))) sh σ | false => False
      | _ => False) := rfl
theorem bu_return_  : bx C mi msp scr mc ms rb J Q ((.return_ , len, w, a, b, d, ps) :: is) L st sh σ c n = (match st with
      | [] => match Nat.ble c mc && Nat.ble n ms with | true => Q (.inl none) sh σ | false => False
      | _ => False) := rfl
end MBU
