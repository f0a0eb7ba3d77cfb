def am_isI (v : am_V) : Bool := match v with | .inl _ => true | _ => false
def am_isL (v : am_V) : Bool := match v with | .inr (.inl _) => true | _ => false
def am_isR (v : am_V) : Bool := match v with | .inr (.inr (.inl _)) => true | .inr (.inr (.inr (.inl _))) => true | .inr (.inr (.inr (.inr (.inl _)))) => true | _ => false
def am_cat (v : am_V) : Nat := match v with | .inr (.inl _) => 2 | _ => 1
def am_catS : List am_V → Nat
  | [] => 0
  | v :: t => am_cat v + am_catS t
def am_fit (ls : List am_V) (i : Nat) : Bool := Nat.ble (i + 1) ls.length && (match i with | 0 => true | j + 1 => match ls[j]? with | some v => !am_isL v | none => true)
def am_up (M : am_M) (o k i : Nat) (v : Int32) : am_M := fun o' k' i' => if o' = o ∧ k' = k ∧ i' = i then v else M o' k' i'
def am_upR (R : am_R) (o k v : Nat) : am_R := fun o' k' => if o' = o ∧ k' = k then v else R o' k'
def am_cp (M : am_M) (o0 k0 sp o1 k1 dp n : Nat) : am_M := fun o k i => if o = o1 ∧ k = k1 then va_cpy (M o0 k0) (M o1 k1) sp dp n i else M o k i
def am_push (r : Option am_V) (t : List am_V) : List am_V := match r with | some v => v :: t | none => t
def am_br (c : Jvm.ClassFile.Cond) (a b : Int32) (T F : Prop) : Prop := match c with
  | .eq => (a = b → T) ∧ (¬ a = b → F)
  | .ne => (¬ a = b → T) ∧ (a = b → F)
  | .lt => (a < b → T) ∧ (¬ a < b → F)
  | .ge => (b ≤ a → T) ∧ (¬ b ≤ a → F)
  | .gt => (b < a → T) ∧ (¬ b < a → F)
  | .le => (a ≤ b → T) ∧ (¬ a ≤ b → F)
def am_tsw (a : Int32) (pc : Nat) (K : Nat → Prop) (d : Int) : Int → List Int → Prop
  | _, [] => K ((pc : Int) + d).toNat
  | lo, o :: os => (a.toInt = lo → K ((pc : Int) + o).toNat) ∧ (¬ a.toInt = lo → am_tsw a pc K d (lo + 1) os)
def am_lsw (a : Int32) (pc : Nat) (K : Nat → Prop) (d : Int) : List (Int × Int) → Prop
  | [] => K ((pc : Int) + d).toNat
  | (k, o) :: os => (a.toInt = k → K ((pc : Int) + o).toNat) ∧ (¬ a.toInt = k → am_lsw a pc K d os)
/-- what each kind of object holds: (0, _) a number, (1, n) a row of n ints, (2, n) of n booleans, (3, c) an object of kind c -/
def am_fk (c k : Nat) : Nat × Nat := (am_fks.getD c []).getD k (9, 0)
def am_fld (f : Nat × Nat) (M : am_M) (R : am_R) (o k : Nat) : am_V := match f with
  | (0, _) => aI (M o k 0)
  | (1, n) => aA o k n
  | (2, n) => aZ o k n
  | (3, c) => aO c (R o k)
  | _ => aU
def am_put (f : Nat × Nat) (a : am_V) (K : am_M → am_R → Prop) (M : am_M) (R : am_R) (o k : Nat) : Prop := match f with
  | (0, _) => match a with | .inl v => K (am_up M o k 0 v) R | _ => False
  | (3, c) => match a with | .inr (.inr (.inl (c2, o2))) => (bif Nat.beq c2 c then K M (am_upR R o k o2) else False) | _ => False
  | _ => False
def am_int2 (st : List am_V) (K : Int32 → Int32 → List am_V → Prop) : Prop := match st with | .inl b :: .inl a :: t => K a b t | _ => False
def am_lng2 (st : List am_V) (K : Int64 → Int64 → List am_V → Prop) : Prop := match st with | .inr (.inl b) :: .inr (.inl a) :: t => K a b t | _ => False
/-- what a call gives back: nothing, a number, an object of a kind -/
def am_rk (k : Nat) (r : Option am_V) (rest : List am_V) (K : List am_V → Prop) : Prop := match k with
  | 0 => r = none ∧ K rest
  | 1 => ∃ a : Int32, r = some (aI a) ∧ K (aI a :: rest)
  | c + 2 => ∃ o : Nat, r = some (aO c o) ∧ K (aO c o :: rest)
def am_call (call : am_C) (x y z : Nat) (st : List am_V) (M : am_M) (R : am_R) (K : List am_V → am_M → am_R → Prop) : Prop :=
  bif Nat.ble y st.length && Nat.ble (am_catS (st.drop y)) 8 then
    (match z / 100 % 10 with
    | 0 => (match (st.take y).reverse with
      | .inr (.inr (.inl (c, o))) :: as => (bif Nat.beq c (z % 100) then call x (aO c o :: as) M R (fun r M' R' => am_rk (z / 1000) r (st.drop y) (fun t => K t M' R')) else False)
      | _ => False)
    | _ => call x ((st.take y).reverse) M R (fun r M' R' => am_rk (z / 1000) r (st.drop y) (fun t => K t M' R')))
  else False
def am_copy (st : List am_V) (M : am_M) (K : List am_V → am_M → Prop) : Prop := match st with
  | .inl n :: .inl dp :: .inr (.inr (.inr (.inl (o1, k1, n1, false)))) :: .inl sp :: .inr (.inr (.inr (.inl (o0, k0, n0, false)))) :: t =>
    ¬ sp < 0 ∧ ¬ dp < 0 ∧ ¬ n < 0 ∧ sp.toNatClampNeg + n.toNatClampNeg ≤ n0 ∧ dp.toNatClampNeg + n.toNatClampNeg ≤ n1 ∧ (bif Nat.ble (am_catS t) 8 then K t (am_cp M o0 k0 sp.toNatClampNeg o1 k1 dp.toNatClampNeg n.toNatClampNeg) else False)
  | _ => False
/-- one instruction: what must hold so that X holds ahead of it, if X holds behind it -/
def am_ex (E : Nat → Nat → Int32) (call : am_C) (Q : am_Q) (X : am_X) (pc : Nat) (e : am_E) (ls st : List am_V) (M : am_M) (R : am_R) : Prop := match e with
  | (i, nx, x, y, z, _, v, w) => match i with
    | .iconst _ => X nx ls (aI v :: st) M R
    | .bipush _ => X nx ls (aI v :: st) M R
    | .sipush _ => X nx ls (aI v :: st) M R
    | .ldc _ => X nx ls (aI v :: st) M R
    | .ldc_w _ => X nx ls (aI v :: st) M R
    | .lconst _ => X nx ls (aL w :: st) M R
    | .ldc2_w _ => X nx ls (aL w :: st) M R
    | .iload _ => (match ls[x]? with | some a => (bif am_isI a then X nx ls (a :: st) M R else False) | none => False)
    | .iload_n _ => (match ls[x]? with | some a => (bif am_isI a then X nx ls (a :: st) M R else False) | none => False)
    | .lload _ => (match ls[x]? with | some a => (bif am_isL a then X nx ls (a :: st) M R else False) | none => False)
    | .lload_n _ => (match ls[x]? with | some a => (bif am_isL a then X nx ls (a :: st) M R else False) | none => False)
    | .aload _ => (match ls[x]? with | some a => (bif am_isR a then X nx ls (a :: st) M R else False) | none => False)
    | .aload_n _ => (match ls[x]? with | some a => (bif am_isR a then X nx ls (a :: st) M R else False) | none => False)
    | .istore _ => (match st with | a :: t => (bif am_isI a && am_fit ls x then X nx (ls.set x a) t M R else False) | [] => False)
    | .istore_n _ => (match st with | a :: t => (bif am_isI a && am_fit ls x then X nx (ls.set x a) t M R else False) | [] => False)
    | .astore _ => (match st with | a :: t => (bif am_isR a && am_fit ls x then X nx (ls.set x a) t M R else False) | [] => False)
    | .astore_n _ => (match st with | a :: t => (bif am_isR a && am_fit ls x then X nx (ls.set x a) t M R else False) | [] => False)
    | .lstore _ => (match st with | a :: t => (bif am_isL a && (am_fit ls x && Nat.ble (x + 2) ls.length) then X nx ((ls.set x a).set (x + 1) aU) t M R else False) | [] => False)
    | .lstore_n _ => (match st with | a :: t => (bif am_isL a && (am_fit ls x && Nat.ble (x + 2) ls.length) then X nx ((ls.set x a).set (x + 1) aU) t M R else False) | [] => False)
    | .iinc _ _ => (match ls[x]? with | some (.inl a) => (bif am_fit ls x then X nx (ls.set x (aI (a + v))) st M R else False) | _ => False)
    | .iadd => am_int2 st (fun a b t => X nx ls (aI (a + b) :: t) M R)
    | .isub => am_int2 st (fun a b t => X nx ls (aI (a - b) :: t) M R)
    | .imul => am_int2 st (fun a b t => X nx ls (aI (a * b) :: t) M R)
    | .iand => am_int2 st (fun a b t => X nx ls (aI (a &&& b) :: t) M R)
    | .ior => am_int2 st (fun a b t => X nx ls (aI (a ||| b) :: t) M R)
    | .ixor => am_int2 st (fun a b t => X nx ls (aI (a ^^^ b) :: t) M R)
    | .ishl => am_int2 st (fun a b t => X nx ls (aI (a <<< (b &&& 31)) :: t) M R)
    | .ishr => am_int2 st (fun a b t => X nx ls (aI (a >>> (b &&& 31)) :: t) M R)
    | .idiv => am_int2 st (fun a b t => ¬ b = 0 ∧ X nx ls (aI (a / b) :: t) M R)
    | .irem => am_int2 st (fun a b t => ¬ b = 0 ∧ X nx ls (aI (a - a / b * b) :: t) M R)
    | .ladd => am_lng2 st (fun a b t => X nx ls (aL (a + b) :: t) M R)
    | .lmul => am_lng2 st (fun a b t => X nx ls (aL (a * b) :: t) M R)
    | .land => am_lng2 st (fun a b t => X nx ls (aL (a &&& b) :: t) M R)
    | .ldiv => am_lng2 st (fun a b t => ¬ b = 0 ∧ X nx ls (aL (a / b) :: t) M R)
    | .lrem => am_lng2 st (fun a b t => ¬ b = 0 ∧ X nx ls (aL (a - a / b * b) :: t) M R)
    | .lcmp => am_lng2 st (fun a b t => X nx ls (aI (lg_cmp a b) :: t) M R)
    | .i2l => (match st with | .inl a :: t => X nx ls (aL a.toInt64 :: t) M R | _ => False)
    | .l2i => (match st with | .inr (.inl a) :: t => X nx ls (aI a.toInt32 :: t) M R | _ => False)
    | .dup => (match st with | a :: t => (bif !am_isL a then X nx ls (a :: a :: t) M R else False) | [] => False)
    | .dup2 => (match st with | a :: b :: t => (bif !am_isL a && !am_isL b then X nx ls (a :: b :: a :: b :: t) M R else False) | _ => False)
    | .getfield _ => (match st with | .inr (.inr (.inl (c, o))) :: t => (bif Nat.beq c x then X nx ls (am_fld (am_fk x y) M R o y :: t) M R else False) | _ => False)
    | .putfield _ => (match st with | a :: .inr (.inr (.inl (c, o))) :: t => (bif Nat.beq c x then am_put (am_fk x y) a (fun M' R' => X nx ls t M' R') M R o y else False) | _ => False)
    | .getstatic _ => X nx ls (aS x 4 :: st) M R
    | .iaload => (match st with
      | .inl i :: .inr (.inr (.inr (.inl (o, k, n, false)))) :: t => vp_in i n ∧ X nx ls (aI (M o k i.toNatClampNeg) :: t) M R
      | .inl i :: .inr (.inr (.inr (.inr (.inl (j, n))))) :: t => vp_in i n ∧ X nx ls (aI (E j i.toNatClampNeg) :: t) M R
      | _ => False)
    | .baload => (match st with | .inl i :: .inr (.inr (.inr (.inl (o, k, n, true)))) :: t => vp_in i n ∧ X nx ls (aI (M o k i.toNatClampNeg) :: t) M R | _ => False)
    | .iastore => (match st with | .inl a :: .inl i :: .inr (.inr (.inr (.inl (o, k, n, false)))) :: t => vp_in i n ∧ X nx ls t (am_up M o k i.toNatClampNeg a) R | _ => False)
    | .bastore => (match st with | .inl a :: .inl i :: .inr (.inr (.inr (.inl (o, k, n, true)))) :: t => vp_in i n ∧ a &&& 1 = a ∧ X nx ls t (am_up M o k i.toNatClampNeg a) R | _ => False)
    | .arraylength => (match st with
      | .inr (.inr (.inr (.inl (_, _, n, _)))) :: t => X nx ls (aI (Int32.ofNat n) :: t) M R
      | .inr (.inr (.inr (.inr (.inl (_, n))))) :: t => X nx ls (aI (Int32.ofNat n) :: t) M R
      | _ => False)
    | .ifCond c _ => (match st with | .inl a :: t => am_br c a 0 (X x ls t M R) (X nx ls t M R) | _ => False)
    | .if_icmp c _ => am_int2 st (fun a b t => am_br c a b (X x ls t M R) (X nx ls t M R))
    | .goto _ => X x ls st M R
    | .tableswitch d lo _ os => (match st with | .inl a :: t => am_tsw a pc (fun q => X q ls t M R) d lo os.toList | _ => False)
    | .lookupswitch d ps => (match st with | .inl a :: t => am_lsw a pc (fun q => X q ls t M R) d ps.toList | _ => False)
    | .invokevirtual _ => am_call call x y z st M R (fun t M' R' => X nx ls t M' R')
    | .invokestatic _ => (match z / 100 % 10 with
      | 3 => am_copy st M (fun t M' => X nx ls t M' R)
      | 4 => am_int2 st (fun a b t => bif Nat.ble (am_catS t) 8 then X nx ls (aI (if a < b then b else a) :: t) M R else False)
      | 5 => am_int2 st (fun a b t => bif Nat.ble (am_catS t) 8 then X nx ls (aI (if b < a then b else a) :: t) M R else False)
      | _ => am_call call x y z st M R (fun t M' R' => X nx ls t M' R'))
    | .ireturn => (match st with | [.inl a] => (bif Nat.beq x 1 then (a &&& 1 = a ∧ Q (some (aI a)) M R) else Q (some (aI a)) M R) | _ => False)
    | .areturn => (match st with | [.inr (.inr (.inl (c, o)))] => Q (some (aO c o)) M R | _ => False)
    | .return_ => (match st with | [] => Q none M R | _ => False)
    | _ => False
def am_find : List (Nat × am_E) → Nat → Option am_E
  | [], _ => none
  | (q, e) :: t, pc => bif Nat.beq q pc then some e else am_find t pc
def am_st (E : Nat → Nat → Int32) (call : am_C) (L : am_L) (Q : am_Q) (X : am_X) (pc : Nat) (ls st : List am_V) (M : am_M) (R : am_R) : Prop :=
  match am_find (L.getD (pc / 32) []) pc with
  | some e => am_ex E call Q X pc e ls st M R
  | none => False
/-- the least X that each step leads back to: from here the method ends, with Q -/
def am_WP (E : Nat → Nat → Int32) (call : am_C) (L : am_L) (Q : am_Q) : am_X := fun pc ls st M R =>
  ∀ X : am_X, (∀ pc ls st M R, am_st E call L Q X pc ls st M R → X pc ls st M R) → X pc ls st M R
def am_args : List am_V → List am_V
  | [] => []
  | .inr (.inl a) :: t => aL a :: aU :: am_args t
  | v :: t => v :: am_args t
def am_pad : Nat → List am_V → List am_V
  | 0, l => l
  | n + 1, [] => aU :: am_pad n []
  | n + 1, v :: l => v :: am_pad n l
def am_WM (E : Nat → Nat → Int32) : Nat → am_C
  | 0 => fun _ _ _ _ _ => False
  | d + 1 => fun μ as M R Q => match am_ms[μ]? with
    | some md => (bif Nat.ble (am_args as).length md.2.2.1 then am_WP E (am_WM E d) md.2.2.2.2.2 Q 0 (am_pad md.2.2.1 (am_args as)) [] M R else False)
    | none => False
/-- places of locals that are not needed any more -/
def am_fg : List Bool → List am_V → List am_V
  | b :: m, v :: l => (bif b && !am_isL v then aU else v) :: am_fg m l
  | _, l => l
def am_cutAt : List (Nat × List Bool) → Nat → Option (List Bool)
  | [], _ => none
  | (q, m) :: t, pc => bif Nat.beq q pc then some m else am_cutAt t pc
def am_vc (E : Nat → Nat → Int32) (call : am_C) (L : am_L) (Q : am_Q) (X : am_X) (cuts : List (Nat × List Bool)) : Nat → am_X
  | 0 => X
  | n + 1 => fun pc ls st M R => match am_cutAt cuts pc with
    | some m => X pc (am_fg m ls) st M R
    | none => am_st E call L Q (am_vc E call L Q X cuts n) pc ls st M R
