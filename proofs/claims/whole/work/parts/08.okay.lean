/-! that a method's table is what its bytes say: decoding, next places, constants, links -/
def am_okI (own : Nat) (ret : Option FieldType) (maxL : Nat) (pc : Nat) (e : am_E) : Bool := match e with
  | (i, nx, x, y, z, u, v, w) => match i with
    | .iconst n => Nat.beq nx (pc + 1) && decide (Int32.ofInt n = v)
    | .bipush n => Nat.beq nx (pc + 2) && decide ((Int8.ofInt n).toInt32 = v)
    | .sipush n => Nat.beq nx (pc + 3) && decide ((Int16.ofInt n).toInt32 = v)
    | .ldc k => Nat.beq nx (pc + 2) && decide (am_kW[u]? = some (own, k, v))
    | .ldc_w k => Nat.beq nx (pc + 3) && decide (am_kW[u]? = some (own, k, v))
    | .ldc2_w k => Nat.beq nx (pc + 3) && decide (am_k2W[u]? = some (own, k, w))
    | .lconst n => Nat.beq nx (pc + 1) && decide (Int64.ofNat (n : Nat) = w)
    | .iload k => Nat.beq nx (pc + 2) && Nat.beq k x
    | .iload_n k => Nat.beq nx (pc + 1) && Nat.beq (k : Nat) x
    | .lload k => Nat.beq nx (pc + 2) && Nat.beq k x
    | .lload_n k => Nat.beq nx (pc + 1) && Nat.beq (k : Nat) x
    | .aload k => Nat.beq nx (pc + 2) && Nat.beq k x
    | .aload_n k => Nat.beq nx (pc + 1) && Nat.beq (k : Nat) x
    | .istore k => Nat.beq nx (pc + 2) && Nat.beq k x
    | .istore_n k => Nat.beq nx (pc + 1) && Nat.beq (k : Nat) x
    | .lstore k => Nat.beq nx (pc + 2) && Nat.beq k x
    | .lstore_n k => Nat.beq nx (pc + 1) && Nat.beq (k : Nat) x
    | .astore k => Nat.beq nx (pc + 2) && Nat.beq k x
    | .astore_n k => Nat.beq nx (pc + 1) && Nat.beq (k : Nat) x
    | .iinc k n => Nat.beq nx (pc + 3) && (Nat.beq k x && decide (Int32.ofInt n = v))
    | .getfield k => Nat.beq nx (pc + 3) && (Nat.ble (x + 1) 8 && (Nat.ble (y + 1) (am_nf x) && decide (am_flW[u]? = some (own, k, x, y))))
    | .putfield k => Nat.beq nx (pc + 3) && (Nat.ble (x + 1) 8 && (Nat.ble (y + 1) (am_nf x) && (decide (am_flW[u]? = some (own, k, x, y)) && !(am_TT x y).2.2.2)))
    | .getstatic k => Nat.beq nx (pc + 3) && (Nat.ble (x + 1) 2 && decide (am_gW[u]? = some (own, k, x)))
    | .ifCond _ off => Nat.beq nx (pc + 3) && decide ((pc : Int) + off = (x : Int))
    | .if_icmp _ off => Nat.beq nx (pc + 3) && decide ((pc : Int) + off = (x : Int))
    | .goto off => Nat.beq nx (pc + 3) && decide ((pc : Int) + off = (x : Int))
    | .tableswitch d lo hi os => decide ((os.size : Int) = hi - lo + 1) && (decide (0 ≤ (pc : Int) + d) && (os.toList.all (fun o => decide (0 ≤ (pc : Int) + o))))
    | .lookupswitch d ps => (ps.toList.zip (ps.toList.drop 1)).all (fun (a, next) => a.1 < next.1) && (decide (0 ≤ (pc : Int) + d) && (ps.toList.all (fun o => decide (0 ≤ (pc : Int) + o.2))))
    | .invokevirtual k => Nat.beq nx (pc + 3) && (Nat.beq (z / 100 % 10) 0 && (decide (am_mlW[u]? = some (own, k, x, 0)) && (match am_ms0[x]? with
      | some md => Nat.beq md.2.2.2.2.1 (z % 100) && (decide (md.1.cls = am_cn (z % 100)) && (Nat.ble (z % 100 + 1) 8 && decide ((parseMethodDescriptor md.1.desc).map (fun d => d.parameters.length + 1) = some y)))
      | none => false)))
    | .invokestatic k => Nat.beq nx (pc + 3) && (match z / 100 % 10 with
      | 1 => decide (am_mlW[u]? = some (own, k, x, 1)) && (match am_ms0[x]? with | some md => decide ((parseMethodDescriptor md.1.desc).map (fun d => d.parameters.length) = some y) | none => false)
      | 2 => decide (am_mlW[u]? = some (own, k, x, 2)) && (match am_ms0[x]? with | some md => decide ((parseMethodDescriptor md.1.desc).map (fun d => d.parameters.length) = some y) | none => false)
      | 3 => decide (am_mlW[u]? = some (own, k, 999, 3))
      | 4 => decide (am_mlW[u]? = some (own, k, 998, 4))
      | 5 => decide (am_mlW[u]? = some (own, k, 997, 5))
      | _ => false)
    | .ireturn => Nat.beq nx (pc + 1) && (match x with | 0 => decide (ret = some .int) | 1 => decide (ret = some .boolean) | _ => false)
    | .areturn => Nat.beq nx (pc + 1) && (match ret with | some (.object _) => true | _ => false)
    | .return_ => Nat.beq nx (pc + 1) && decide (ret = none)
    | _ => Nat.beq nx (pc + 1)
def am_okE (md : am_D) (pc : Nat) (e : am_E) : Bool := decide (decode md.2.1 pc = .ok (e.1, e.2.1 - pc)) && am_okI md.2.2.2.2.1 md.2.2.2.1 md.2.2.1 pc e
def am_okM (md : am_D) : Bool := md.2.2.2.2.2.all (fun b => b.all (fun q => am_okE md q.1 q.2))
theorem am_find_mem : ∀ {l : List (Nat × am_E)} {pc : Nat} {e : am_E}, am_find l pc = some e → (pc, e) ∈ l
  | [], _, _, h => by cases h
  | (q, e0) :: t, pc, e, h => by
    unfold am_find at h
    cases hq : Nat.beq q pc with
    | true =>
      rw [hq] at h
      have h1 : e0 = e := Option.some.inj h
      have h2 : q = pc := Nat.eq_of_beq_eq_true hq
      subst h1; subst h2
      exact List.mem_cons_self
    | false =>
      rw [hq] at h
      exact List.mem_cons_of_mem _ (am_find_mem h)
theorem am_okM_at {md : am_D} (hk : am_okM md = true) {pc : Nat} {e : am_E} (h : am_find (md.2.2.2.2.2.getD (pc / 32) []) pc = some e) : am_okE md pc e = true := by
  have h1 := am_find_mem h
  cases hL : md.2.2.2.2.2[pc / 32]? with
  | none => rw [List.getD_eq_getElem?_getD, hL, Option.getD_none] at h1; cases h1
  | some b =>
    rw [List.getD_eq_getElem?_getD, hL, Option.getD_some] at h1
    have h2 := List.all_eq_true.mp hk b (List.mem_of_getElem? hL)
    have h3 := List.all_eq_true.mp h2 (pc, e) h1
    dsimp only at h3
    exact h3
