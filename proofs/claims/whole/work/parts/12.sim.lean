/-! the small machine's steps, one by one, over the machine -/
theorem am_vw : ∀ c, c < 8 → vwCl[c]? = some (am_cn c, am_TT c, am_nf c)
  | 0, _ => rfl
  | 1, _ => rfl
  | 2, _ => rfl
  | 3, _ => rfl
  | 4, _ => rfl
  | 5, _ => rfl
  | 6, _ => rfl
  | 7, _ => rfl
  | n + 8, h => absurd h (by omega)
theorem am_tyok : ∀ c, c < 8 → ∀ k, k < am_nf c → parseFieldDescriptor (am_TT c k).2.2.1 = some (am_ty c k)
  | 0, _ => tyX0_ok
  | 1, _ => tyX1_ok
  | 2, _ => tyX2_ok
  | 3, _ => tyX3_ok
  | 4, _ => tyX4_ok
  | 5, _ => tyX5_ok
  | 6, _ => tyX6_ok
  | 7, _ => tyX7_ok
  | n + 8, h => absurd h (by omega)
theorem am_nmok : ∀ c, c < 8 → ∀ a, a < am_nf c → ∀ b, b < am_nf c → a ≠ b → (am_TT c a).2.1 ≠ (am_TT c b).2.1
  | 0, _ => nmX0
  | 1, _ => nmX1
  | 2, _ => nmX2
  | 3, _ => nmX3
  | 4, _ => nmX4
  | 5, _ => nmX5
  | 6, _ => nmX6
  | 7, _ => nmX7
  | n + 8, h => absurd h (by omega)
theorem am_tyk : ∀ c, c < 8 → ∀ k, k < am_nf c → (match am_fk c k with | (0, _) => am_ty c k = .int | (3, _) => (match am_ty c k with | .object _ => True | _ => False) | _ => True) := by
  have h : (List.range 8).all (fun c => (List.range (am_nf c)).all (fun k => match am_fk c k with | (0, _) => decide (am_ty c k = .int) | (3, _) => (match am_ty c k with | .object _ => true | _ => false) | _ => true)) = true := by decide +kernel
  intro c hc k hk
  have h1 := List.all_eq_true.mp (List.all_eq_true.mp h c (List.mem_range.mpr hc)) k (List.mem_range.mpr hk)
  split at h1
  · next a hf => exact of_decide_eq_true h1
  · next a hf => split at h1 <;> first | trivial | cases h1
  · trivial
theorem am_flW_decl : ∀ q ∈ am_flW, (am_TT q.2.2.1 q.2.2.2).1 = am_cn q.2.2.1 := by decide +kernel
theorem am_u_in {x : Nat} (hx : x < 8) : ∀ w ∈ u_ws (am_cn x) (am_TT x) (am_nf x), w ∈ am_T := fun w hw => am_lays_ok w (List.mem_flatMap.mpr ⟨x, List.mem_range.mpr hx, hw⟩)
theorem am_names : ∀ md ∈ am_ms0, Jvm.plainName md.1.cls = true ∧ md.1.cls ≠ "java/lang/invoke/MethodHandle" ∧ md.1.cls ≠ "java/lang/invoke/VarHandle" := by
  have h : am_ms0.all (fun md => Jvm.plainName md.1.cls && (decide (md.1.cls ≠ "java/lang/invoke/MethodHandle") && decide (md.1.cls ≠ "java/lang/invoke/VarHandle"))) = true := by decide +kernel
  intro md hm
  have h1 := List.all_eq_true.mp h md hm
  simp only [Bool.and_eq_true, decide_eq_true_eq] at h1
  exact h1
theorem am_ms_of {x : Nat} {md : am_D} (h : am_ms0[x]? = some md) : am_ms[x]? = some md := by
  unfold am_ms0 at h
  rw [List.getElem?_dropLast] at h
  split at h
  · exact h
  · cases h
theorem am_y_of {x : Nat} {md : am_D} (h : am_ms0[x]? = some md) : am_y x = md.1 := by
  unfold am_y
  rw [am_ms_of h]
def am_wsM (md : am_D) : List Cond := Cond.code md.1 md.2.1 md.2.2.1 md.2.2.2.1 :: am_T
def am_room (μ : Nat) : Room := { frames := (am_rms.getD μ (0, 0)).1, cells := 0, slots := 0, locals := (am_rms.getD μ (0, 0)).2 }
theorem am_good {md : am_D} (hm : md ∈ am_ms0) : GoodIn am_T (am_wsM md) := by
  intro w hw
  have h1 : w ∈ am_T := by
    rcases List.mem_cons.mp hw with e | h
    · rw [e]; exact am_code_ok md hm
    · exact h
  exact ⟨h1, good_of_word (List.mem_filter.mp h1).2⟩
def am_chkR (fr lo x : Nat) : Bool := match am_ms0[x]? with | some md => Nat.ble ((am_rms.getD x (0, 0)).1 + 1) fr && Nat.ble (8 + (md.2.2.1 + 11) + (am_rms.getD x (0, 0)).2) lo | none => false
def am_okC (fr lo : Nat) (e : am_E) : Bool := match e.1 with
  | .invokevirtual _ => am_chkR fr lo e.2.2.1
  | .invokestatic _ => (match e.2.2.2.2.1 / 100 % 10 with | 3 => Nat.ble 1 fr && Nat.ble 26 lo | 4 => Nat.ble 1 fr && Nat.ble 21 lo | 5 => Nat.ble 1 fr && Nat.ble 21 lo | _ => am_chkR fr lo e.2.2.1)
  | _ => true
def am_okCs (fr lo : Nat) (md : am_D) : Bool := md.2.2.2.2.2.all (fun b => b.all (fun q => am_okC fr lo q.2))
theorem am_rooms : (am_ms0.zip am_rms).all (fun q => am_okCs q.2.1 q.2.2 q.1) = true := by decide +kernel
theorem am_okCs_at {fr lo : Nat} {md : am_D} (hk : am_okCs fr lo md = true) {pc : Nat} {e : am_E} (h : am_find (md.2.2.2.2.2.getD (pc / 32) []) pc = some e) : am_okC fr lo e = true := by
  have h1 := am_find_mem h
  cases hL : md.2.2.2.2.2[pc / 32]? with
  | none => rw [List.getD_eq_getElem?_getD, hL, Option.getD_none] at h1; cases h1
  | some b =>
    rw [List.getD_eq_getElem?_getD, hL, Option.getD_some] at h1
    have h2 := List.all_eq_true.mp hk b (List.mem_of_getElem? hL)
    have h3 := List.all_eq_true.mp h2 (pc, e) h1
    dsimp only at h3
    exact h3
theorem am_catS_eq {ad : Nat × Option Nat → Nat} {ar : Nat → Nat} : ∀ (l : List am_V), ((l.map (am_con ad ar)).map (fun v => v.category)).sum = am_catS l
  | [] => rfl
  | v :: t => by
    rw [List.map_cons, List.map_cons, List.sum_cons, am_catS_eq t]
    rcases v with x | x | ⟨c, o⟩ | ⟨o, k, n, b⟩ | ⟨j, n⟩ | u <;> rfl
theorem am_int2_inv {st : List am_V} {K : Int32 → Int32 → List am_V → Prop} (h : am_int2 st K) : ∃ a b t, st = aI b :: aI a :: t ∧ K a b t := by
  unfold am_int2 at h
  split at h
  · exact ⟨_, _, _, rfl, h⟩
  · exact h.elim
theorem am_lng2_inv {st : List am_V} {K : Int64 → Int64 → List am_V → Prop} (h : am_lng2 st K) : ∃ a b t, st = aL b :: aL a :: t ∧ K a b t := by
  unfold am_lng2 at h
  split at h
  · exact ⟨_, _, _, rfl, h⟩
  · exact h.elim
theorem am_cond_inv {b : Bool} {P : Prop} (h : bif b then P else False) : b = true ∧ P := by
  cases b
  · exact h.elim
  · exact ⟨rfl, h⟩
theorem am_isI_inv {a : am_V} (h : am_isI a = true) : ∃ x, a = aI x := by
  rcases a with x | x | ⟨c, o⟩ | ⟨o, k, n, b⟩ | ⟨j, n⟩ | u <;> first | exact ⟨x, rfl⟩ | cases h
theorem am_isL_inv {a : am_V} (h : am_isL a = true) : ∃ x, a = aL x := by
  rcases a with x | x | ⟨c, o⟩ | ⟨o, k, n, b⟩ | ⟨j, n⟩ | u <;> first | exact ⟨x, rfl⟩ | cases h
theorem am_isR_inv {ad : Nat × Option Nat → Nat} {ar : Nat → Nat} {a : am_V} (h : am_isR a = true) : (∃ x, am_con ad ar a = .ref x) ∧ am_isU a = false ∧ am_isL a = false := by
  rcases a with x | x | ⟨c, o⟩ | ⟨o, k, n, b⟩ | ⟨j, n⟩ | u <;> first | exact ⟨⟨_, rfl⟩, rfl, rfl⟩ | cases h
theorem am_tsw_in {a : Int32} {pc : Nat} {K : Nat → Prop} {d : Int} : ∀ (os : List Int) (lo : Int), am_tsw a pc K d lo os → ∀ (i : Nat) (o : Int), os[i]? = some o → a.toInt = lo + i → K ((pc : Int) + o).toNat
  | [], _, _, i, o, h, _ => by simp at h
  | o' :: os, lo, h, i, o, ho, ha => by
    match i, ho with
    | 0, ho =>
      simp at ho
      subst ho
      exact h.1 (by simpa using ha)
    | i + 1, ho =>
      have ho' : os[i]? = some o := by simpa using ho
      exact am_tsw_in os (lo + 1) (h.2 (by omega)) i o ho' (by omega)
theorem am_tsw_out {a : Int32} {pc : Nat} {K : Nat → Prop} {d : Int} : ∀ (os : List Int) (lo : Int), am_tsw a pc K d lo os → (a.toInt < lo ∨ lo + os.length ≤ a.toInt) → K ((pc : Int) + d).toNat
  | [], _, h, _ => h
  | o' :: os, lo, h, ha => am_tsw_out os (lo + 1) (h.2 (by simp only [List.length_cons] at ha; omega)) (by simp only [List.length_cons] at ha; omega)
theorem am_lsw_off {a : Int32} {pc : Nat} {K : Nat → Prop} {d : Int} : ∀ (ps : List (Int × Int)), am_lsw a pc K d ps → K ((pc : Int) + Op.lookupswitch.offset ps d a.toInt).toNat
  | [], h => h
  | (k, o) :: ps, h => by
    rw [Op.lookupswitch.offset_cons]
    by_cases hk : k = a.toInt
    · rw [if_pos hk]; exact h.1 hk.symm
    · rw [if_neg hk]; exact am_lsw_off ps (h.2 (fun e => hk e.symm))
theorem am_off_pos {pc : Nat} {d : Int} {a : Int} (hd : 0 ≤ (pc : Int) + d) : ∀ (ps : List (Int × Int)), (ps.all (fun o => decide (0 ≤ (pc : Int) + o.2)) = true) → 0 ≤ (pc : Int) + Op.lookupswitch.offset ps d a
  | [], _ => hd
  | (k, o) :: ps, h => by
    rw [List.all_cons, Bool.and_eq_true, decide_eq_true_eq] at h
    rw [Op.lookupswitch.offset_cons]
    by_cases hk : k = a
    · rw [if_pos hk]; exact h.1
    · rw [if_neg hk]; exact am_off_pos hd ps h.2
def am_RO (E : Nat → Nat → Int32) (ar SL : Nat → Nat) (A : Nat → Prop) (U : State) (H : Heap) : Prop := (∀ j, j < 3 → va_T .int (ar j) (SL j) (fun i => .int (E j i)) A U H) ∧ ∀ j, j < 2 → va_Z RX4 (am_gn j) "[I" (.ref (ar j)) A U H
def am_K (D : va_G) (tI tZ : ClassId) (U : State) : Prop := va_K D vwCl [(tI, .int), (tZ, .boolean)] U ∧ ∀ q ∈ am_nest, va_Nw (.methodLinkNest (am_cn q.1) q.2.1 (am_y q.2.2.1) RX6) U
def am_A (ad : Nat × Option Nat → Nat) : Nat → Prop := fun q => ∃ c, c ∈ am_cells ∧ ad c = q
def am_Pc (E : Nat → Nat → Int32) (D : va_G) (ad : Nat × Option Nat → Nat) (ar : Nat → Nat) (tI tZ : ClassId) (SL : Nat → Nat) (as : List am_V) (M : am_M) (R : am_R) : Array Value → State → Prop := va_Pc (as.map (am_con ad ar)) (fun U => va_P D vwCl (am_ws ad ar tI tZ M R) U.heap ∧ am_K D tI tZ U ∧ am_RO E ar SL (am_A ad) U U.heap)
def am_Qc (D : va_G) (ad : Nat × Option Nat → Nat) (ar : Nat → Nat) (tI tZ : ClassId) (SL : Nat → Nat) (Q : am_Q) : Array Value → State → Outcome → State → Prop := fun _ st oc t => (∃ (r : Option am_V) (M : am_M) (R : am_R), oc = .returned (r.map (am_con ad ar)) ∧ Q r M R ∧ am_okR R ∧ (∀ v, r = some v → am_okV SL v) ∧ va_P D vwCl (am_ws ad ar tI tZ M R) t.heap) ∧ va_F (am_A ad) st t
def am_Sim (l : Launch) (E : Nat → Nat → Int32) (d : Nat) (D : va_G) (ad : Nat × Option Nat → Nat) (ar : Nat → Nat) (tI tZ : ClassId) (SL : Nat → Nat) : Prop := ∀ (μ : Nat) (md : am_D), am_ms0[μ]? = some md → ∀ (as : List am_V) (M : am_M) (R : am_R) (Q : am_Q), am_WM E d μ as M R Q → am_okR R → am_oks SL as → Met l md.1 (am_wsM md) (am_room μ) (am_Pc E D ad ar tI tZ SL as M R) (am_Qc D ad ar tI tZ SL Q) 0 0 (am_A ad)
theorem am_RO_to {E : Nat → Nat → Int32} {ar SL : Nat → Nat} {A B : Nat → Prop} {s U : State} {H H1 : Heap} (h : am_RO E ar SL A s H) (hq : ∀ a : Nat, a < H.size → ¬ A a → H1[a]? = H[a]?) (hAB : ∀ q, B q → A q) (hvm : s.vm.Alike U.vm) : am_RO E ar SL B U H1 :=
  ⟨fun j hj => (((h.1 j hj).kept hq).narrow hAB).moved hvm, fun j hj => (((h.2 j hj).kept hq).narrow hAB).moved hvm⟩
theorem am_K_warm {D : va_G} {tI tZ : ClassId} {s U : State} (h : am_K D tI tZ s) (hW : s.WarmedH U.vm) : am_K D tI tZ U := ⟨va_K.moved hW.alike h.1, fun q hq => (h.2 q hq).warmM hW⟩
theorem am_K_same {D : va_G} {tI tZ : ClassId} {s U : State} (h : am_K D tI tZ s) (hv : s.vm = U.vm) : am_K D tI tZ U := ⟨va_K.moved (by rw [hv]; exact Vm.Alike.refl _) h.1, fun q hq => (h.2 q hq).same rfl hv⟩
theorem am_put_inv {f : Nat × Nat} {a : am_V} {K : am_M → am_R → Prop} {M : am_M} {R : am_R} {o k : Nat} (h : am_put f a K M R o k) : (∃ n v, f = (0, n) ∧ a = aI v ∧ K (am_up M o k 0 v) R) ∨ (∃ c c2 o2, f = (3, c) ∧ a = aO c2 o2 ∧ c2 = c ∧ K M (am_upR R o k o2)) := by
  unfold am_put at h
  split at h
  · split at h
    · exact Or.inl ⟨_, _, rfl, rfl, h⟩
    · exact h.elim
  · split at h
    · obtain ⟨h1, h2⟩ := am_cond_inv h
      exact Or.inr ⟨_, _, _, rfl, rfl, Nat.eq_of_beq_eq_true h1, h2⟩
    · exact h.elim
  · exact h.elim
theorem am_copy_inv {st : List am_V} {M : am_M} {K : List am_V → am_M → Prop} (h : am_copy st M K) : ∃ (n dp : Int32) (o1 k1 n1 : Nat) (sp : Int32) (o0 k0 n0 : Nat) (t : List am_V), st = aI n :: aI dp :: aA o1 k1 n1 :: aI sp :: aA o0 k0 n0 :: t ∧ ¬ sp < 0 ∧ ¬ dp < 0 ∧ ¬ n < 0 ∧ sp.toNatClampNeg + n.toNatClampNeg ≤ n0 ∧ dp.toNatClampNeg + n.toNatClampNeg ≤ n1 ∧ am_catS t ≤ 8 ∧ K t (am_cp M o0 k0 sp.toNatClampNeg o1 k1 dp.toNatClampNeg n.toNatClampNeg) := by
  unfold am_copy at h
  split at h
  · obtain ⟨g1, g2, g3, g4, g5, g6⟩ := h
    obtain ⟨h1, h2⟩ := am_cond_inv g6
    exact ⟨_, _, _, _, _, _, _, _, _, _, rfl, g1, g2, g3, g4, g5, Nat.le_of_ble_eq_true h1, h2⟩
  · exact h.elim
theorem am_okI_ir {own maxL pc nx x y z u : Nat} {ret : Option FieldType} {v : Int32} {w : Int64} (h : am_okI own ret maxL pc (.ireturn, nx, x, y, z, u, v, w) = true) : nx = pc + 1 ∧ ((x = 0 ∧ ret = some .int) ∨ (x = 1 ∧ ret = some .boolean)) := by
  rcases x with _ | _ | x
  · have h := Bool.and_eq_true_iff.mp (show (Nat.beq nx (pc + 1) && decide (ret = some .int)) = true from h)
    exact ⟨Nat.eq_of_beq_eq_true h.1, Or.inl ⟨rfl, of_decide_eq_true h.2⟩⟩
  · have h := Bool.and_eq_true_iff.mp (show (Nat.beq nx (pc + 1) && decide (ret = some .boolean)) = true from h)
    exact ⟨Nat.eq_of_beq_eq_true h.1, Or.inr ⟨rfl, of_decide_eq_true h.2⟩⟩
  · have h := Bool.and_eq_true_iff.mp (show (Nat.beq nx (pc + 1) && false) = true from h)
    cases h.2
theorem am_okI_ar {own maxL pc nx x y z u : Nat} {ret : Option FieldType} {v : Int32} {w : Int64} (h : am_okI own ret maxL pc (.areturn, nx, x, y, z, u, v, w) = true) : nx = pc + 1 ∧ ∃ n, ret = some (.object n) := by
  rcases ret with _ | ret
  · have h := Bool.and_eq_true_iff.mp (show (Nat.beq nx (pc + 1) && false) = true from h)
    cases h.2
  · cases ret with
    | object n =>
      have h := Bool.and_eq_true_iff.mp (show (Nat.beq nx (pc + 1) && true) = true from h)
      exact ⟨Nat.eq_of_beq_eq_true h.1, n, rfl⟩
    | _ =>
      have h := Bool.and_eq_true_iff.mp (show (Nat.beq nx (pc + 1) && false) = true from h)
      cases h.2
