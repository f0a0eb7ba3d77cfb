/-! objects being made: the rows of a constructor that makes its arrays, one after another -/
def ctF (ci : Nat) (ad : Nat → Nat) (nm : Nat → Int32) (rf : Nat → Value) (done : List Nat) (k : Nat) : Value := match (am_fk ci k).1 with
  | 0 => .int (nm k)
  | 1 => bif done.elem k then .ref (ad k) else .null
  | 2 => bif done.elem k then .ref (ad k) else .null
  | 3 => rf k
  | _ => .null
def ctFs (ci : Nat) (ad : Nat → Nat) (nm : Nat → Int32) (rf : Nat → Value) (done : List Nat) : List Value := (List.range (am_nf ci)).map (ctF ci ad nm rf done)
def ctT (tI tZ : ClassId) (ci k : Nat) : ClassId := bif Nat.beq (am_fk ci k).1 2 then tZ else tI
def ctA (tI tZ : ClassId) (ci : Nat) (ad : Nat → Nat) (k : Nat) : Nat × va_E := (ad k, .inl (ctT tI tZ ci k, (am_fk ci k).2, .inl (fun _ => 0)))
def ctO (tI tZ : ClassId) (ci h : Nat) (ad : Nat → Nat) (nm : Nat → Int32) (rf : Nat → Value) (done : List Nat) : va_W := (h, .inr (ci, ctFs ci ad nm rf done)) :: done.map (ctA tI tZ ci ad)
def ctN {α : Type} (f : Nat → α) (k : Nat) (v : α) : Nat → α := fun j => if j = k then v else f j
theorem ctFs_len {ci : Nat} {ad : Nat → Nat} {nm : Nat → Int32} {rf : Nat → Value} {done : List Nat} : (ctFs ci ad nm rf done).length = am_nf ci := by
  unfold ctFs
  rw [List.length_map, List.length_range]
theorem ctFs_set {ci k : Nat} {ad ad' : Nat → Nat} {nm nm' : Nat → Int32} {rf rf' : Nat → Value} {done done' : List Nat} {v : Value} (hk : k < am_nf ci) (hv : v = ctF ci ad' nm' rf' done' k) (ho : ∀ j, j ≠ k → ctF ci ad' nm' rf' done' j = ctF ci ad nm rf done j) : (ctFs ci ad nm rf done).set k v = ctFs ci ad' nm' rf' done' := by
  apply List.ext_getElem?
  intro j
  by_cases hj : j = k
  · subst hj
    rw [List.getElem?_set_self (by rw [ctFs_len]; exact hk)]
    unfold ctFs
    rw [List.getElem?_map, List.getElem?_range hk, hv]
    rfl
  · rw [List.getElem?_set_ne (Ne.symm hj)]
    unfold ctFs
    rw [List.getElem?_map, List.getElem?_map]
    by_cases hl : j < am_nf ci
    · rw [List.getElem?_range hl]
      show some _ = some _
      rw [ho j hj]
    · rw [List.getElem?_eq_none (by rw [List.length_range]; omega)]
      rfl
theorem ctFs_arr {ci k q : Nat} {ad : Nat → Nat} {nm : Nat → Int32} {rf : Nat → Value} {done : List Nat} (hk : k < am_nf ci) (ha : am_arr (am_fk ci k) = true) (hd : done.elem k = false) : (ctFs ci ad nm rf done).set k (.ref q) = ctFs ci (ctN ad k q) nm rf (done ++ [k]) := by
  have e1 : (done ++ [k]).elem k = true := by simp
  refine ctFs_set hk ?_ (fun j hj => ?_)
  · unfold ctF
    have h : (am_fk ci k).1 = 1 ∨ (am_fk ci k).1 = 2 := by
      unfold am_arr at ha
      rcases Bool.or_eq_true_iff.mp ha with h | h
      · exact Or.inl (Nat.eq_of_beq_eq_true h)
      · exact Or.inr (Nat.eq_of_beq_eq_true h)
    rcases h with h | h <;> simp [h, ctN]
  · have e2 : (done ++ [k]).elem j = done.elem j := by simp [hj]
    have e3 : ctN ad k q j = ad j := if_neg hj
    unfold ctF
    rw [e2, e3]
theorem ctFs_num {ci k : Nat} {ad : Nat → Nat} {nm : Nat → Int32} {rf : Nat → Value} {done : List Nat} {v : Int32} (hk : k < am_nf ci) (h : (am_fk ci k).1 = 0) : (ctFs ci ad nm rf done).set k (.int v) = ctFs ci ad (ctN nm k v) rf done := by
  refine ctFs_set hk ?_ (fun j hj => ?_)
  · unfold ctF
    rw [h]
    simp [ctN]
  · have e3 : ctN nm k v j = nm j := if_neg hj
    unfold ctF
    rw [e3]
theorem ctFs_ref {ci k : Nat} {ad : Nat → Nat} {nm : Nat → Int32} {rf : Nat → Value} {done : List Nat} {v : Value} (hk : k < am_nf ci) (h : (am_fk ci k).1 = 3) : (ctFs ci ad nm rf done).set k v = ctFs ci ad nm (ctN rf k v) done := by
  refine ctFs_set hk ?_ (fun j hj => ?_)
  · unfold ctF
    rw [h]
    simp [ctN]
  · have e3 : ctN rf k v j = rf j := if_neg hj
    unfold ctF
    rw [e3]
theorem ctA_arr {tI tZ : ClassId} {ci k q : Nat} {ad : Nat → Nat} {done : List Nat} (hd : done.elem k = false) : done.map (ctA tI tZ ci ad) ++ [(q, .inl (ctT tI tZ ci k, (am_fk ci k).2, .inl (fun _ => 0)))] = (done ++ [k]).map (ctA tI tZ ci (ctN ad k q)) := by
  rw [List.map_append]
  congr 1
  · apply List.map_congr_left
    intro j hj
    have hjk : j ≠ k := by
      rintro rfl
      rw [List.elem_eq_mem] at hd
      exact absurd hj (of_decide_eq_false hd)
    unfold ctA
    rw [show ctN ad k q j = ad j from if_neg hjk]
  · unfold ctA
    rw [List.map_cons, List.map_nil, show ctN ad k q k = q from if_pos rfl]
def ctLen (t : Nat) : Nat := match t with | 0 => 1 | 1 => 2 | _ => 3
def ctIns (t n : Nat) : Instr := match t with | 0 => .iconst n | 1 => .bipush n | _ => .sipush n
def ctVal (t n : Nat) : Int32 := match t with | 0 => Int32.ofInt n | 1 => (Int8.ofInt n).toInt32 | _ => (Int16.ofInt n).toInt32
def ctAt (ci k : Nat) : ArrayType := bif Nat.beq (am_fk ci k).1 2 then .boolean else .int
def ctTy (ci k : Nat) : FieldType := bif Nat.beq (am_fk ci k).1 2 then .boolean else .int
def ctOk (cc : ByteArray) (ci : Nat) (done : List Nat) (pc k t idx : Nat) : Bool :=
  decide (decode cc pc = .ok (.aload_n 0, 1)) && (decide (decode cc (pc + 1) = .ok (ctIns t (am_fk ci k).2, ctLen t)) && (decide (decode cc (pc + 1 + ctLen t) = .ok (.newarray (ctAt ci k), 2)) && (decide (decode cc (pc + 1 + ctLen t + 2) = .ok (.putfield idx, 3)) && (decide (ctVal t (am_fk ci k).2 = nI (am_fk ci k).2) && (Nat.ble (am_fk ci k).2 1000 && (am_arr (am_fk ci k) && ((am_TT ci k).2.2.2 && (decide ((am_TT ci k).1 = am_cn ci) && (decide (am_ty ci k = .array (ctTy ci k)) && (!done.elem k && Nat.ble (k + 1) (am_nf ci)))))))))))
def ctRun (cc : ByteArray) (ci : Nat) : List (Nat × Nat × Nat) → List Nat → Nat → Nat → Bool
  | [], _, pc, pe => Nat.beq pc pe
  | (k, t, idx) :: rs, done, pc, pe => ctOk cc ci done pc k t idx && ctRun cc ci rs (done ++ [k]) (pc + 1 + ctLen t + 2 + 3) pe
def ctSl (ci : Nat) : List (Nat × Nat × Nat) → Nat
  | [] => 0
  | (k, _, _) :: rs => (am_fk ci k).2 + ctSl ci rs
def ctWf (ci : Nat) (r : Nat × Nat × Nat) : Cond := .fieldLink (am_cn ci) r.2.2 (am_cn ci) (am_TT ci r.1).2.1 (am_TT ci r.1).2.2.1
theorem ct_ac : ∀ w ∈ [Cond.arrayClass .int, Cond.arrayClass .boolean], w ∈ am_T := am_chk_ok _ [103, 935] (by decide +kernel)
section Ct
variable {p : Program} {l : Launch} {e : Env} {R : Room} {s : State} {m : MethodId} {args : Array Value} {below : List Frame} {meth : Method} {c : Code} {Q : State → Prop} {A : Nat → Prop} {D : va_G} {tI tZ : ClassId} {cc : ByteArray} {ci h : Nat} {ls : Array Slot}
theorem ct_arr (hx : p.tables.exec = Jvm.exec) (hb : c.code = cc) (hts : ∀ w ∈ am_T, w.before args s = true) (hown : s.vm.findClass (am_cn ci) = some m.cls) (h8 : ci < 8) (hin : meth.name = "<init>") (hK : va_K D vwCl [(tI, .int), (tZ, .boolean)] s) (hA : ∀ q, s.heap.size ≤ q → A q) (hl : lv_has ls 1 [(0, .ref h)])
    {ad : Nat → Nat} {nm : Nat → Int32} {rf : Nat → Value} {done : List Nat} {pc k t idx cells slots : Nat} {H : Heap} {locs : List Loc} (hok : ctOk cc ci done pc k t idx = true) (hlink : ctWf ci (k, t, idx) ∈ am_T) (hce : cells + 1 ≤ R.cells) (hsl : slots + (am_fk ci k).2 ≤ R.slots)
    (hP : va_P D vwCl (ctO tI tZ ci h ad nm rf done) H) (hD : va_D A (ctO tI tZ ci h ad nm rf done)) (hS : va_S A s.heap H locs)
    (kk : ∀ (q : Nat) (H' : Heap) (locs' : List Loc), va_P D vwCl (ctO tI tZ ci h (ctN ad k q) nm rf (done ++ [k])) H' → va_D A (ctO tI tZ ci h (ctN ad k q) nm rf (done ++ [k])) → va_S A s.heap H' locs' → W p l e R s m args below meth c H' locs' (cells + 1) (slots + (am_fk ci k).2) Q (F0 m (pc + 1 + ctLen t + 2 + 3) ls [])) :
    W p l e R s m args below meth c H locs cells slots Q (F0 m pc ls []) := by
  simp only [ctOk, Bool.and_eq_true, decide_eq_true_eq] at hok
  obtain ⟨o1, o2, o3, o4, o5, o6, o7, o8, o9, o10, o11, o12⟩ := hok
  have o6 := Nat.le_of_ble_eq_true o6
  have o11 : done.elem k = false := by simpa using o11
  have o12 : k < am_nf ci := Nat.le_of_ble_eq_true o12
  refine lv_aload_n hx hb o1 rfl (lv_at hl 0 rfl) ?_
  have hconst : W p l e R s m args below meth c H locs cells slots Q (F0 m (pc + 1 + ctLen t) ls (.int (nI (am_fk ci k).2) :: [.ref h])) → W p l e R s m args below meth c H locs cells slots Q (F0 m (pc + 1) ls [.ref h]) := by
    intro K
    rw [← o5] at K
    match t, o2, K with
    | 0, o2, K => exact lv_iconst hx hb o2 rfl K
    | 1, o2, K => exact lv_bipush hx hb o2 rfl K
    | t + 2, o2, K => exact lv_sipush hx hb o2 rfl K
  refine hconst ?_
  have hcA : ∀ cA : ClassId, va_K D vwCl ([(tI, .int), (tZ, .boolean)] ++ [(cA, ctTy ci k)]) s → cA = ctT tI tZ ci k := by
    intro cA h9
    have g1 := (h9.2 2 (cA, ctTy ci k) rfl).2
    have g2 := (h9.2 0 (tI, .int) rfl).2
    have g3 := (h9.2 1 (tZ, .boolean) rfl).2
    unfold ctTy at g1
    unfold ctT
    cases hz : Nat.beq (am_fk ci k).1 2 with
    | true => rw [hz] at g1; exact Option.some.inj (g1.symm.trans g3)
    | false => rw [hz] at g1; exact Option.some.inj (g1.symm.trans g2)
  have harr : (Cond.arrayClass (newarray.typeOf (ctAt ci k))).before args s = true := by
    unfold ctAt
    cases Nat.beq (am_fk ci k).1 2 with
    | true => exact hts _ (ct_ac _ (List.mem_cons_of_mem _ List.mem_cons_self))
    | false => exact hts _ (ct_ac _ List.mem_cons_self)
  have hty : newarray.typeOf (ctAt ci k) = ctTy ci k := by
    unfold ctAt ctTy
    cases Nat.beq (am_fk ci k).1 2 <;> rfl
  have hdf : defaultValue (ctTy ci k) = .int 0 := by
    unfold ctTy
    cases Nat.beq (am_fk ci k).1 2 <;> rfl
  have hcb : (am_fk ci k).2 * componentBytes (ctTy ci k) ≤ 536870912 := by
    have : componentBytes (ctTy ci k) ≤ 8 := by
      unfold ctTy
      cases Nat.beq (am_fk ci k).1 2 <;> decide
    calc (am_fk ci k).2 * componentBytes (ctTy ci k) ≤ 1000 * 8 := Nat.mul_le_mul o6 this
      _ ≤ 536870912 := by decide
  refine va_newa hx hb harr hty hK hP hD hS hA (n := nI (am_fk ci k).2) (N' := (am_fk ci k).2) (a0 := ((am_fk ci k).2, .inl (fun _ => 0))) (fun cA => by rw [hdf]; rfl) (nI_pos (by omega)) (nI_clamp (by omega)) hcb hce hsl o3 (fun q cA H1 hK1 hP1 hD1 hS1 => ?_)
  have hcA := hcA cA hK1
  subst hcA
  refine va_putF (D := D) (ci := ci) (v := .ref q) (ty := .array (ctTy ci k)) (C := am_cn ci) (T := am_TT ci) (N := am_nf ci) hx hb hts (am_u_in h8) (am_ty ci) (am_tyok ci h8) (am_nmok ci h8) hown hK hP1 hD1 hS1 0 rfl (am_vw ci h8) k o12 (hts _ hlink) (fun x9 h9 => by rw [o9] at h9; exact h9) o8 hin o9 (by rw [am_tyok ci h8 k o12, o10]) rfl rfl (by rw [ctFs_len]; exact o12) o4 (fun H2 locs2 hP2 hD2 hS2 => ?_)
  have hE : ((h, Sum.inr (ci, (ctFs ci ad nm rf done).set k (.ref q))) :: (done.map (ctA tI tZ ci ad) ++ [(q, Sum.inl (ctT tI tZ ci k, (am_fk ci k).2, Sum.inl (fun _ => 0)))]) : va_W) = ctO tI tZ ci h (ctN ad k q) nm rf (done ++ [k]) := by
    unfold ctO
    rw [ctFs_arr o12 o7 o11, ctA_arr o11]
  exact kk q H2 locs2 (by rw [← hE]; exact hP2) (by rw [← hE]; exact hD2) hS2
theorem ct_rows (hx : p.tables.exec = Jvm.exec) (hb : c.code = cc) (hts : ∀ w ∈ am_T, w.before args s = true) (hown : s.vm.findClass (am_cn ci) = some m.cls) (h8 : ci < 8) (hin : meth.name = "<init>") (hK : va_K D vwCl [(tI, .int), (tZ, .boolean)] s) (hA : ∀ q, s.heap.size ≤ q → A q) (hl : lv_has ls 1 [(0, .ref h)]) {nm : Nat → Int32} {rf : Nat → Value} {pe : Nat} :
    ∀ (rows : List (Nat × Nat × Nat)) (ad : Nat → Nat) (done : List Nat) (pc cells slots : Nat) (H : Heap) (locs : List Loc), ctRun cc ci rows done pc pe = true → (∀ r ∈ rows, ctWf ci r ∈ am_T) → cells + rows.length ≤ R.cells → slots + ctSl ci rows ≤ R.slots →
    va_P D vwCl (ctO tI tZ ci h ad nm rf done) H → va_D A (ctO tI tZ ci h ad nm rf done) → va_S A s.heap H locs →
    (∀ (ad' : Nat → Nat) (H' : Heap) (locs' : List Loc), va_P D vwCl (ctO tI tZ ci h ad' nm rf (done ++ rows.map (·.1))) H' → va_D A (ctO tI tZ ci h ad' nm rf (done ++ rows.map (·.1))) → va_S A s.heap H' locs' → W p l e R s m args below meth c H' locs' (cells + rows.length) (slots + ctSl ci rows) Q (F0 m pe ls [])) →
    W p l e R s m args below meth c H locs cells slots Q (F0 m pc ls [])
  | [], ad, done, pc, cells, slots, H, locs, hr, _, _, _, hP, hD, hS, kk => by
    have e : pc = pe := Nat.eq_of_beq_eq_true hr
    subst e
    have := kk ad H locs (by rw [List.map_nil, List.append_nil]; exact hP) (by rw [List.map_nil, List.append_nil]; exact hD) hS
    exact this
  | (k, t, idx) :: rs, ad, done, pc, cells, slots, H, locs, hr, hw, hce, hsl, hP, hD, hS, kk => by
    rw [ctRun, Bool.and_eq_true] at hr
    rw [List.length_cons] at hce
    have hs9 : ctSl ci ((k, t, idx) :: rs) = (am_fk ci k).2 + ctSl ci rs := rfl
    rw [hs9] at hsl
    refine ct_arr hx hb hts hown h8 hin hK hA hl hr.1 (hw _ List.mem_cons_self) (by omega) (by omega) hP hD hS (fun q H' locs' hP' hD' hS' => ?_)
    refine ct_rows hx hb hts hown h8 hin hK hA hl rs (ctN ad k q) (done ++ [k]) _ (cells + 1) (slots + (am_fk ci k).2) H' locs' hr.2 (fun r h9 => hw r (List.mem_cons_of_mem _ h9)) (by omega) (by omega) hP' hD' hS' (fun ad2 H2 locs2 hP2 hD2 hS2 => ?_)
    have := kk ad2 H2 locs2 (by rw [List.map_cons]; rw [List.append_assoc] at hP2; exact hP2) (by rw [List.map_cons]; rw [List.append_assoc] at hD2; exact hD2) hS2
    rw [hs9, List.length_cons] at this
    rw [show cells + 1 + rs.length = cells + (rs.length + 1) by omega, show slots + (am_fk ci k).2 + ctSl ci rs = slots + ((am_fk ci k).2 + ctSl ci rs) by omega]
    exact this
/-- a number of the object: aload_0, iconst, putfield -/
theorem ct_num (hx : p.tables.exec = Jvm.exec) (hb : c.code = cc) (hts : ∀ w ∈ am_T, w.before args s = true) (hown : s.vm.findClass (am_cn ci) = some m.cls) (h8 : ci < 8) (hK : va_K D vwCl [(tI, .int), (tZ, .boolean)] s) (hl : lv_has ls 1 [(0, .ref h)])
    {ad : Nat → Nat} {nm : Nat → Int32} {rf : Nat → Value} {done : List Nat} {ws : va_W} {pc k idx cells slots : Nat} {n : Int} {v : Int32} {H : Heap} {locs : List Loc} (o1 : decode cc pc = .ok (.aload_n 0, 1)) (o2 : decode cc (pc + 1) = .ok (.iconst n, 1)) (hv : Int32.ofInt n = v) (o4 : decode cc (pc + 1 + 1) = .ok (.putfield idx, 3)) (hlink : ctWf ci (k, 0, idx) ∈ am_T) (hk : k < am_nf ci) (hf : (am_fk ci k).1 = 0) (hfin : (am_TT ci k).2.2.2 = false) (hdecl : (am_TT ci k).1 = am_cn ci) (hty : am_ty ci k = .int)
    (hP : va_P D vwCl ((h, .inr (ci, ctFs ci ad nm rf done)) :: ws) H) (hD : va_D A ((h, .inr (ci, ctFs ci ad nm rf done)) :: ws)) (hS : va_S A s.heap H locs)
    (kk : ∀ (H' : Heap) (locs' : List Loc), va_P D vwCl ((h, .inr (ci, ctFs ci ad (ctN nm k v) rf done)) :: ws) H' → va_D A ((h, .inr (ci, ctFs ci ad (ctN nm k v) rf done)) :: ws) → va_S A s.heap H' locs' → W p l e R s m args below meth c H' locs' cells slots Q (F0 m (pc + 1 + 1 + 3) ls [])) :
    W p l e R s m args below meth c H locs cells slots Q (F0 m pc ls []) := by
  refine lv_aload_n hx hb o1 rfl (lv_at hl 0 rfl) ?_
  refine lv_iconst hx hb o2 hv ?_
  refine va_put (D := D) (ci := ci) (v := .int v) (ty := .int) (C := am_cn ci) (T := am_TT ci) (N := am_nf ci) hx hb hts (am_u_in h8) (am_ty ci) (am_tyok ci h8) (am_nmok ci h8) hown hK hP hD hS 0 rfl (am_vw ci h8) k hk (hts _ hlink) (fun x9 h9 => by rw [hdecl] at h9; exact h9) hfin (by rw [am_tyok ci h8 k hk, hty]) rfl rfl (by rw [ctFs_len]; exact hk) o4 (fun H2 locs2 hP2 hD2 hS2 => ?_)
  have hE := ctFs_num (ad := ad) (nm := nm) (rf := rf) (done := done) (v := v) hk hf
  exact kk H2 locs2 (by rw [← hE]; exact hP2) (by rw [← hE]; exact hD2) hS2
end Ct
