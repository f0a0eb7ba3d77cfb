/-! the law's start: two objects are made, then the loop -/
theorem wh_nest : ∀ q ∈ am_nest, Cond.methodLinkNest (am_cn q.1) q.2.1 (am_y q.2.2.1) RX6 ∈ lw_tbl := by
  have h : am_nest = [(1, 64, 98, 2), (3, 128, 98, 2), (4, 95, 98, 2), (5, 60, 98, 2)] := by decide +kernel
  rw [h]
  exact List.forall_mem_cons.mpr ⟨List.mem_of_getElem? (i := 713) (by decide +kernel), List.forall_mem_cons.mpr ⟨List.mem_of_getElem? (i := 454) (by decide +kernel), List.forall_mem_cons.mpr ⟨List.mem_of_getElem? (i := 599) (by decide +kernel), List.forall_mem_cons.mpr ⟨List.mem_of_getElem? (i := 645) (by decide +kernel), fun _ h => absurd h List.not_mem_nil⟩⟩⟩⟩
theorem wh_ctNest : ∀ q ∈ ctNest, Cond.methodLinkNest (am_cn q.1) q.2.1 (ctY q.2.2) RX6 ∈ lw_tbl :=
  List.forall_mem_cons.mpr ⟨List.mem_of_getElem? (i := 112) (by decide +kernel), List.forall_mem_cons.mpr ⟨List.mem_of_getElem? (i := 78) (by decide +kernel), List.forall_mem_cons.mpr ⟨List.mem_of_getElem? (i := 106) (by decide +kernel), List.forall_mem_cons.mpr ⟨List.mem_of_getElem? (i := 218) (by decide +kernel), List.forall_mem_cons.mpr ⟨List.mem_of_getElem? (i := 221) (by decide +kernel), List.forall_mem_cons.mpr ⟨List.mem_of_getElem? (i := 251) (by decide +kernel), List.forall_mem_cons.mpr ⟨List.mem_of_getElem? (i := 277) (by decide +kernel), fun _ h => absurd h List.not_mem_nil⟩⟩⟩⟩⟩⟩⟩
theorem wh_lw : ∀ w ∈ [Cond.classLink R_law 7 (am_cn 6), Cond.classLink R_law 10 (am_cn 7), Cond.methodLink R_law 9 (ctY 6), Cond.methodLink R_law 12 (ctY 7)], w ∈ am_T := am_chk_ok _ [68, 784, 70, 786] (by decide +kernel)
theorem wh_st : ∀ w ∈ [Cond.laysStatic RX4 "STEP_X" "[I", Cond.laysStatic RX4 "STEP_Y" "[I"], w ∈ lw_tbl := List.forall_mem_cons.mpr ⟨List.mem_of_getElem? (i := 482) (by decide +kernel), List.forall_mem_cons.mpr ⟨List.mem_of_getElem? (i := 484) (by decide +kernel), fun _ h => absurd h List.not_mem_nil⟩⟩
theorem wh_d0 : decode code 0 = .ok (.new 7, 3) := by decide +kernel
theorem wh_d3 : decode code 3 = .ok (.dup, 1) := by decide +kernel
theorem wh_d4 : decode code 4 = .ok (.invokespecial 9, 3) := by decide +kernel
theorem wh_d7 : decode code 7 = .ok (.astore_n 1, 1) := by decide +kernel
theorem wh_d8 : decode code 8 = .ok (.new 10, 3) := by decide +kernel
theorem wh_d11 : decode code 11 = .ok (.dup, 1) := by decide +kernel
theorem wh_d12 : decode code 12 = .ok (.invokespecial 12, 3) := by decide +kernel
theorem wh_d15 : decode code 15 = .ok (.astore_n 2, 1) := by decide +kernel
theorem wh_room : am_okCs room_1.frames room_1.locals am_m_L_law = true := by decide +kernel
/-- the classes of the tables -/
theorem wh_D {s : State} {args : Array Value} (hts : ∀ w ∈ am_T, w.before args s = true) : ∃ D : va_G, ∀ (k : Nat) (q : vw_C), vwCl[k]? = some q → u_Kn s q.1 q.2.1 q.2.2 (D.1 k) (D.2 k) := by
  have h1 : ∀ k, k < 8 → ∃ (cC : ClassId) (iS : Nat → Nat), u_Kn s (am_cn k) (am_TT k) (am_nf k) cC iS := fun k hk => u_known (n := am_nf k) hts (am_u_in hk) (hts _ (ct_at (f := fun c => Cond.instantiable (am_cn c) (am_nf c)) ct_inst hk))
  have h2 : ∀ k, ∃ z : ClassId × (Nat → Nat), k < 8 → u_Kn s (am_cn k) (am_TT k) (am_nf k) z.1 z.2 := by
    intro k
    by_cases hk : k < 8
    · obtain ⟨a, b, h⟩ := h1 k hk
      exact ⟨(a, b), fun _ => h⟩
    · obtain ⟨a, b, h⟩ := h1 0 (by decide)
      exact ⟨(a, b), fun h => absurd h hk⟩
  refine ⟨(fun k => (Classical.choose (h2 k)).1, fun k => (Classical.choose (h2 k)).2), fun k q hq => ?_⟩
  have hk : k < 8 := (List.getElem?_eq_some_iff.mp hq).1
  have h3 := am_vw k hk
  rw [hq] at h3
  cases h3
  exact Classical.choose_spec (h2 k) hk
theorem wh_arr {s : State} {args : Array Value} (hts : ∀ w ∈ am_T, w.before args s = true) {ty : FieldType} (hty : ty = .int ∨ ty = .boolean) : ∃ cA : ClassId, ArrOfT s cA ty ∧ va_RA s cA ty := by
  have hw : (Cond.arrayClass ty).before args s = true := by
    rcases hty with rfl | rfl
    · exact hts _ (ct_ac _ List.mem_cons_self)
    · exact hts _ (ct_ac _ (List.mem_cons_of_mem _ List.mem_cons_self))
  obtain ⟨cA, kA, comp, h1, h2, h3⟩ := Cond.arrayClass_spec hw
  refine ⟨cA, fun n z => ⟨fun k h => (by cases h), kA, h2, comp, h3⟩, ?_⟩
  rcases hty with rfl | rfl <;> exact h1
/-- what both objects stand on at the law's start -/
theorem wh_K {s : State} {args : Array Value} (hts : ∀ w ∈ lw_tbl, w.before args s = true) : ∃ (D : va_G) (tI tZ : ClassId), ctK D tI tZ s := by
  have htT : ∀ w ∈ am_T, w.before args s = true := fun w hw => hts w (List.mem_filter.mp hw).1
  obtain ⟨D, hD⟩ := wh_D htT
  obtain ⟨tI, hI⟩ := wh_arr htT (Or.inl rfl)
  obtain ⟨tZ, hZ⟩ := wh_arr htT (Or.inr rfl)
  refine ⟨D, tI, tZ, ⟨⟨hD, fun k q hq => ?_⟩, fun q hq => va_Nw.of rfl (hts _ (wh_nest q hq))⟩, fun q hq => va_Nw.of rfl (hts _ (wh_ctNest q hq))⟩
  match k, hq with
  | 0, hq => cases hq; exact hI
  | 1, hq => cases hq; exact hZ
  | n + 2, hq => simp at hq
def whE (xs : Nat → Int32) : Nat → Nat → Int32 := fun j i => match j with | 0 => dxF i | 1 => dyF i | _ => xs i
def whSL (L : Nat) : Nat → Nat := fun j => match j with | 0 => 4 | 1 => 4 | _ => L
def whAr (t0 t1 b : Nat) : Nat → Nat := fun j => match j with | 0 => t0 | 1 => t1 | _ => b
theorem wh_E (xs : Nat → Int32) : stepE (whE xs) := fun w _ => ⟨rfl, rfl⟩
/-- the static rows and the script -/
theorem wh_RO {s : State} {b L : Nat} {xs : Nat → Int32} (hts : ∀ w ∈ lw_tbl, w.before #[Value.ref b] s = true) (hX : va_X b L xs s s.heap) (hbl : b < s.heap.size) (hL : L ≤ 384) (hgv : (Jvm.Cond.and given_1 narrow_1).before #[Value.ref b] s = true) : ∃ t0 t1 : Nat, am_RO (whE xs) (whAr t0 t1 b) (whSL L) (fun q : Nat => s.heap.size ≤ q) s s.heap := by
  have hs := flat_of_before _ hgv
  have hA : ∀ a : Nat, a < s.heap.size → ¬ (fun q : Nat => s.heap.size ≤ q) a := fun a h => Nat.not_le.mpr h
  have htT : ∀ w ∈ am_T, w.before #[Value.ref b] s = true := fun w hw => hts w (List.mem_filter.mp hw).1
  have hini := htT _ (ct_at (f := fun c => Cond.initialized (am_cn c)) (c := 4) ct_ini (by decide))
  obtain ⟨t0, e0, T0⟩ := va_Tof (args := #[Value.ref b]) (s := s) (tm := .static RX4 "STEP_X" "[I") (ty := .int) (N := 4) (f := fun i => .int (dxF i)) (A := fun q : Nat => s.heap.size ≤ q) (by decide) (hs _ (by decide +kernel)) (va_eqt (hs (Cond.eq (.length (.static RX4 "STEP_X" "[I")) (.int 4)) (by decide +kernel))) (fun j hj => by
    match j, hj with
    | 0, _ => exact va_eqt (hs (Cond.eq (.elem (.static RX4 "STEP_X" "[I") (.int 0)) (.int 1)) (by decide +kernel))
    | 1, _ => exact va_eqt (hs (Cond.eq (.elem (.static RX4 "STEP_X" "[I") (.int 1)) (.int 0)) (by decide +kernel))
    | 2, _ => exact va_eqt (hs (Cond.eq (.elem (.static RX4 "STEP_X" "[I") (.int 2)) (.int (-1))) (by decide +kernel))
    | 3, _ => exact va_eqt (hs (Cond.eq (.elem (.static RX4 "STEP_X" "[I") (.int 3)) (.int 0)) (by decide +kernel))
    | n + 4, h => exact absurd h (by omega)) hA
  obtain ⟨t1, e1, T1⟩ := va_Tof (args := #[Value.ref b]) (s := s) (tm := .static RX4 "STEP_Y" "[I") (ty := .int) (N := 4) (f := fun i => .int (dyF i)) (A := fun q : Nat => s.heap.size ≤ q) (by decide) (hs _ (by decide +kernel)) (va_eqt (hs (Cond.eq (.length (.static RX4 "STEP_Y" "[I")) (.int 4)) (by decide +kernel))) (fun j hj => by
    match j, hj with
    | 0, _ => exact va_eqt (hs (Cond.eq (.elem (.static RX4 "STEP_Y" "[I") (.int 0)) (.int 0)) (by decide +kernel))
    | 1, _ => exact va_eqt (hs (Cond.eq (.elem (.static RX4 "STEP_Y" "[I") (.int 1)) (.int 1)) (by decide +kernel))
    | 2, _ => exact va_eqt (hs (Cond.eq (.elem (.static RX4 "STEP_Y" "[I") (.int 2)) (.int 0)) (by decide +kernel))
    | 3, _ => exact va_eqt (hs (Cond.eq (.elem (.static RX4 "STEP_Y" "[I") (.int 3)) (.int (-1))) (by decide +kernel))
    | n + 4, h => exact absurd h (by omega)) hA
  refine ⟨t0, t1, fun j hj => ?_, fun j hj => ?_⟩
  · match j, hj with
    | 0, _ => exact T0
    | 1, _ => exact T1
    | 2, _ =>
      obtain ⟨scr, h1, h2, h3, h4, h5⟩ := hX
      exact ⟨scr, h1, h2, h3, by rw [h4]; exact Nat.le_refl L, by rw [h4]; rfl, h5, Nat.not_le.mpr hbl⟩
    | n + 3, h => exact absurd h (by omega)
  · match j, hj with
    | 0, _ => exact va_Zref (hts _ (wh_st _ List.mem_cons_self)) hini e0 hA
    | 1, _ => exact va_Zref (hts _ (wh_st _ (List.mem_cons_of_mem _ List.mem_cons_self))) hini e1 hA
    | n + 2, h => exact absurd h (by omega)
set_option maxHeartbeats 4000000 in
set_option maxRecDepth 100000 in
/-- from the law's loop on -/
theorem wh_loop {p : Program} {l : Launch} {e : Env} {s : State} {m : MethodId} {below : List Frame} {meth : Method} {c : Code} {b L : Nat} {xs : Nat → Int32} (hL : L ≤ 384) (C0 : lw_At p s m meth c b L xs) {D : va_G} {tI tZ : ClassId} (hK : am_K D tI tZ s) {t0 t1 : Nat} (hRO : am_RO (whE xs) (whAr t0 t1 b) (whSL L) (fun q : Nat => s.heap.size ≤ q) s s.heap) {q : Nat → Nat} {a : Nat → Nat → Nat} {H : Heap} {locs : List Loc} {ls : Array Slot}
    (hP : va_P D vwCl (ctCells.map (ctE q a (whAr t0 t1 b) tI tZ)) H) (hD : va_D (fun q : Nat => s.heap.size ≤ q) (ctCells.map (ctE q a (whAr t0 t1 b) tI tZ))) (hS : va_S (fun q : Nat => s.heap.size ≤ q) s.heap H locs) (hl : lv_has ls 4 [(2, .ref (q 13)), (1, .ref (q 0)), (0, .ref b)]) :
    W p l e room_1 s m #[Value.ref b] below meth c H locs 106 1727 (lw_Z below #[Value.ref b] s) (F0 m 16 ls []) := by
  obtain ⟨hx, hb, hr, hml, hown, hts, hX, hbl, hlocks, hgv⟩ := C0
  have htT : ∀ w ∈ am_T, w.before #[Value.ref b] s = true := fun w hw => hts w (List.mem_filter.mp hw).1
  obtain ⟨hi, hin⟩ := ct_toI hD
  have hP := ct_toP hP
  have hAA : ∀ z, am_A (ctAd q a) z → (fun q : Nat => s.heap.size ≤ q) z := by
    rintro z ⟨c', hc', rfl⟩
    exact hin c' hc'
  have h := lk_law (E := whE xs) (d := 0) (Q := fun r _ _ => r = some (aI 1)) hL (wh_E xs) (fun _ _ => rfl) s0_C s0_M s0_ok
  refine h (am_Xw p l e room_1 s m #[Value.ref b] below meth c 106 1727 (lw_Z below #[Value.ref b] s) am_m_L_law (fun q : Nat => s.heap.size ≤ q) D (ctAd q a) (whAr t0 t1 b) tI tZ (whSL L)) ?_ (Rs_ok false) ?_ am_oks_nil rfl H locs ls ?_ hP hS
  · refine am_step (md := am_m_L_law) hx hb hml hown htT hK hi hAA hRO ⟨rfl, rfl⟩ am_ok_L_law wh_room (Nat.le_refl _) (Nat.le_refl _) ?_ (am_sim l (whE xs) D (ctAd q a) (whAr t0 t1 b) tI tZ (whSL L) hi ⟨rfl, rfl⟩ (0 + 8))
    intro r M' R' pc H' locs' sl hq hoR hoV hP1 hS1 hk
    subst hq
    refine va_forget (fun z hz => hS1.2.2 z hz) ?_
    rcases hk with ⟨v, hv, hd, hrt⟩ | ⟨c', o, hv, hd, n, hrt⟩ | ⟨hv, hd, hrt⟩
    · exact lw_ret hx hb hr hlocks hd
    · cases hv
    · cases hv
  · intro v hv
    rcases List.mem_cons.mp hv with rfl | hv
    · exact ⟨by decide, rfl⟩
    rcases List.mem_cons.mp hv with rfl | hv
    · exact ⟨by decide, rfl⟩
    rcases List.mem_cons.mp hv with rfl | hv
    · exact ⟨by decide, rfl⟩
    rcases List.mem_cons.mp hv with rfl | hv
    · trivial
    · cases hv
  · refine ⟨hl.1, hl.2.1, fun i v hv hu => ?_⟩
    match i, hv with
    | 0, hv => cases hv; exact lv_at hl 2 rfl
    | 1, hv => cases hv; exact lv_at hl 1 rfl
    | 2, hv => cases hv; exact lv_at hl 0 rfl
    | 3, hv => cases hv; cases hu
    | n + 4, hv => simp at hv
set_option maxHeartbeats 4000000 in
set_option maxRecDepth 100000 in
/-- YOUR PART: from the entry, for every script of at most 384 ints, the law comes to its end with true -/
theorem whole_start {p : Program} {e : Env} {s : State} {m : MethodId} {below : List Frame} {meth : Method} {c : Code} (l : Launch) {b L : Nat} {xs : Nat → Int32} (hL : L ≤ 384) (C0 : lw_At p s m meth c b L xs) : W p l e room_1 s m #[Value.ref b] below meth c s.heap [] 0 0 (lw_Z below #[Value.ref b] s) (entryFrame m ([Value.ref b] : List Value).toArray 4) := by
  obtain ⟨hx, hb, hr, hml, hown, hts, hX, hbl, hlocks, hgv⟩ := id C0
  have htT : ∀ w ∈ am_T, w.before #[Value.ref b] s = true := fun w hw => hts w (List.mem_filter.mp hw).1
  have hA : ∀ q : Nat, s.heap.size ≤ q → (fun q : Nat => s.heap.size ≤ q) q := fun _ h => h
  obtain ⟨D, tI, tZ, hK⟩ := wh_K hts
  obtain ⟨t0, t1, hRO⟩ := wh_RO hts hX hbl hL hgv
  have hS : va_S (fun q : Nat => s.heap.size ≤ q) s.heap s.heap [] := va_S.rf
  have hP : va_P D vwCl [] s.heap := fun k q h => by simp at h
  have hD : va_D (fun q : Nat => s.heap.size ≤ q) [] := ⟨fun i j p q h => by simp at h, fun k q h => by simp at h⟩
  have hl := lv_entry ([.ref b]) (n := 4) (Nat.le_of_ble_eq_true rfl)
  rw [lg_entry_eq]
  generalize (lg_sl ([.ref b]) ++ List.replicate (4 - (lg_sl ([.ref b])).length) Slot.unset).toArray = ls at hl ⊢
  have hl : lv_has ls 4 [(0, .ref b)] := hl
  have h6 : 6 < 8 := by decide
  have h7 : 7 < 8 := by decide
  refine va_new (ci := 6) (fs := ctFs 6 (fun _ => 0) (fun _ => 0) (fun _ => .null) []) (C := am_cn 6) (T := am_TT 6) (N := am_nf 6) hx hb htT (am_u_in h6) (am_ty 6) (am_tyok 6 h6) hown (htT _ (wh_lw _ List.mem_cons_self)) (htT _ (ct_at (f := fun c => Cond.instantiable (am_cn c) (am_nf c)) ct_inst h6)) (htT _ (ct_at (f := fun c => Cond.initialized (am_cn c)) ct_ini h6)) hK.1.1 hP hD hS hA (am_vw 6 h6) (ct_def 6 h6) (Nat.le_of_ble_eq_true rfl) (Nat.le_of_ble_eq_true rfl) wh_d0 (fun q0 H hP hD hS => ?_)
  refine lv_dup hx hb wh_d3 rfl ?_
  have hPc : va_P D vwCl (ctZ tI tZ 6 q0) H := hP
  have hFc := ct_free hD hS hA
  refine va_callv (va_runI (As := []) (rest := [.ref q0]) ⟨hx, hb, hml, hown, htT⟩ (ct_X6 l D tI tZ q0 H.size) (cwI 0 htT (ct_good h6) rfl rfl rfl (htT _ (ct_at (f := fun c => Cond.initialized (am_cn c)) ct_ini h6)) (htT _ (wh_lw _ (List.mem_cons_of_mem _ (List.mem_cons_of_mem _ List.mem_cons_self)))) (htT _ (ct_at (f := fun c => Cond.instanceMethod (ctY c)) ct_im h6)) rfl (ct_nm 6 h6).2 ⟨Nat.le_of_ble_eq_true rfl, Nat.le_of_ble_eq_true rfl⟩) ⟨fun a U g mk q => by obtain ⟨q0, q1, qP, qK⟩ := q; exact ⟨q0, q1, qP, ctK_same qK rfl⟩, fun U hU hW => ⟨rfl, by rw [hU], by rw [hU]; exact hPc, ctK_warm hK hW⟩⟩ rfl rfl hl.1 rfl (lv_room (Nat.le_of_ble_eq_true rfl)) wh_d4 ⟨Nat.le_of_ble_eq_true rfl, Nat.le_of_ble_eq_true rfl⟩) hS (fun q _ h => hFc q h) hFc (fun u t H1 locs ht hvm hw hB hz1 hk1 hS => ?_)
  obtain ⟨hP1, hD1⟩ := hB
  rw [ht] at hP1
  obtain ⟨hP, hD⟩ := ct_join hP hD hk1 hFc hP1 hD1
  obtain ⟨q, a, hq0, rfl⟩ := hw
  refine lv_astore_n (lv' := [(1, .ref q0), (0, .ref b)]) hx hb wh_d7 rfl hl (by decide) rfl (fun ls hl => ?_)
  refine va_new (ci := 7) (fs := ctFs 7 (fun _ => 0) (fun _ => 0) (fun _ => .null) []) (C := am_cn 7) (T := am_TT 7) (N := am_nf 7) hx hb htT (am_u_in h7) (am_ty 7) (am_tyok 7 h7) hown (htT _ (wh_lw _ (List.mem_cons_of_mem _ List.mem_cons_self))) (htT _ (ct_at (f := fun c => Cond.instantiable (am_cn c) (am_nf c)) ct_inst h7)) (htT _ (ct_at (f := fun c => Cond.initialized (am_cn c)) ct_ini h7)) hK.1.1 hP hD hS hA (am_vw 7 h7) (ct_def 7 h7) (Nat.le_of_ble_eq_true rfl) (Nat.le_of_ble_eq_true rfl) wh_d8 (fun q13 H2 hP hD hS => ?_)
  refine lv_dup hx hb wh_d11 rfl ?_
  have hPc : va_P D vwCl (ctZ tI tZ 7 q13) H2 := fun k x hx => by
    match k, hx with
    | 0, hx => exact hP (([] ++ ctW6 tI tZ q a : va_W).length) x (by rw [List.getElem?_append_right (Nat.le_refl _), Nat.sub_self]; exact hx)
    | n + 1, hx => simp [ctZ, ctO] at hx
  have hFc := ct_free hD hS hA
  refine va_callv (va_runI (As := []) (rest := [.ref q13]) ⟨hx, hb, hml, hown, htT⟩ (ct_X7 l D tI tZ q13 H2.size) (cwI 0 htT (ct_good h7) rfl rfl rfl (htT _ (ct_at (f := fun c => Cond.initialized (am_cn c)) ct_ini h7)) (htT _ (wh_lw _ (List.mem_cons_of_mem _ (List.mem_cons_of_mem _ (List.mem_cons_of_mem _ List.mem_cons_self))))) (htT _ (ct_at (f := fun c => Cond.instanceMethod (ctY c)) ct_im h7)) rfl (ct_nm 7 h7).2 ⟨Nat.le_of_ble_eq_true rfl, Nat.le_of_ble_eq_true rfl⟩) ⟨fun a U g mk q => by obtain ⟨q0, q1, qP, qK⟩ := q; exact ⟨q0, q1, qP, ctK_same qK rfl⟩, fun U hU hW => ⟨rfl, by rw [hU], by rw [hU]; exact hPc, ctK_warm hK hW⟩⟩ rfl rfl hl.1 rfl (lv_room (Nat.le_of_ble_eq_true rfl)) wh_d12 ⟨Nat.le_of_ble_eq_true rfl, Nat.le_of_ble_eq_true rfl⟩) hS (fun q _ h => hFc q h) hFc (fun u t H3 locs ht hvm hw hB hz1 hk1 hS => ?_)
  obtain ⟨hP1, hD1⟩ := hB
  rw [ht] at hP1
  obtain ⟨hP, hD⟩ := ct_join hP hD hk1 hFc hP1 hD1
  obtain ⟨a13, rfl⟩ := hw
  refine lv_astore_n (lv' := [(2, .ref q13), (1, .ref q0), (0, .ref b)]) hx hb wh_d15 rfl hl (by decide) rfl (fun ls hl => ?_)
  refine W.widen (k := 106) (n := 1727) (Nat.le_of_ble_eq_true rfl) (Nat.le_of_ble_eq_true rfl) ?_
  have hE : ([] ++ ctW6 tI tZ q a) ++ ctO tI tZ 7 q13 a13 (ctN (ctN (fun _ => 0) 15 (-1)) 0 0) (fun _ => .null) (ctR7.map (·.1) ++ ctR7b.map (·.1)) = ctCells.map (ctE (ctN q 13 q13) (ctN a 13 a13) (whAr t0 t1 b) tI tZ) := by
    rw [← ct_W]
    rfl
  rw [hE] at hP hD
  rw [← hq0] at hl
  exact wh_loop hL C0 hK.1 hRO hP hD hS hl
