section AmS
variable {p : Program} {l : Launch} {e : Env} {Rm : Room} {s : State} {m : MethodId} {args : Array Value} {below : List Frame} {meth : Method} {c : Code} {cells slots : Nat} {Qw : State → Prop}
variable {md : am_D} {E : Nat → Nat → Int32} {d : Nat} {Q : am_Q} {A : Nat → Prop} {D : va_G} {ad : Nat × Option Nat → Nat} {ar : Nat → Nat} {tI tZ : ClassId} {SL : Nat → Nat}
/-- what is true of the machine wherever the small machine stands at (pc, locals, stack, memory) -/
def am_Xw (p : Program) (l : Launch) (e : Env) (Rm : Room) (s : State) (m : MethodId) (args : Array Value) (below : List Frame) (meth : Method) (c : Code) (cells slots : Nat) (Qw : State → Prop) (md : am_D) (A : Nat → Prop) (D : va_G) (ad : Nat × Option Nat → Nat) (ar : Nat → Nat) (tI tZ : ClassId) (SL : Nat → Nat) : am_X := fun pc ls st M R =>
  am_okR R → am_oks SL ls → am_oks SL st → ls.length = md.2.2.1 → ∀ (H : Heap) (locs : List Loc) (sl : Array Slot), am_lr ad ar ls sl → va_P D vwCl (am_ws ad ar tI tZ M R) H → va_S A s.heap H locs → W p l e Rm s m args below meth c H locs cells slots Qw (F0 m pc sl (st.map (am_con ad ar)))
/-- the method's end -/
def am_Ret (p : Program) (l : Launch) (e : Env) (Rm : Room) (s : State) (m : MethodId) (args : Array Value) (below : List Frame) (meth : Method) (c : Code) (cells slots : Nat) (Qw : State → Prop) (md : am_D) (Q : am_Q) (A : Nat → Prop) (D : va_G) (ad : Nat × Option Nat → Nat) (ar : Nat → Nat) (tI tZ : ClassId) (SL : Nat → Nat) : Prop :=
  ∀ (r : Option am_V) (M : am_M) (R : am_R) (pc : Nat) (H : Heap) (locs : List Loc) (sl : Array Slot), Q r M R → am_okR R → (∀ v, r = some v → am_okV SL v) → va_P D vwCl (am_ws ad ar tI tZ M R) H → va_S A s.heap H locs →
    ((∃ v, r = some (aI v) ∧ decode md.2.1 pc = .ok (.ireturn, 1) ∧ (md.2.2.2.1 = some .int ∨ (md.2.2.2.1 = some .boolean ∧ v &&& 1 = v))) ∨ (∃ c o, r = some (aO c o) ∧ decode md.2.1 pc = .ok (.areturn, 1) ∧ ∃ n, md.2.2.2.1 = some (.object n)) ∨ (r = none ∧ decode md.2.1 pc = .ok (.return_, 1) ∧ md.2.2.2.1 = none)) →
    W p l e Rm s m args below meth c H locs cells slots Qw (F0 m pc sl ((am_push r []).map (am_con ad ar)))
theorem am_goon {H : Heap} {locs : List Loc} {as : Array Value} {rest : List am_V} {pc : Nat} {sl : Array Slot} {st0 : List Value} {Qa : am_Q}
    (hr : va_Run p l e Rm s m args below meth c H locs cells slots 0 0 (F0 m pc sl st0) (rest.map (am_con ad ar)) (am_Qc D ad ar tI tZ SL Qa as) (am_A ad)) (hS : va_S A s.heap H locs) (hAA : ∀ q, am_A ad q → A q)
    (kk : ∀ (r : Option am_V) (M' : am_M) (R' : am_R) (H1 : Heap) (locs1 : List Loc), Qa r M' R' → am_okR R' → (∀ v, r = some v → am_okV SL v) → va_P D vwCl (am_ws ad ar tI tZ M' R') H1 → va_S A s.heap H1 locs1 → W p l e Rm s m args below meth c H1 locs1 cells slots Qw (F0 m (pc + 3) sl ((am_push r rest).map (am_con ad ar)))) :
    W p l e Rm s m args below meth c H locs cells slots Qw (F0 m pc sl st0) := by
  intro T hT X
  obtain ⟨v, st₀, t, T', L, h0, X', hL, e1, e2, ⟨⟨r, M', R', hv, hq, hoR, hoV, hP1⟩, hz, hk⟩, st⟩ := hr T hT X
  cases hv
  rw [h0] at hz hk
  obtain ⟨t2, a1, b1⟩ := kk r M' R' T'.heap (locs ++ L) hq hoR hoV (by rw [e1]; exact hP1)
    ⟨Nat.le_trans hS.1 (by rw [e1]; exact hz), fun q h1 h2 => by rw [e1, hk q (Nat.lt_of_lt_of_le h1 hS.1) (fun z => h2 (hAA q z))]; exact hS.2.1 q h1 h2, fun q hq => by
      rcases List.mem_append.mp hq with h | h
      · exact hS.2.2 q h
      · exact hAA _ (hL q h)⟩ T' rfl X'
  refine ⟨t2, st t2 ?_, b1⟩
  cases r with
  | none => exact a1
  | some v => exact a1
theorem am_blind {as : List am_V} {M : am_M} {R : am_R} : FrameBlind (am_Pc E D ad ar tI tZ SL as M R) := by
  intro a U g mk q
  obtain ⟨q0, qP, qK, qR⟩ := q
  exact ⟨q0, qP, am_K_same qK rfl, am_RO_to (U := U.calling g mk a) qR (fun _ _ _ => rfl) (fun _ h => h) (Vm.Alike.refl U.vm)⟩
theorem am_pre {as : List am_V} {M : am_M} {R : am_R} {H : Heap} {locs : List Loc} (hK : am_K D tI tZ s) (hRO : am_RO E ar SL A s s.heap) (hAA : ∀ q, am_A ad q → A q) (hP : va_P D vwCl (am_ws ad ar tI tZ M R) H) (hS : va_S A s.heap H locs) :
    ∀ U : State, U.heap = H → s.WarmedH U.vm → am_Pc E D ad ar tI tZ SL as M R (as.map (am_con ad ar)).toArray U := by
  intro U hU hW
  refine ⟨rfl, by rw [hU]; exact hP, am_K_warm hK hW, ?_⟩
  rw [hU]
  exact am_RO_to hRO (fun a h1 h2 => hS.2.1 a h1 h2) hAA hW.alike
theorem am_stk {st : List am_V} {y : Nat} {as : List am_V} (h : (st.take y).reverse = as) : st = as.reverse ++ st.drop y := by
  rw [← h, List.reverse_reverse, List.take_append_drop]
theorem am_chkR_inv {fr lo x : Nat} {md' : am_D} (h : am_chkR fr lo x = true) (hm : am_ms0[x]? = some md') : (am_room x).frames + 1 ≤ fr ∧ 8 + (md'.2.2.1 + 11) + (am_room x).locals ≤ lo := by
  unfold am_chkR at h
  rw [hm] at h
  dsimp only at h
  rw [Bool.and_eq_true] at h
  exact ⟨Nat.le_of_ble_eq_true h.1, Nat.le_of_ble_eq_true h.2⟩

set_option maxHeartbeats 4000000 in
set_option maxRecDepth 100000 in
/-- every step of the small machine leads back -/
theorem am_step (hx : p.tables.exec = Jvm.exec) (hb : c.code = md.2.1) (hml : c.maxLocals = md.2.2.1) (hown : s.vm.findClass (am_cn md.2.2.2.2.1) = some m.cls) (hts : ∀ w ∈ am_T, w.before args s = true)
    (hK : am_K D tI tZ s) (hi : ∀ c c', c ∈ am_cells → c' ∈ am_cells → ad c = ad c' → c = c') (hAA : ∀ q, am_A ad q → A q) (hRO : am_RO E ar SL A s s.heap) (hSL : SL 0 = 4 ∧ SL 1 = 4) (hok : am_okM md = true) (hC : am_okCs Rm.frames Rm.locals md = true) (hcs : cells ≤ Rm.cells) (hss : slots ≤ Rm.slots)
    (hret : am_Ret p l e Rm s m args below meth c cells slots Qw md Q A D ad ar tI tZ SL) (hsim : am_Sim l E d D ad ar tI tZ SL) :
    ∀ pc ls st M R, am_st E (am_WM E d) md.2.2.2.2.2 Q (am_Xw p l e Rm s m args below meth c cells slots Qw md A D ad ar tI tZ SL) pc ls st M R → am_Xw p l e Rm s m args below meth c cells slots Qw md A D ad ar tI tZ SL pc ls st M R := by
  intro pc ls st M R h okR okl oks hlen H locs sl hlr hP hS
  have hD : va_D A (am_ws ad ar tI tZ M R) := am_DD hi (fun c hc => hAA _ ⟨c, hc, rfl⟩)
  have hsz : sl.size = md.2.2.1 := hlr.1.trans hlen
  have hhas := am_lr_has hlr
  rw [hlen] at hhas
  unfold am_st at h
  split at h
  case h_2 => exact h.elim
  case h_1 e' hfind =>
  have hE := am_okM_at hok hfind
  have hCe := am_okCs_at hC hfind
  obtain ⟨i, nx, x, y, z, u, v, w⟩ := e'
  unfold am_okE at hE
  rw [Bool.and_eq_true, decide_eq_true_eq] at hE
  obtain ⟨hdec, hI⟩ := hE
  dsimp only at hdec
  cases i <;> try exact h.elim
  case iconst n =>
    rw [am_okI, Bool.and_eq_true] at hI
    have hnx := Nat.eq_of_beq_eq_true hI.1
    subst hnx
    rw [Nat.add_sub_cancel_left] at hdec
    exact lv_iconst hx hb hdec (of_decide_eq_true hI.2) (h okR okl (am_oks_cons trivial oks) hlen H locs sl hlr hP hS)
  case bipush n =>
    rw [am_okI, Bool.and_eq_true] at hI
    have hnx := Nat.eq_of_beq_eq_true hI.1
    subst hnx
    rw [Nat.add_sub_cancel_left] at hdec
    exact lv_bipush hx hb hdec (of_decide_eq_true hI.2) (h okR okl (am_oks_cons trivial oks) hlen H locs sl hlr hP hS)
  case sipush n =>
    rw [am_okI, Bool.and_eq_true] at hI
    have hnx := Nat.eq_of_beq_eq_true hI.1
    subst hnx
    rw [Nat.add_sub_cancel_left] at hdec
    exact lv_sipush hx hb hdec (of_decide_eq_true hI.2) (h okR okl (am_oks_cons trivial oks) hlen H locs sl hlr hP hS)
  case ldc n =>
    rw [am_okI, Bool.and_eq_true] at hI
    have hnx := Nat.eq_of_beq_eq_true hI.1
    subst hnx
    rw [Nat.add_sub_cancel_left] at hdec
    exact lv_ldc hx hb hown (hts _ (am_kW_ok _ (List.mem_map.mpr ⟨_, List.mem_of_getElem? (of_decide_eq_true hI.2), rfl⟩))) hdec (h okR okl (am_oks_cons trivial oks) hlen H locs sl hlr hP hS)
  case ldc_w n =>
    rw [am_okI, Bool.and_eq_true] at hI
    have hnx := Nat.eq_of_beq_eq_true hI.1
    subst hnx
    rw [Nat.add_sub_cancel_left] at hdec
    exact lv_ldcw hx hb hown (hts _ (am_kW_ok _ (List.mem_map.mpr ⟨_, List.mem_of_getElem? (of_decide_eq_true hI.2), rfl⟩))) hdec (h okR okl (am_oks_cons trivial oks) hlen H locs sl hlr hP hS)
  case ldc2_w n =>
    rw [am_okI, Bool.and_eq_true] at hI
    have hnx := Nat.eq_of_beq_eq_true hI.1
    subst hnx
    rw [Nat.add_sub_cancel_left] at hdec
    exact lv_ldc2 hx hb hown (hts _ (am_k2W_ok _ (List.mem_map.mpr ⟨_, List.mem_of_getElem? (of_decide_eq_true hI.2), rfl⟩))) hdec (h okR okl (am_oks_cons trivial oks) hlen H locs sl hlr hP hS)
  case lconst n =>
    rw [am_okI, Bool.and_eq_true] at hI
    have hnx := Nat.eq_of_beq_eq_true hI.1
    subst hnx
    rw [Nat.add_sub_cancel_left] at hdec
    exact lv_lconst hx hb hdec (of_decide_eq_true hI.2) (h okR okl (am_oks_cons trivial oks) hlen H locs sl hlr hP hS)
  case iload n =>
    rw [am_okI, Bool.and_eq_true] at hI
    have hnx := Nat.eq_of_beq_eq_true hI.1
    subst hnx
    rw [Nat.add_sub_cancel_left] at hdec
    have hk := Nat.eq_of_beq_eq_true hI.2
    dsimp only [am_ex] at h
    split at h
    case h_2 => exact h.elim
    case h_1 a hla =>
    obtain ⟨ha, h⟩ := am_cond_inv h
    obtain ⟨q, rfl⟩ := am_isI_inv ha
    have hl := am_lr_get hlr hla rfl
    subst hk
    exact lv_iload hx hb hdec hl (h okR okl (am_oks_cons (okl _ (List.mem_of_getElem? hla)) oks) hlen H locs sl hlr hP hS)
  case iload_n n =>
    rw [am_okI, Bool.and_eq_true] at hI
    have hnx := Nat.eq_of_beq_eq_true hI.1
    subst hnx
    rw [Nat.add_sub_cancel_left] at hdec
    have hk := Nat.eq_of_beq_eq_true hI.2
    dsimp only [am_ex] at h
    split at h
    case h_2 => exact h.elim
    case h_1 a hla =>
    obtain ⟨ha, h⟩ := am_cond_inv h
    obtain ⟨q, rfl⟩ := am_isI_inv ha
    have hl := am_lr_get hlr hla rfl
    exact lv_iload_n hx hb hdec hk hl (h okR okl (am_oks_cons (okl _ (List.mem_of_getElem? hla)) oks) hlen H locs sl hlr hP hS)
  case lload n =>
    rw [am_okI, Bool.and_eq_true] at hI
    have hnx := Nat.eq_of_beq_eq_true hI.1
    subst hnx
    rw [Nat.add_sub_cancel_left] at hdec
    have hk := Nat.eq_of_beq_eq_true hI.2
    dsimp only [am_ex] at h
    split at h
    case h_2 => exact h.elim
    case h_1 a hla =>
    obtain ⟨ha, h⟩ := am_cond_inv h
    obtain ⟨q, rfl⟩ := am_isL_inv ha
    have hl := am_lr_get hlr hla rfl
    subst hk
    exact lv_lload hx hb hdec hl (h okR okl (am_oks_cons (okl _ (List.mem_of_getElem? hla)) oks) hlen H locs sl hlr hP hS)
  case lload_n n =>
    rw [am_okI, Bool.and_eq_true] at hI
    have hnx := Nat.eq_of_beq_eq_true hI.1
    subst hnx
    rw [Nat.add_sub_cancel_left] at hdec
    have hk := Nat.eq_of_beq_eq_true hI.2
    dsimp only [am_ex] at h
    split at h
    case h_2 => exact h.elim
    case h_1 a hla =>
    obtain ⟨ha, h⟩ := am_cond_inv h
    obtain ⟨q, rfl⟩ := am_isL_inv ha
    have hl := am_lr_get hlr hla rfl
    exact lv_lload_n hx hb hdec hk hl (h okR okl (am_oks_cons (okl _ (List.mem_of_getElem? hla)) oks) hlen H locs sl hlr hP hS)
  case aload n =>
    rw [am_okI, Bool.and_eq_true] at hI
    have hnx := Nat.eq_of_beq_eq_true hI.1
    subst hnx
    rw [Nat.add_sub_cancel_left] at hdec
    have hk := Nat.eq_of_beq_eq_true hI.2
    dsimp only [am_ex] at h
    split at h
    case h_2 => exact h.elim
    case h_1 a hla =>
    obtain ⟨ha, h⟩ := am_cond_inv h
    obtain ⟨⟨q, hq⟩, hu, -⟩ := am_isR_inv (ad := ad) (ar := ar) ha
    have hl := am_lr_get hlr hla hu
    rw [hq] at hl
    have k := h okR okl (am_oks_cons (okl _ (List.mem_of_getElem? hla)) oks) hlen H locs sl hlr hP hS
    rw [List.map_cons, hq] at k
    subst hk
    exact lv_aload hx hb hdec hl k
  case aload_n n =>
    rw [am_okI, Bool.and_eq_true] at hI
    have hnx := Nat.eq_of_beq_eq_true hI.1
    subst hnx
    rw [Nat.add_sub_cancel_left] at hdec
    have hk := Nat.eq_of_beq_eq_true hI.2
    dsimp only [am_ex] at h
    split at h
    case h_2 => exact h.elim
    case h_1 a hla =>
    obtain ⟨ha, h⟩ := am_cond_inv h
    obtain ⟨⟨q, hq⟩, hu, -⟩ := am_isR_inv (ad := ad) (ar := ar) ha
    have hl := am_lr_get hlr hla hu
    rw [hq] at hl
    have k := h okR okl (am_oks_cons (okl _ (List.mem_of_getElem? hla)) oks) hlen H locs sl hlr hP hS
    rw [List.map_cons, hq] at k
    exact lv_aload_n hx hb hdec hk hl k
  case istore n =>
    rw [am_okI, Bool.and_eq_true] at hI
    have hnx := Nat.eq_of_beq_eq_true hI.1
    subst hnx
    rw [Nat.add_sub_cancel_left] at hdec
    have hk := Nat.eq_of_beq_eq_true hI.2
    dsimp only [am_ex] at h
    split at h
    case h_2 => exact h.elim
    case h_1 a t =>
    obtain ⟨ha, h⟩ := am_cond_inv h
    rw [Bool.and_eq_true] at ha
    obtain ⟨ha, hf⟩ := ha
    obtain ⟨q, rfl⟩ := am_isI_inv ha
    subst hk
    exact lv_istore hx hb hdec hhas (by rw [← hlen]; exact am_fit_lt hf) rfl (fun sl' h' => h okR (am_oks_set okl trivial) (am_oks_tl oks) (by rw [List.length_set]; exact hlen) H locs sl' (am_has_lr1 hf (by rw [hlen]; exact h')) hP hS)
  case istore_n n =>
    rw [am_okI, Bool.and_eq_true] at hI
    have hnx := Nat.eq_of_beq_eq_true hI.1
    subst hnx
    rw [Nat.add_sub_cancel_left] at hdec
    have hk := Nat.eq_of_beq_eq_true hI.2
    dsimp only [am_ex] at h
    split at h
    case h_2 => exact h.elim
    case h_1 a t =>
    obtain ⟨ha, h⟩ := am_cond_inv h
    rw [Bool.and_eq_true] at ha
    obtain ⟨ha, hf⟩ := ha
    obtain ⟨q, rfl⟩ := am_isI_inv ha
    exact lv_istore_n hx hb hdec hk hhas (by rw [← hlen]; exact am_fit_lt hf) rfl (fun sl' h' => h okR (am_oks_set okl trivial) (am_oks_tl oks) (by rw [List.length_set]; exact hlen) H locs sl' (am_has_lr1 hf (by rw [hlen]; exact h')) hP hS)
  case lstore n =>
    rw [am_okI, Bool.and_eq_true] at hI
    have hnx := Nat.eq_of_beq_eq_true hI.1
    subst hnx
    rw [Nat.add_sub_cancel_left] at hdec
    have hk := Nat.eq_of_beq_eq_true hI.2
    dsimp only [am_ex] at h
    split at h
    case h_2 => exact h.elim
    case h_1 a t =>
    obtain ⟨ha, h⟩ := am_cond_inv h
    rw [Bool.and_eq_true] at ha
    obtain ⟨ha, hf⟩ := ha
    rw [Bool.and_eq_true] at hf
    obtain ⟨hf, hf2⟩ := hf
    have hf2 := Nat.le_of_ble_eq_true hf2
    obtain ⟨q, rfl⟩ := am_isL_inv ha
    subst hk
    exact lv_lstore hx hb hdec hhas (by rw [← hlen]; omega) rfl (fun sl' h' => h okR (am_oks_set (am_oks_set okl trivial) trivial) (am_oks_tl oks) (by rw [List.length_set, List.length_set]; exact hlen) H locs sl' (am_has_lr2 hf hf2 (by rw [hlen]; exact h')) hP hS)
  case lstore_n n =>
    rw [am_okI, Bool.and_eq_true] at hI
    have hnx := Nat.eq_of_beq_eq_true hI.1
    subst hnx
    rw [Nat.add_sub_cancel_left] at hdec
    have hk := Nat.eq_of_beq_eq_true hI.2
    dsimp only [am_ex] at h
    split at h
    case h_2 => exact h.elim
    case h_1 a t =>
    obtain ⟨ha, h⟩ := am_cond_inv h
    rw [Bool.and_eq_true] at ha
    obtain ⟨ha, hf⟩ := ha
    rw [Bool.and_eq_true] at hf
    obtain ⟨hf, hf2⟩ := hf
    have hf2 := Nat.le_of_ble_eq_true hf2
    obtain ⟨q, rfl⟩ := am_isL_inv ha
    exact lv_lstore_n hx hb hdec hk hhas (by rw [← hlen]; omega) rfl (fun sl' h' => h okR (am_oks_set (am_oks_set okl trivial) trivial) (am_oks_tl oks) (by rw [List.length_set, List.length_set]; exact hlen) H locs sl' (am_has_lr2 hf hf2 (by rw [hlen]; exact h')) hP hS)
  case astore n =>
    rw [am_okI, Bool.and_eq_true] at hI
    have hnx := Nat.eq_of_beq_eq_true hI.1
    subst hnx
    rw [Nat.add_sub_cancel_left] at hdec
    have hk := Nat.eq_of_beq_eq_true hI.2
    dsimp only [am_ex] at h
    split at h
    case h_2 => exact h.elim
    case h_1 a t =>
    obtain ⟨ha, h⟩ := am_cond_inv h
    rw [Bool.and_eq_true] at ha
    obtain ⟨ha, hf⟩ := ha
    obtain ⟨⟨q, hq⟩, hu, hnl⟩ := am_isR_inv (ad := ad) (ar := ar) ha
    rw [List.map_cons, hq]
    subst hk
    exact lv_astore hx hb hdec hhas (by rw [← hlen]; exact am_fit_lt hf) rfl (fun sl' h' => h okR (am_oks_set okl (am_oks_hd oks)) (am_oks_tl oks) (by rw [List.length_set]; exact hlen) H locs sl' (am_has_lr1 hf (by rw [hlen, hq]; exact h')) hP hS)
  case astore_n n =>
    rw [am_okI, Bool.and_eq_true] at hI
    have hnx := Nat.eq_of_beq_eq_true hI.1
    subst hnx
    rw [Nat.add_sub_cancel_left] at hdec
    have hk := Nat.eq_of_beq_eq_true hI.2
    dsimp only [am_ex] at h
    split at h
    case h_2 => exact h.elim
    case h_1 a t =>
    obtain ⟨ha, h⟩ := am_cond_inv h
    rw [Bool.and_eq_true] at ha
    obtain ⟨ha, hf⟩ := ha
    obtain ⟨⟨q, hq⟩, hu, hnl⟩ := am_isR_inv (ad := ad) (ar := ar) ha
    rw [List.map_cons, hq]
    exact lv_astore_n hx hb hdec hk hhas (by rw [← hlen]; exact am_fit_lt hf) rfl (fun sl' h' => h okR (am_oks_set okl (am_oks_hd oks)) (am_oks_tl oks) (by rw [List.length_set]; exact hlen) H locs sl' (am_has_lr1 hf (by rw [hlen, hq]; exact h')) hP hS)
  case iinc n cst =>
    rw [am_okI, Bool.and_eq_true] at hI
    have hnx := Nat.eq_of_beq_eq_true hI.1
    subst hnx
    rw [Nat.add_sub_cancel_left] at hdec
    rw [Bool.and_eq_true] at hI
    have hk := Nat.eq_of_beq_eq_true hI.2.1
    have hv := of_decide_eq_true hI.2.2
    dsimp only [am_ex] at h
    split at h
    case h_2 => exact h.elim
    case h_1 a hla =>
    obtain ⟨hf, h⟩ := am_cond_inv h
    subst hk
    have hm : (n, Value.int a) ∈ am_prs ad ar ls := am_prs_mem.mpr ⟨aI a, hla, rfl, rfl⟩
    obtain ⟨k, hk⟩ := List.getElem?_of_mem hm
    exact lv_iinc hx hb hdec hhas hk (by rw [hv]) (by rw [← hlen]; exact am_fit_lt hf) rfl (fun sl' h' => h okR (am_oks_set okl trivial) oks (by rw [List.length_set]; exact hlen) H locs sl' (am_has_lr1 hf (by rw [hlen]; exact h')) hP hS)
  case iadd =>
    have hnx : nx = pc + 1 := Nat.eq_of_beq_eq_true hI
    subst hnx
    rw [Nat.add_sub_cancel_left] at hdec
    obtain ⟨a, b, t, rfl, h⟩ := am_int2_inv h
    exact lv_iadd hx hb hdec (h okR okl (am_oks_cons trivial (am_oks_tl (am_oks_tl oks))) hlen H locs sl hlr hP hS)
  case isub =>
    have hnx : nx = pc + 1 := Nat.eq_of_beq_eq_true hI
    subst hnx
    rw [Nat.add_sub_cancel_left] at hdec
    obtain ⟨a, b, t, rfl, h⟩ := am_int2_inv h
    exact lv_isub hx hb hdec (h okR okl (am_oks_cons trivial (am_oks_tl (am_oks_tl oks))) hlen H locs sl hlr hP hS)
  case imul =>
    have hnx : nx = pc + 1 := Nat.eq_of_beq_eq_true hI
    subst hnx
    rw [Nat.add_sub_cancel_left] at hdec
    obtain ⟨a, b, t, rfl, h⟩ := am_int2_inv h
    exact lv_imul hx hb hdec (h okR okl (am_oks_cons trivial (am_oks_tl (am_oks_tl oks))) hlen H locs sl hlr hP hS)
  case iand =>
    have hnx : nx = pc + 1 := Nat.eq_of_beq_eq_true hI
    subst hnx
    rw [Nat.add_sub_cancel_left] at hdec
    obtain ⟨a, b, t, rfl, h⟩ := am_int2_inv h
    exact lv_iand hx hb hdec (h okR okl (am_oks_cons trivial (am_oks_tl (am_oks_tl oks))) hlen H locs sl hlr hP hS)
  case ior =>
    have hnx : nx = pc + 1 := Nat.eq_of_beq_eq_true hI
    subst hnx
    rw [Nat.add_sub_cancel_left] at hdec
    obtain ⟨a, b, t, rfl, h⟩ := am_int2_inv h
    exact lv_ior hx hb hdec (h okR okl (am_oks_cons trivial (am_oks_tl (am_oks_tl oks))) hlen H locs sl hlr hP hS)
  case ixor =>
    have hnx : nx = pc + 1 := Nat.eq_of_beq_eq_true hI
    subst hnx
    rw [Nat.add_sub_cancel_left] at hdec
    obtain ⟨a, b, t, rfl, h⟩ := am_int2_inv h
    exact lv_ixor hx hb hdec (h okR okl (am_oks_cons trivial (am_oks_tl (am_oks_tl oks))) hlen H locs sl hlr hP hS)
  case ishl =>
    have hnx : nx = pc + 1 := Nat.eq_of_beq_eq_true hI
    subst hnx
    rw [Nat.add_sub_cancel_left] at hdec
    obtain ⟨a, b, t, rfl, h⟩ := am_int2_inv h
    exact lv_ishl hx hb hdec (h okR okl (am_oks_cons trivial (am_oks_tl (am_oks_tl oks))) hlen H locs sl hlr hP hS)
  case ishr =>
    have hnx : nx = pc + 1 := Nat.eq_of_beq_eq_true hI
    subst hnx
    rw [Nat.add_sub_cancel_left] at hdec
    obtain ⟨a, b, t, rfl, h⟩ := am_int2_inv h
    exact lv_ishr hx hb hdec (h okR okl (am_oks_cons trivial (am_oks_tl (am_oks_tl oks))) hlen H locs sl hlr hP hS)
  case idiv =>
    have hnx : nx = pc + 1 := Nat.eq_of_beq_eq_true hI
    subst hnx
    rw [Nat.add_sub_cancel_left] at hdec
    obtain ⟨a, b, t, rfl, hne, h⟩ := am_int2_inv h
    exact lv_idiv hx hb hdec hne (h okR okl (am_oks_cons trivial (am_oks_tl (am_oks_tl oks))) hlen H locs sl hlr hP hS)
  case irem =>
    have hnx : nx = pc + 1 := Nat.eq_of_beq_eq_true hI
    subst hnx
    rw [Nat.add_sub_cancel_left] at hdec
    obtain ⟨a, b, t, rfl, hne, h⟩ := am_int2_inv h
    exact lv_irem hx hb hdec hne (h okR okl (am_oks_cons trivial (am_oks_tl (am_oks_tl oks))) hlen H locs sl hlr hP hS)
  case ladd =>
    have hnx : nx = pc + 1 := Nat.eq_of_beq_eq_true hI
    subst hnx
    rw [Nat.add_sub_cancel_left] at hdec
    obtain ⟨a, b, t, rfl, h⟩ := am_lng2_inv h
    exact lv_ladd hx hb hdec (h okR okl (am_oks_cons trivial (am_oks_tl (am_oks_tl oks))) hlen H locs sl hlr hP hS)
  case lmul =>
    have hnx : nx = pc + 1 := Nat.eq_of_beq_eq_true hI
    subst hnx
    rw [Nat.add_sub_cancel_left] at hdec
    obtain ⟨a, b, t, rfl, h⟩ := am_lng2_inv h
    exact lv_lmul hx hb hdec (h okR okl (am_oks_cons trivial (am_oks_tl (am_oks_tl oks))) hlen H locs sl hlr hP hS)
  case land =>
    have hnx : nx = pc + 1 := Nat.eq_of_beq_eq_true hI
    subst hnx
    rw [Nat.add_sub_cancel_left] at hdec
    obtain ⟨a, b, t, rfl, h⟩ := am_lng2_inv h
    exact lv_land hx hb hdec (h okR okl (am_oks_cons trivial (am_oks_tl (am_oks_tl oks))) hlen H locs sl hlr hP hS)
  case ldiv =>
    have hnx : nx = pc + 1 := Nat.eq_of_beq_eq_true hI
    subst hnx
    rw [Nat.add_sub_cancel_left] at hdec
    obtain ⟨a, b, t, rfl, hne, h⟩ := am_lng2_inv h
    exact lv_ldiv hx hb hdec hne (h okR okl (am_oks_cons trivial (am_oks_tl (am_oks_tl oks))) hlen H locs sl hlr hP hS)
  case lrem =>
    have hnx : nx = pc + 1 := Nat.eq_of_beq_eq_true hI
    subst hnx
    rw [Nat.add_sub_cancel_left] at hdec
    obtain ⟨a, b, t, rfl, hne, h⟩ := am_lng2_inv h
    exact lv_lrem hx hb hdec hne (h okR okl (am_oks_cons trivial (am_oks_tl (am_oks_tl oks))) hlen H locs sl hlr hP hS)
  case lcmp =>
    have hnx : nx = pc + 1 := Nat.eq_of_beq_eq_true hI
    subst hnx
    rw [Nat.add_sub_cancel_left] at hdec
    obtain ⟨a, b, t, rfl, h⟩ := am_lng2_inv h
    exact W.lcmp hx hb hdec (h okR okl (am_oks_cons trivial (am_oks_tl (am_oks_tl oks))) hlen H locs sl hlr hP hS)
  case i2l =>
    have hnx : nx = pc + 1 := Nat.eq_of_beq_eq_true hI
    subst hnx
    rw [Nat.add_sub_cancel_left] at hdec
    dsimp only [am_ex] at h
    split at h
    case h_2 => exact h.elim
    case h_1 a t =>
    exact lv_i2l hx hb hdec rfl (h okR okl (am_oks_cons trivial (am_oks_tl oks)) hlen H locs sl hlr hP hS)
  case l2i =>
    have hnx : nx = pc + 1 := Nat.eq_of_beq_eq_true hI
    subst hnx
    rw [Nat.add_sub_cancel_left] at hdec
    dsimp only [am_ex] at h
    split at h
    case h_2 => exact h.elim
    case h_1 a t =>
    exact lv_l2i hx hb hdec rfl (h okR okl (am_oks_cons trivial (am_oks_tl oks)) hlen H locs sl hlr hP hS)
  case dup =>
    have hnx : nx = pc + 1 := Nat.eq_of_beq_eq_true hI
    subst hnx
    rw [Nat.add_sub_cancel_left] at hdec
    dsimp only [am_ex] at h
    split at h
    case h_2 => exact h.elim
    case h_1 a t =>
    obtain ⟨ha, h⟩ := am_cond_inv h
    rw [Bool.not_eq_true'] at ha
    exact lv_dup hx hb hdec (am_cat1 ha) (h okR okl (am_oks_cons (am_oks_hd oks) oks) hlen H locs sl hlr hP hS)
  case dup2 =>
    have hnx : nx = pc + 1 := Nat.eq_of_beq_eq_true hI
    subst hnx
    rw [Nat.add_sub_cancel_left] at hdec
    dsimp only [am_ex] at h
    split at h
    case h_2 => exact h.elim
    case h_1 a b t =>
    obtain ⟨ha, h⟩ := am_cond_inv h
    rw [Bool.and_eq_true, Bool.not_eq_true', Bool.not_eq_true'] at ha
    exact lv_dup2_11 hx hb hdec (am_cat1 ha.1) (am_cat1 ha.2) (h okR okl (am_oks_cons (am_oks_hd oks) (am_oks_cons (am_oks_hd (am_oks_tl oks)) oks)) hlen H locs sl hlr hP hS)
  case ifCond cd off =>
    rw [am_okI, Bool.and_eq_true] at hI
    have hnx := Nat.eq_of_beq_eq_true hI.1
    subst hnx
    rw [Nat.add_sub_cancel_left] at hdec
    have ht := of_decide_eq_true hI.2
    dsimp only [am_ex] at h
    split at h
    case h_2 => exact h.elim
    case h_1 a t =>
    cases cd with
    | eq => exact lv_if_eq hx hb hdec ht (fun q => h.1 q okR okl (am_oks_tl oks) hlen H locs sl hlr hP hS) (fun q => h.2 q okR okl (am_oks_tl oks) hlen H locs sl hlr hP hS)
    | ne => exact lv_if_ne hx hb hdec ht (fun q => h.1 q okR okl (am_oks_tl oks) hlen H locs sl hlr hP hS) (fun q => h.2 q okR okl (am_oks_tl oks) hlen H locs sl hlr hP hS)
    | lt => exact lv_if_lt hx hb hdec ht (fun q => h.1 q okR okl (am_oks_tl oks) hlen H locs sl hlr hP hS) (fun q => h.2 q okR okl (am_oks_tl oks) hlen H locs sl hlr hP hS)
    | ge => exact lv_if_ge hx hb hdec ht (fun q => h.1 q okR okl (am_oks_tl oks) hlen H locs sl hlr hP hS) (fun q => h.2 q okR okl (am_oks_tl oks) hlen H locs sl hlr hP hS)
    | gt => exact lv_if_gt hx hb hdec ht (fun q => h.1 q okR okl (am_oks_tl oks) hlen H locs sl hlr hP hS) (fun q => h.2 q okR okl (am_oks_tl oks) hlen H locs sl hlr hP hS)
    | le => exact lv_if_le hx hb hdec ht (fun q => h.1 q okR okl (am_oks_tl oks) hlen H locs sl hlr hP hS) (fun q => h.2 q okR okl (am_oks_tl oks) hlen H locs sl hlr hP hS)
  case if_icmp cd off =>
    rw [am_okI, Bool.and_eq_true] at hI
    have hnx := Nat.eq_of_beq_eq_true hI.1
    subst hnx
    rw [Nat.add_sub_cancel_left] at hdec
    have ht := of_decide_eq_true hI.2
    obtain ⟨a, b, t, rfl, h⟩ := am_int2_inv h
    cases cd with
    | eq => exact lv_icmp_eq hx hb hdec ht (fun q => h.1 q okR okl (am_oks_tl (am_oks_tl oks)) hlen H locs sl hlr hP hS) (fun q => h.2 q okR okl (am_oks_tl (am_oks_tl oks)) hlen H locs sl hlr hP hS)
    | ne => exact lv_icmp_ne hx hb hdec ht (fun q => h.1 q okR okl (am_oks_tl (am_oks_tl oks)) hlen H locs sl hlr hP hS) (fun q => h.2 q okR okl (am_oks_tl (am_oks_tl oks)) hlen H locs sl hlr hP hS)
    | lt => exact lv_icmp_lt hx hb hdec ht (fun q => h.1 q okR okl (am_oks_tl (am_oks_tl oks)) hlen H locs sl hlr hP hS) (fun q => h.2 q okR okl (am_oks_tl (am_oks_tl oks)) hlen H locs sl hlr hP hS)
    | ge => exact lv_icmp_ge hx hb hdec ht (fun q => h.1 q okR okl (am_oks_tl (am_oks_tl oks)) hlen H locs sl hlr hP hS) (fun q => h.2 q okR okl (am_oks_tl (am_oks_tl oks)) hlen H locs sl hlr hP hS)
    | gt => exact lv_icmp_gt hx hb hdec ht (fun q => h.1 q okR okl (am_oks_tl (am_oks_tl oks)) hlen H locs sl hlr hP hS) (fun q => h.2 q okR okl (am_oks_tl (am_oks_tl oks)) hlen H locs sl hlr hP hS)
    | le => exact lv_icmp_le hx hb hdec ht (fun q => h.1 q okR okl (am_oks_tl (am_oks_tl oks)) hlen H locs sl hlr hP hS) (fun q => h.2 q okR okl (am_oks_tl (am_oks_tl oks)) hlen H locs sl hlr hP hS)
  case goto off =>
    rw [am_okI, Bool.and_eq_true] at hI
    have hnx := Nat.eq_of_beq_eq_true hI.1
    subst hnx
    rw [Nat.add_sub_cancel_left] at hdec
    exact lv_goto hx hb hdec (of_decide_eq_true hI.2) (h okR okl oks hlen H locs sl hlr hP hS)
  case tableswitch df lo hi' os =>
    rw [am_okI, Bool.and_eq_true, Bool.and_eq_true] at hI
    have hsz2 := of_decide_eq_true hI.1
    have hd0 := of_decide_eq_true hI.2.1
    have hos := List.all_eq_true.mp hI.2.2
    dsimp only [am_ex] at h
    split at h
    case h_2 => exact h.elim
    case h_1 a t =>
    by_cases h1 : a.toInt < lo
    · exact lv_tableOut hx hb hdec (Or.inl h1) (tgt := ((pc : Int) + df).toNat) (by omega) (am_tsw_out _ _ h (Or.inl h1) okR okl (am_oks_tl oks) hlen H locs sl hlr hP hS)
    · by_cases h2 : hi' < a.toInt
      · have hlo : lo + (os.toList.length : Int) ≤ a.toInt := by rw [Array.length_toList]; omega
        exact lv_tableOut hx hb hdec (Or.inr h2) (tgt := ((pc : Int) + df).toNat) (by omega) (am_tsw_out _ _ h (Or.inr hlo) okR okl (am_oks_tl oks) hlen H locs sl hlr hP hS)
      · have hlt : (a.toInt - lo).toNat < os.size := by omega
        have ho : os[(a.toInt - lo).toNat]? = some os[(a.toInt - lo).toNat] := Array.getElem?_eq_getElem hlt
        have ho2 : os.toList[(a.toInt - lo).toNat]? = some os[(a.toInt - lo).toNat] := by rw [Array.getElem?_toList]; exact ho
        have hpos := of_decide_eq_true (hos _ (List.mem_of_getElem? ho2))
        exact lv_tableIn hx hb hdec h1 h2 ho (tgt := ((pc : Int) + os[(a.toInt - lo).toNat]).toNat) (by omega) (am_tsw_in _ _ h _ _ ho2 (by omega) okR okl (am_oks_tl oks) hlen H locs sl hlr hP hS)
  case lookupswitch df ps =>
    rw [am_okI, Bool.and_eq_true, Bool.and_eq_true] at hI
    have hd0 := of_decide_eq_true hI.2.1
    dsimp only [am_ex] at h
    split at h
    case h_2 => exact h.elim
    case h_1 a t =>
    have hpos := am_off_pos (pc := pc) (d := df) (a := a.toInt) hd0 ps.toList hI.2.2
    exact lv_lookup hx hb hdec hI.1 rfl (tgt := ((pc : Int) + Op.lookupswitch.offset ps.toList df a.toInt).toNat) (by omega) (am_lsw_off _ h okR okl (am_oks_tl oks) hlen H locs sl hlr hP hS)
  case getfield idx =>
    rw [am_okI, Bool.and_eq_true, Bool.and_eq_true, Bool.and_eq_true] at hI
    have hnx := Nat.eq_of_beq_eq_true hI.1
    subst hnx
    rw [Nat.add_sub_cancel_left] at hdec
    have hx8 : x < 8 := Nat.le_of_ble_eq_true hI.2.1
    have hyn : y < am_nf x := Nat.le_of_ble_eq_true hI.2.2.1
    have hfl := List.mem_of_getElem? (of_decide_eq_true hI.2.2.2)
    dsimp only [am_ex] at h
    split at h
    case h_2 => exact h.elim
    case h_1 c' o t =>
    obtain ⟨hc', h⟩ := am_cond_inv h
    have hc' := Nat.eq_of_beq_eq_true hc'
    subst hc'
    obtain ⟨ho, hcl⟩ := am_oks_hd oks
    subst hcl
    obtain ⟨q0, hq0⟩ := List.getElem?_of_mem (am_cell_o ho)
    have hw := am_flW_ok _ (List.mem_map.mpr ⟨_, hfl, rfl⟩)
    have hdc := am_flW_decl _ hfl
    dsimp only at hdc
    refine va_get (D := D) (ci := am_cls o) (C := am_cn (am_cls o)) (T := am_TT (am_cls o)) (N := am_nf (am_cls o)) (ref := am_cn (am_cls o)) hx hb hts (am_u_in hx8) hown hK.1 hP q0 (am_ws_at hq0) (am_vw _ hx8) y hyn (hts _ hw) (fun z hz => by rw [hdc] at hz; exact hz) (am_fs_at hyn) hdec ?_
    exact h okR okl (am_oks_cons (am_okV_fld okR ho) (am_oks_tl oks)) hlen H locs sl hlr hP hS
  case putfield idx =>
    rw [am_okI, Bool.and_eq_true, Bool.and_eq_true, Bool.and_eq_true, Bool.and_eq_true] at hI
    have hnx := Nat.eq_of_beq_eq_true hI.1
    subst hnx
    rw [Nat.add_sub_cancel_left] at hdec
    have hx8 : x < 8 := Nat.le_of_ble_eq_true hI.2.1
    have hyn : y < am_nf x := Nat.le_of_ble_eq_true hI.2.2.1
    have hfl := List.mem_of_getElem? (of_decide_eq_true hI.2.2.2.1)
    have hfin : (am_TT x y).2.2.2 = false := by
      have := hI.2.2.2.2
      rw [Bool.not_eq_true'] at this
      exact this
    dsimp only [am_ex] at h
    split at h
    case h_2 => exact h.elim
    case h_1 a c' o t =>
    obtain ⟨hc', h⟩ := am_cond_inv h
    have hc' := Nat.eq_of_beq_eq_true hc'
    subst hc'
    obtain ⟨ho, hcl⟩ := am_oks_hd (am_oks_tl oks)
    subst hcl
    obtain ⟨q0, hq0⟩ := List.getElem?_of_mem (am_cell_o ho)
    have hw := am_flW_ok _ (List.mem_map.mpr ⟨_, hfl, rfl⟩)
    have hdc := am_flW_decl _ hfl
    dsimp only at hdc
    have hty := am_tyk _ hx8 y hyn
    have htk := am_tyok _ hx8 y hyn
    rcases am_put_inv h with ⟨n, v', hf, rfl, hh⟩ | ⟨c2, c3, o2, hf, rfl, hc3, hh⟩
    · rw [hf] at hty
      try dsimp only at hty
      refine va_put (D := D) (ci := am_cls o) (v := .int v') (ty := .int) (C := am_cn (am_cls o)) (T := am_TT (am_cls o)) (N := am_nf (am_cls o)) (ref := am_cn (am_cls o)) hx hb hts (am_u_in hx8) (am_ty _) (am_tyok _ hx8) (am_nmok _ hx8) hown hK.1 hP hD hS q0 (am_ws_at hq0) (am_vw _ hx8) y hyn (hts _ hw) (fun z hz => by rw [hdc] at hz; exact hz) hfin (by rw [htk, hty]) rfl rfl (by rw [am_fs_len]; exact hyn) hdec (fun H1 locs1 hP1 hD1 hS1 => ?_)
      rw [am_fs_set (M' := am_up M o y 0 v') (R' := R) hyn (by rw [hf]; show Value.int v' = Value.int _; simp [am_up]) (fun j hj => am_fld_num hf am_up_off hj), am_ws_set (M' := am_up M o y 0 v') (R' := R) (e := .inr (am_cls o, am_fs ad ar (am_up M o y 0 v') R o)) hq0 rfl (am_ent_num hf am_up_off)] at hP1
      exact hh okR okl (am_oks_tl (am_oks_tl oks)) hlen H1 locs1 sl hlr hP1 hS1
    · rw [hf] at hty
      try dsimp only at hty
      obtain ⟨cn, hcn⟩ : ∃ cn, am_ty (am_cls o) y = .object cn := by
        revert hty
        cases am_ty (am_cls o) y <;> intro hty <;> first | exact ⟨_, rfl⟩ | exact hty.elim
      refine va_put (D := D) (ci := am_cls o) (v := .ref (ad (o2, none))) (ty := .object cn) (C := am_cn (am_cls o)) (T := am_TT (am_cls o)) (N := am_nf (am_cls o)) (ref := am_cn (am_cls o)) hx hb hts (am_u_in hx8) (am_ty _) (am_tyok _ hx8) (am_nmok _ hx8) hown hK.1 hP hD hS q0 (am_ws_at hq0) (am_vw _ hx8) y hyn (hts _ hw) (fun z hz => by rw [hdc] at hz; exact hz) hfin (by rw [htk, hcn]) rfl rfl (by rw [am_fs_len]; exact hyn) hdec (fun H1 locs1 hP1 hD1 hS1 => ?_)
      rw [am_fs_set (M' := M) (R' := am_upR R o y o2) hyn (by rw [hf]; show Value.ref _ = Value.ref _; simp [am_upR]) (fun j hj => am_fld_ref hj), am_ws_set (M' := M) (R' := am_upR R o y o2) (e := .inr (am_cls o, am_fs ad ar M (am_upR R o y o2) o)) hq0 rfl am_ent_ref] at hP1
      exact hh (am_okR_up okR hf (am_oks_hd oks) hc3) okl (am_oks_tl (am_oks_tl oks)) hlen H1 locs1 sl hlr hP1 hS1
  case getstatic idx =>
    rw [am_okI, Bool.and_eq_true, Bool.and_eq_true] at hI
    have hnx := Nat.eq_of_beq_eq_true hI.1
    subst hnx
    rw [Nat.add_sub_cancel_left] at hdec
    have hx2 : x < 2 := Nat.le_of_ble_eq_true hI.2.1
    have hg := am_gW_ok _ (List.mem_map.mpr ⟨_, List.mem_of_getElem? (of_decide_eq_true hI.2.2), rfl⟩)
    refine va_gets hx hb (hRO.2 x hx2) hS hown (hts _ hg) (fun _ q => q) hdec ?_
    exact h okR okl (am_oks_cons ⟨by omega, by rcases (by omega : x = 0 ∨ x = 1) with rfl | rfl; exact hSL.1.symm; exact hSL.2.symm⟩ oks) hlen H locs sl hlr hP hS
  case iaload =>
    have hnx : nx = pc + 1 := Nat.eq_of_beq_eq_true hI
    subst hnx
    rw [Nat.add_sub_cancel_left] at hdec
    dsimp only [am_ex] at h
    split at h
    case h_3 => exact h.elim
    case h_1 i o k n t =>
      obtain ⟨ho, hf⟩ := am_oks_hd (am_oks_tl oks)
      obtain ⟨q0, hq0⟩ := List.getElem?_of_mem (am_cell_a ho hf (Or.inl rfl))
      refine va_iald (D := D) (f := M o k) (n := n) (cA := tI) hx hb hK.1 hP q0 0 (by rw [am_ws_at hq0]; unfold am_ent; dsimp only; rw [hf]; rfl) rfl h.1 hdec ?_
      exact h.2 okR okl (am_oks_cons trivial (am_oks_tl (am_oks_tl oks))) hlen H locs sl hlr hP hS
    case h_2 i j n t =>
      obtain ⟨hj, hn⟩ := am_oks_hd (am_oks_tl oks)
      refine va_ti hx hb (hRO.1 j hj) hS (by rw [← hn]; exact h.1) rfl hdec ?_
      exact h.2 okR okl (am_oks_cons trivial (am_oks_tl (am_oks_tl oks))) hlen H locs sl hlr hP hS
  case baload =>
    have hnx : nx = pc + 1 := Nat.eq_of_beq_eq_true hI
    subst hnx
    rw [Nat.add_sub_cancel_left] at hdec
    dsimp only [am_ex] at h
    split at h
    case h_2 => exact h.elim
    case h_1 i o k n t =>
      obtain ⟨ho, hf⟩ := am_oks_hd (am_oks_tl oks)
      obtain ⟨q0, hq0⟩ := List.getElem?_of_mem (am_cell_a ho hf (Or.inr rfl))
      refine va_zald (D := D) (f := M o k) (n := n) (cA := tZ) hx hb hK.1 hP q0 1 (by rw [am_ws_at hq0]; unfold am_ent; dsimp only; rw [hf]; rfl) rfl h.1 hdec ?_
      exact h.2 okR okl (am_oks_cons trivial (am_oks_tl (am_oks_tl oks))) hlen H locs sl hlr hP hS
  case iastore =>
    have hnx : nx = pc + 1 := Nat.eq_of_beq_eq_true hI
    subst hnx
    rw [Nat.add_sub_cancel_left] at hdec
    dsimp only [am_ex] at h
    split at h
    case h_2 => exact h.elim
    case h_1 a i o k n t =>
      obtain ⟨ho, hf⟩ := am_oks_hd (am_oks_tl (am_oks_tl oks))
      obtain ⟨q0, hq0⟩ := List.getElem?_of_mem (am_cell_a ho hf (Or.inl rfl))
      refine va_iast (D := D) (f := M o k) (n := n) (cA := tI) hx hb hK.1 hP hD hS q0 0 (by rw [am_ws_at hq0]; unfold am_ent; dsimp only; rw [hf]; rfl) rfl h.1 hdec (fun H1 locs1 hP1 hD1 hS1 => ?_)
      rw [am_ws_set (M' := am_up M o k i.toNatClampNeg a) (R' := R) hq0 (by unfold am_ent; dsimp only; rw [hf, am_up_row]; rfl) (am_ent_row hf (Or.inl rfl) am_up_off)] at hP1
      exact h.2 okR okl (am_oks_tl (am_oks_tl (am_oks_tl oks))) hlen H1 locs1 sl hlr hP1 hS1
  case bastore =>
    have hnx : nx = pc + 1 := Nat.eq_of_beq_eq_true hI
    subst hnx
    rw [Nat.add_sub_cancel_left] at hdec
    dsimp only [am_ex] at h
    split at h
    case h_2 => exact h.elim
    case h_1 a i o k n t =>
      obtain ⟨ho, hf⟩ := am_oks_hd (am_oks_tl (am_oks_tl oks))
      obtain ⟨q0, hq0⟩ := List.getElem?_of_mem (am_cell_a ho hf (Or.inr rfl))
      have hnar : vp_nar .boolean a = a := h.2.1
      refine va_zast (D := D) (f := M o k) (n := n) (cA := tZ) hx hb hK.1 hP hD hS q0 1 (by rw [am_ws_at hq0]; unfold am_ent; dsimp only; rw [hf]; rfl) rfl h.1 hdec (fun H1 locs1 hP1 hD1 hS1 => ?_)
      rw [hnar, am_ws_set (M' := am_up M o k i.toNatClampNeg a) (R' := R) hq0 (by unfold am_ent; dsimp only; rw [hf, am_up_row]; rfl) (am_ent_row hf (Or.inr rfl) am_up_off)] at hP1
      exact h.2.2 okR okl (am_oks_tl (am_oks_tl (am_oks_tl oks))) hlen H1 locs1 sl hlr hP1 hS1
  case arraylength =>
    have hnx : nx = pc + 1 := Nat.eq_of_beq_eq_true hI
    subst hnx
    rw [Nat.add_sub_cancel_left] at hdec
    dsimp only [am_ex] at h
    split at h
    case h_3 => exact h.elim
    case h_1 o k n b t =>
      obtain ⟨ho, hf⟩ := am_oks_hd oks
      cases b with
      | false =>
        obtain ⟨q0, hq0⟩ := List.getElem?_of_mem (am_cell_a ho hf (Or.inl rfl))
        exact va_alen (D := D) (x := (n, .inl (M o k))) (cA := tI) (ty := .int) hx hb hK.1 hP q0 0 (by rw [am_ws_at hq0]; unfold am_ent; dsimp only; rw [hf]; rfl) rfl rfl hdec (h okR okl (am_oks_cons trivial (am_oks_tl oks)) hlen H locs sl hlr hP hS)
      | true =>
        obtain ⟨q0, hq0⟩ := List.getElem?_of_mem (am_cell_a ho hf (Or.inr rfl))
        exact va_alen (D := D) (x := (n, .inl (M o k))) (cA := tZ) (ty := .boolean) hx hb hK.1 hP q0 1 (by rw [am_ws_at hq0]; unfold am_ent; dsimp only; rw [hf]; rfl) rfl rfl hdec (h okR okl (am_oks_cons trivial (am_oks_tl oks)) hlen H locs sl hlr hP hS)
    case h_2 j n t =>
      obtain ⟨hj, hn⟩ := am_oks_hd oks
      exact va_tlen hx hb (hRO.1 j hj) hS (by rw [← hn]) hdec (h okR okl (am_oks_cons trivial (am_oks_tl oks)) hlen H locs sl hlr hP hS)
  case ireturn =>
    obtain ⟨hnx, hx01⟩ := am_okI_ir hI
    subst hnx
    rw [Nat.add_sub_cancel_left] at hdec
    dsimp only [am_ex] at h
    split at h
    case h_2 => exact h.elim
    case h_1 a =>
    rcases hx01 with ⟨rfl, hrt⟩ | ⟨rfl, hrt⟩
    · exact hret (some (aI a)) M R pc H locs sl h okR (fun v hv => by cases hv; trivial) hP hS (Or.inl ⟨a, rfl, hdec, Or.inl hrt⟩)
    · exact hret (some (aI a)) M R pc H locs sl h.2 okR (fun v hv => by cases hv; trivial) hP hS (Or.inl ⟨a, rfl, hdec, Or.inr ⟨hrt, h.1⟩⟩)
  case areturn =>
    obtain ⟨hnx, n, hn⟩ := am_okI_ar hI
    subst hnx
    rw [Nat.add_sub_cancel_left] at hdec
    dsimp only [am_ex] at h
    split at h
    case h_2 => exact h.elim
    case h_1 c' o =>
    exact hret (some (aO c' o)) M R pc H locs sl h okR (fun v hv => by cases hv; exact am_oks_hd oks) hP hS (Or.inr (Or.inl ⟨c', o, rfl, hdec, n, hn⟩))
  case return_ =>
    rw [am_okI, Bool.and_eq_true] at hI
    have hnx := Nat.eq_of_beq_eq_true hI.1
    subst hnx
    rw [Nat.add_sub_cancel_left] at hdec
    dsimp only [am_ex] at h
    split at h
    case h_2 => exact h.elim
    case h_1 =>
    exact hret none M R pc H locs sl h okR (fun v hv => by cases hv) hP hS (Or.inr (Or.inr ⟨rfl, hdec, of_decide_eq_true hI.2⟩))
  case invokevirtual idx =>
    rw [am_okI, Bool.and_eq_true, Bool.and_eq_true, Bool.and_eq_true] at hI
    have hnx := Nat.eq_of_beq_eq_true hI.1
    subst hnx
    rw [Nat.add_sub_cancel_left] at hdec
    have hz := Nat.eq_of_beq_eq_true hI.2.1
    have hml0 := of_decide_eq_true hI.2.2.1
    have hI3 := hI.2.2.2
    split at hI3
    case h_2 => cases hI3
    case h_1 md' hmd' =>
    rw [Bool.and_eq_true, Bool.and_eq_true, Bool.and_eq_true] at hI3
    have hcls := of_decide_eq_true hI3.2.1
    have hz8 : z % 100 < 8 := Nat.le_of_ble_eq_true hI3.2.2.1
    have hpar := of_decide_eq_true hI3.2.2.2
    have hin' : md' ∈ am_ms0 := List.mem_of_getElem? hmd'
    have hyx := am_y_of hmd'
    dsimp only [am_ex] at h
    unfold am_call at h
    obtain ⟨hg, h⟩ := am_cond_inv h
    rw [Bool.and_eq_true] at hg
    have hyl := Nat.le_of_ble_eq_true hg.1
    have hcat := Nat.le_of_ble_eq_true hg.2
    split at h
    case h_2 hne => exact absurd hz hne
    case h_1 hz0 =>
    split at h
    case h_2 => exact h.elim
    case h_1 c' o as has =>
    obtain ⟨hc', h⟩ := am_cond_inv h
    have hc' := Nat.eq_of_beq_eq_true hc'
    subst hc'
    have hst := am_stk has
    have okas : am_oks SL (aO (z % 100) o :: as) := fun q hq => oks q (by rw [hst]; exact List.mem_append_left _ (List.mem_reverse.mpr hq))
    have okd : am_oks SL (st.drop y) := fun q hq => oks q (List.mem_of_mem_drop hq)
    obtain ⟨ho, hcl⟩ := am_oks_hd okas
    obtain ⟨q0, hq0⟩ := List.getElem?_of_mem (am_cell_o ho)
    have hMet := hsim x md' hmd' _ M R _ h okR okas
    have hlen2 : as.length + 1 = y := by
      have := congrArg List.length has
      simp only [List.length_reverse, List.length_take, List.length_cons] at this
      omega
    have hn : (parseMethodDescriptor md'.1.desc).map (fun d => d.parameters.length) = some as.length := by
      cases hpd : parseMethodDescriptor md'.1.desc with
      | none => rw [hpd] at hpar; cases hpar
      | some dd =>
        rw [hpd] at hpar
        have : dd.parameters.length + 1 = y := Option.some.inj hpar
        have e2 : dd.parameters.length = as.length := by omega
        show some dd.parameters.length = some as.length
        rw [e2]
    have hR := am_chkR_inv hCe hmd'
    have hf0 : (am_mlW.filter (fun q => Nat.beq q.2.2.2 0)) = am_mlW.filter (fun q => Nat.beq q.2.2.2 0) := rfl
    have hmem := List.mem_of_getElem? hml0
    have hl1 := am_mlW_ok _ (List.mem_map.mpr ⟨_, List.mem_filter.mpr ⟨hmem, rfl⟩, rfl⟩)
    have hl2 := am_mlW_inst _ (List.mem_map.mpr ⟨_, List.mem_filter.mpr ⟨hmem, rfl⟩, rfl⟩)
    have hl3 := am_mlW_sel _ (List.mem_map.mpr ⟨_, List.mem_filter.mpr ⟨hmem, rfl⟩, rfl⟩)
    unfold am_wM at hl1
    dsimp only at hl1 hl2 hl3
    rw [hyx] at hl1 hl2 hl3
    have hini := am_init_ok _ (List.mem_map.mpr ⟨md', hin', rfl⟩)
    have hnm := am_names md' hin'
    have hcw : CallW Rm s args (am_cn md.2.2.2.2.1) md'.1.cls idx md'.1 md'.2.1 md'.2.2.1 md'.2.2.2.1 (am_wsM md') (am_room x) 0 0 as.length :=
      ⟨callB_of as.length hts (am_good hin') rfl rfl rfl (hts _ hini) (hts _ hl1) ⟨hnm.2.1, hnm.2.2, hn⟩ hR, hts _ hl2, hts _ hl3⟩
    have hrec := va_recv hK.1 hP (am_vw _ hz8) (q0 := q0) (by rw [am_ws_at hq0]; unfold am_ent; dsimp only; rw [hcl])
    dsimp only at hrec
    rw [← hcls] at hrec
    have hstm : st.map (am_con ad ar) = (as.map (am_con ad ar)).reverse ++ Value.ref (ad (o, none)) :: (st.drop y).map (am_con ad ar) := by
      conv => lhs; rw [hst]
      rw [List.map_append, List.reverse_cons, List.map_append, List.map_reverse, List.append_assoc]
      rfl
    rw [hstm]
    have hrun := va_runV (H := H) (locs := locs) (g := F0 m pc sl ((as.map (am_con ad ar)).reverse ++ Value.ref (ad (o, none)) :: (st.drop y).map (am_con ad ar))) (b := ad (o, none)) (As := as.map (am_con ad ar)) (rest := (st.drop y).map (am_con ad ar)) ⟨hx, hb, hml, hown, hts⟩ hMet hcw ⟨am_blind, hrec, am_pre hK hRO hAA hP hS⟩ rfl (List.length_map _) hsz rfl (lv_room (by rw [am_catS_eq]; exact hcat)) hdec (cells := cells) (slots := slots) ⟨hcs, hss⟩ (p := p) (l := l) (e := e) (below := below) (meth := meth)
    refine am_goon hrun hS hAA (fun r M' R' H1 locs1 hq hoR hoV hP1 hS1 => ?_)
    exact am_rk_push hq hoR okl (by cases r with | none => exact okd | some v => exact am_oks_cons (hoV v rfl) okd) hlen H1 locs1 sl hlr hP1 hS1
  case invokestatic idx =>
    rw [am_okI, Bool.and_eq_true] at hI
    have hnx := Nat.eq_of_beq_eq_true hI.1
    subst hnx
    rw [Nat.add_sub_cancel_left] at hdec
    have hI2 := hI.2
    dsimp only [am_ex] at h
    unfold am_okC at hCe
    dsimp only at hCe
    have key : ∀ (md' : am_D), am_ms0[x]? = some md' → (parseMethodDescriptor md'.1.desc).map (fun d => d.parameters.length) = some y → am_call (am_WM E d) x y z st M R (fun t M' R' => am_Xw p l e Rm s m args below meth c cells slots Qw md A D ad ar tI tZ SL (pc + 3) ls t M' R') → z / 100 % 10 ≠ 0 → am_chkR Rm.frames Rm.locals x = true →
        ((Cond.static md'.1 ∈ am_T ∧ Cond.methodLink (am_cn md.2.2.2.2.1) idx md'.1 ∈ am_T) ∨ (Cond.static md'.1 ∈ am_T ∧ va_Nw (.methodLinkNest (am_cn md.2.2.2.2.1) idx md'.1 RX6) s)) → W p l e Rm s m args below meth c H locs cells slots Qw (F0 m pc sl (st.map (am_con ad ar))) := by
      intro md' hmd' hpar h hz hRc hw
      have hin' : md' ∈ am_ms0 := List.mem_of_getElem? hmd'
      unfold am_call at h
      obtain ⟨hg, h⟩ := am_cond_inv h
      rw [Bool.and_eq_true] at hg
      have hyl := Nat.le_of_ble_eq_true hg.1
      have hcat := Nat.le_of_ble_eq_true hg.2
      split at h
      · next hz0 => exact absurd hz0 hz
      · generalize has : (st.take y).reverse = as at h
        have hst := am_stk has
        have okas : am_oks SL as := fun q hq => oks q (by rw [hst]; exact List.mem_append_left _ (List.mem_reverse.mpr hq))
        have okd : am_oks SL (st.drop y) := fun q hq => oks q (List.mem_of_mem_drop hq)
        have hMet := hsim x md' hmd' _ M R _ h okR okas
        have hlen2 : as.length = y := by rw [← has, List.length_reverse, List.length_take]; omega
        rw [← hlen2] at hpar
        have hR := am_chkR_inv hRc hmd'
        have hini := am_init_ok _ (List.mem_map.mpr ⟨md', hin', rfl⟩)
        have hnm := am_names md' hin'
        have hstm : st.map (am_con ad ar) = (as.map (am_con ad ar)).reverse ++ (st.drop y).map (am_con ad ar) := by
          conv => lhs; rw [hst]
          rw [List.map_append, List.map_reverse]
        rw [hstm]
        have fin : ∀ {asv : Array Value}, va_Run p l e Rm s m args below meth c H locs cells slots 0 0 (F0 m pc sl ((as.map (am_con ad ar)).reverse ++ (st.drop y).map (am_con ad ar))) ((st.drop y).map (am_con ad ar)) (am_Qc D ad ar tI tZ SL (fun r M' R' => am_rk (z / 1000) r (st.drop y) (fun t => am_Xw p l e Rm s m args below meth c cells slots Qw md A D ad ar tI tZ SL (pc + 3) ls t M' R')) asv) (am_A ad) → W p l e Rm s m args below meth c H locs cells slots Qw (F0 m pc sl ((as.map (am_con ad ar)).reverse ++ (st.drop y).map (am_con ad ar))) := by
          intro asv hrun
          refine am_goon hrun hS hAA (fun r M' R' H1 locs1 hq hoR hoV hP1 hS1 => ?_)
          exact am_rk_push hq hoR okl (by cases r with | none => exact okd | some v => exact am_oks_cons (hoV v rfl) okd) hlen H1 locs1 sl hlr hP1 hS1
        rcases hw with ⟨hw1, hw2⟩ | ⟨hw1, hw2⟩
        · exact fin (va_runS (H := H) (locs := locs) (As := as.map (am_con ad ar)) (rest := (st.drop y).map (am_con ad ar)) ⟨hx, hb, hml, hown, hts⟩ hMet ⟨callB_of as.length hts (am_good hin') rfl rfl rfl (hts _ hini) (hts _ hw2) ⟨hnm.2.1, hnm.2.2, hpar⟩ hR, hts _ hw1⟩ ⟨am_blind, am_pre hK hRO hAA hP hS⟩ rfl (List.length_map _) hsz rfl (lv_room (by rw [am_catS_eq]; exact hcat)) hdec ⟨hcs, hss⟩)
        · exact fin (va_runSN (H := H) (locs := locs) (As := as.map (am_con ad ar)) (rest := (st.drop y).map (am_con ad ar)) ⟨hx, hb, hml, hown, hts⟩ hMet ⟨va_cnB as.length hts (am_good hin') rfl rfl rfl hw2 (hts _ hini) ⟨hnm.2.1, hnm.2.2, hpar⟩ hR, hts _ hw1, trivial⟩ ⟨am_blind, am_pre hK hRO hAA hP hS⟩ rfl (List.length_map _) hsz rfl (lv_room (by rw [am_catS_eq]; exact hcat)) hdec ⟨hcs, hss⟩)
    split at hI2
    · next hz =>
      rw [hz] at h hCe
      rw [Bool.and_eq_true] at hI2
      have hmem := List.mem_of_getElem? (of_decide_eq_true hI2.1)
      have hI3 := hI2.2
      split at hI3
      case h_2 => cases hI3
      case h_1 md' hmd' =>
      have hl1 := am_mlW_ok _ (List.mem_map.mpr ⟨_, List.mem_filter.mpr ⟨hmem, rfl⟩, rfl⟩)
      have hl2 := am_mlW_stat _ (List.mem_map.mpr ⟨_, List.mem_filter.mpr ⟨hmem, rfl⟩, rfl⟩)
      unfold am_wM at hl1
      dsimp only at hl1 hl2
      rw [am_y_of hmd'] at hl1 hl2
      exact key md' hmd' (of_decide_eq_true hI3) h (by omega) hCe (Or.inl ⟨hl2, hl1⟩)
    · next hz =>
      rw [hz] at h hCe
      rw [Bool.and_eq_true] at hI2
      have hmem := List.mem_of_getElem? (of_decide_eq_true hI2.1)
      have hI3 := hI2.2
      split at hI3
      case h_2 => cases hI3
      case h_1 md' hmd' =>
      have hl2 := am_mlW_stat _ (List.mem_map.mpr ⟨_, List.mem_filter.mpr ⟨hmem, rfl⟩, rfl⟩)
      have hl1 := hK.2 _ (List.mem_filter.mpr ⟨hmem, rfl⟩)
      dsimp only at hl1 hl2
      rw [am_y_of hmd'] at hl1 hl2
      exact key md' hmd' (of_decide_eq_true hI3) h (by omega) hCe (Or.inr ⟨hl2, hl1⟩)
    · next hz =>
      rw [hz] at h hCe
      have hmem := List.mem_of_getElem? (of_decide_eq_true hI2)
      have hl1 := am_acl_ok _ (List.mem_map.mpr ⟨_, List.mem_filter.mpr ⟨hmem, rfl⟩, rfl⟩)
      dsimp only at hl1
      have hCe := Bool.and_eq_true_iff.mp (show (Nat.ble 1 Rm.frames && Nat.ble 26 Rm.locals) = true from hCe)
      have hr1 := Nat.le_of_ble_eq_true hCe.1
      have hr2 := Nat.le_of_ble_eq_true hCe.2
      have h : am_copy st M (fun t M' => am_Xw p l e Rm s m args below meth c cells slots Qw md A D ad ar tI tZ SL (pc + 3) ls t M' R) := h
      obtain ⟨n, dp, o1, k1, n1, sp, o0, k0, n0, t, rfl, g1, g2, g3, g4, g5, hcat, h⟩ := am_copy_inv h
      obtain ⟨ho1, hf1⟩ := am_oks_hd (am_oks_tl (am_oks_tl oks))
      obtain ⟨ho0, hf0⟩ := am_oks_hd (am_oks_tl (am_oks_tl (am_oks_tl (am_oks_tl oks))))
      obtain ⟨q0, hq0⟩ := List.getElem?_of_mem (am_cell_a ho0 hf0 (Or.inl rfl))
      obtain ⟨q1, hq1⟩ := List.getElem?_of_mem (am_cell_a ho1 hf1 (Or.inl rfl))
      refine va_copyi (D := D) (f := M o0 k0) (g := M o1 k1) (n0 := n0) (n1 := n1) (c0 := tI) (c1 := tI) (ty := .int) hx hb (hml.trans hsz.symm) hown (hts _ hl1) (hts _ (am_ac_ok _ (by simp [am_ac]))) (hts _ (am_ac_ok _ (by simp [am_ac]))) (hts _ (am_ac_ok _ (by simp [am_ac]))) hK.1 hP hD hS q0 q1 0 0
        (by rw [am_ws_at hq0]; unfold am_ent; dsimp only; rw [hf0]; rfl) (by rw [am_ws_at hq1]; unfold am_ent; dsimp only; rw [hf1]; rfl) rfl rfl rfl g1 g2 g3 g4 g5 (fun _ _ => rfl) hr1 (by rw [am_catS_eq]; show am_catS t + (7 + 11) ≤ _; omega) hdec (fun H1 locs1 hP1 hD1 hS1 => ?_)
      rw [am_ws_set (M' := am_cp M o0 k0 sp.toNatClampNeg o1 k1 dp.toNatClampNeg n.toNatClampNeg) (R' := R) hq1 (by unfold am_ent; dsimp only; rw [hf1, am_cp_row]; rfl) (am_ent_row hf1 (Or.inl rfl) am_cp_off)] at hP1
      exact h okR okl (am_oks_tl (am_oks_tl (am_oks_tl (am_oks_tl (am_oks_tl oks))))) hlen H1 locs1 sl hlr hP1 hS1
    · next hz =>
      rw [hz] at h hCe
      have hmem := List.mem_of_getElem? (of_decide_eq_true hI2)
      have hl1 := am_maxl_ok _ (List.mem_map.mpr ⟨_, List.mem_filter.mpr ⟨hmem, rfl⟩, rfl⟩)
      dsimp only at hl1
      have hCe := Bool.and_eq_true_iff.mp (show (Nat.ble 1 Rm.frames && Nat.ble 21 Rm.locals) = true from hCe)
      have h : am_int2 st (fun a b t => bif Nat.ble (am_catS t) 8 then am_Xw p l e Rm s m args below meth c cells slots Qw md A D ad ar tI tZ SL (pc + 3) ls (aI (if a < b then b else a) :: t) M R else False) := h
      have hr1 := Nat.le_of_ble_eq_true hCe.1
      have hr2 := Nat.le_of_ble_eq_true hCe.2
      obtain ⟨a, b, t, rfl, h⟩ := am_int2_inv h
      obtain ⟨hcat, h⟩ := am_cond_inv h
      have hcat := Nat.le_of_ble_eq_true hcat
      exact va_mmax hx hb (hml.trans hsz.symm) hown (hts _ hl1) (hts _ am_maxs_ok) (hts _ am_mathi_ok) (hts _ am_maxc_ok) hr1 (by rw [am_catS_eq]; omega) hcs hss hdec (h okR okl (am_oks_cons trivial (am_oks_tl (am_oks_tl oks))) hlen H locs sl hlr hP hS)
    · next hz =>
      rw [hz] at h hCe
      have hmem := List.mem_of_getElem? (of_decide_eq_true hI2)
      have hl1 := am_minl_ok _ (List.mem_map.mpr ⟨_, List.mem_filter.mpr ⟨hmem, rfl⟩, rfl⟩)
      dsimp only at hl1
      have hCe := Bool.and_eq_true_iff.mp (show (Nat.ble 1 Rm.frames && Nat.ble 21 Rm.locals) = true from hCe)
      have h : am_int2 st (fun a b t => bif Nat.ble (am_catS t) 8 then am_Xw p l e Rm s m args below meth c cells slots Qw md A D ad ar tI tZ SL (pc + 3) ls (aI (if b < a then b else a) :: t) M R else False) := h
      have hr1 := Nat.le_of_ble_eq_true hCe.1
      have hr2 := Nat.le_of_ble_eq_true hCe.2
      obtain ⟨a, b, t, rfl, h⟩ := am_int2_inv h
      obtain ⟨hcat, h⟩ := am_cond_inv h
      have hcat := Nat.le_of_ble_eq_true hcat
      exact va_mmin hx hb (hml.trans hsz.symm) hown (hts _ hl1) (hts _ am_mins_ok) (hts _ am_mathi_ok) (hts _ am_minc_ok) hr1 (by rw [am_catS_eq]; omega) hcs hss hdec (h okR okl (am_oks_cons trivial (am_oks_tl (am_oks_tl oks))) hlen H locs sl hlr hP hS)
    · cases hI2
end AmS
