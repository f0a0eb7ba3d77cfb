/-! the constructors of the objects -/
def ctY (c : Nat) : MethodName := ⟨am_cn c, "<init>", "()V"⟩
def ctC (c : Nat) : ByteArray := ([prog_2_method_1_code, prog_3_method_1_code, prog_4_method_1_code, prog_5_method_1_code, prog_6_method_1_code, prog_7_method_1_code, prog_1_method_1_code, prog_9_method_1_code] : List ByteArray).getD c prog_1_method_1_code
def ctw (c : Nat) : List Cond := Cond.code (ctY c) (ctC c) 1 none :: am_T
theorem ct_code : ∀ w ∈ (List.range 8).map (fun c => Cond.code (ctY c) (ctC c) 1 none), w ∈ am_T := am_chk_ok _ [223, 279, 108, 80, 114, 253, 72, 788] (by decide +kernel)
def ctMi (c : Nat) : Nat := ([3, 3, 3, 3, 3, 3, 1, 1] : List Nat).getD c 0
theorem ct_oi : ∀ w ∈ (List.range 8).map (fun c => Cond.methodLink (am_cn c) (ctMi c) Lib.objectInit), w ∈ am_T := am_chk_ok _ [224, 280, 109, 81, 115, 254, 73, 789] (by decide +kernel)
theorem ct_inst : ∀ w ∈ (List.range 8).map (fun c => Cond.instantiable (am_cn c) (am_nf c)), w ∈ am_T := am_chk_ok _ [220, 276, 105, 77, 111, 250, 69, 785] (by decide +kernel)
theorem ct_ini : ∀ w ∈ (List.range 8).map (fun c => Cond.initialized (am_cn c)), w ∈ am_T := am_chk_ok _ [61, 63, 59, 58, 60, 62, 57, 64] (by decide +kernel)
theorem ct_im : ∀ w ∈ (List.range 8).map (fun c => Cond.instanceMethod (ctY c)), w ∈ am_T := am_chk_ok _ [222, 278, 107, 79, 113, 252, 71, 787] (by decide +kernel)
theorem ct_obj : ∀ w ∈ [Cond.instanceMethod Lib.objectInit, Cond.code Lib.objectInit ⟨#[0xb1]⟩ 1 none], w ∈ am_T := am_chk_ok _ [74, 75] (by decide +kernel)
def ctR0 : List (Nat × Nat × Nat) := [(2, 1, 9), (3, 1, 15), (4, 1, 18), (5, 1, 21), (6, 1, 24)]
theorem ctR0_w : ∀ w ∈ ctR0.map (ctWf 0), w ∈ am_T := am_chk_ok _ [229, 230, 231, 232, 233] (by decide +kernel)
def ctR1 : List (Nat × Nat × Nat) := [(0, 1, 9), (1, 1, 15), (2, 1, 18)]
theorem ctR1_w : ∀ w ∈ ctR1.map (ctWf 1), w ∈ am_T := am_chk_ok _ [281, 282, 283] (by decide +kernel)
def ctR2 : List (Nat × Nat × Nat) := [(5, 0, 9), (6, 0, 15), (7, 1, 18), (8, 1, 21), (9, 1, 24)]
theorem ctR2_w : ∀ w ∈ ctR2.map (ctWf 2), w ∈ am_T := am_chk_ok _ [183, 184, 185, 187, 189] (by decide +kernel)
def ctR3 : List (Nat × Nat × Nat) := [(0, 2, 9)]
theorem ctR3_w : ∀ w ∈ ctR3.map (ctWf 3), w ∈ am_T := am_chk_ok _ [82] (by decide +kernel)
theorem ctN3_5 : ctWf 3 (5, 0, 15) ∈ am_T := am_chk_ok [ctWf 3 (5, 0, 15)] [88] (by decide +kernel) _ List.mem_cons_self
def ctR4 : List (Nat × Nat × Nat) := [(4, 1, 9), (5, 1, 15), (6, 1, 18), (7, 1, 21), (8, 1, 24), (9, 1, 27), (10, 1, 30)]
theorem ctR4_w : ∀ w ∈ ctR4.map (ctWf 4), w ∈ am_T := am_chk_ok _ [128, 130, 132, 134, 137, 141, 144] (by decide +kernel)
def ctR5 : List (Nat × Nat × Nat) := [(0, 0, 9), (1, 1, 15)]
theorem ctR5_w : ∀ w ∈ ctR5.map (ctWf 5), w ∈ am_T := am_chk_ok _ [255, 257] (by decide +kernel)
theorem ctN6_7 : ctWf 6 (7, 0, 42) ∈ am_T := am_chk_ok [ctWf 6 (7, 0, 42)] [313] (by decide +kernel) _ List.mem_cons_self
theorem ctN6_8 : ctWf 6 (8, 0, 46) ∈ am_T := am_chk_ok [ctWf 6 (8, 0, 46)] [314] (by decide +kernel) _ List.mem_cons_self
def ctR7 : List (Nat × Nat × Nat) := [(3, 1, 7), (5, 0, 13), (6, 0, 16), (8, 1, 19), (9, 1, 22), (10, 1, 25), (11, 1, 28), (13, 2, 31)]
theorem ctR7_w : ∀ w ∈ ctR7.map (ctWf 7), w ∈ am_T := am_chk_ok _ [793, 795, 796, 798, 799, 800, 801, 803] (by decide +kernel)
def ctR7b : List (Nat × Nat × Nat) := [(19, 0, 38), (21, 1, 41), (22, 1, 44), (23, 1, 47), (24, 1, 50), (25, 1, 53), (27, 0, 56), (28, 0, 59), (30, 1, 62), (31, 1, 65), (32, 1, 68), (34, 1, 71), (35, 1, 74), (39, 1, 77), (40, 1, 80), (41, 1, 83), (42, 2, 87), (44, 1, 90), (45, 1, 93), (46, 1, 96), (47, 0, 99)]
theorem ctR7b_w : ∀ w ∈ ctR7b.map (ctWf 7), w ∈ am_T := am_chk_ok _ [809, 811, 812, 813, 814, 815, 817, 818, 820, 821, 822, 824, 825, 829, 830, 831, 832, 834, 835, 836, 837] (by decide +kernel)
theorem ctN7_15 : ctWf 7 (15, 0, 34) ∈ am_T := am_chk_ok [ctWf 7 (15, 0, 34)] [805] (by decide +kernel) _ List.mem_cons_self
theorem ctN7_0 : ctWf 7 (0, 0, 102) ∈ am_T := am_chk_ok [ctWf 7 (0, 0, 102)] [790] (by decide +kernel) _ List.mem_cons_self
theorem ct_at {f : Nat → Cond} {c : Nat} (h : ∀ w ∈ (List.range 8).map f, w ∈ am_T) (h8 : c < 8) : f c ∈ am_T := h _ (List.mem_map.mpr ⟨c, List.mem_range.mpr h8, rfl⟩)
theorem ct_good {c : Nat} (h8 : c < 8) : GoodIn am_T (ctw c) := by
  intro w hw
  have h1 : w ∈ am_T := by
    rcases List.mem_cons.mp hw with e | h
    · rw [e]; exact ct_at (f := fun c => Cond.code (ctY c) (ctC c) 1 none) ct_code h8
    · exact h
  exact ⟨h1, good_of_word (List.mem_filter.mp h1).2⟩
theorem ct_nm : ∀ c, c < 8 → plainName (am_cn c) = true ∧ (ctY c).cls ≠ "java/lang/invoke/MethodHandle" ∧ (ctY c).cls ≠ "java/lang/invoke/VarHandle" ∧ (parseMethodDescriptor (ctY c).desc).map (fun d => d.parameters.length) = some 0 := by
  have h : (List.range 8).all (fun c => plainName (am_cn c) && (decide ((ctY c).cls ≠ "java/lang/invoke/MethodHandle") && (decide ((ctY c).cls ≠ "java/lang/invoke/VarHandle") && decide ((parseMethodDescriptor (ctY c).desc).map (fun d => d.parameters.length) = some 0)))) = true := by decide +kernel
  intro c hc
  have h1 := List.all_eq_true.mp h c (List.mem_range.mpr hc)
  simp only [Bool.and_eq_true, decide_eq_true_eq] at h1
  exact h1
def ctNest : List (Nat × Nat × Nat) := [(2, 29, 4), (6, 9, 3), (6, 18, 2), (6, 28, 4), (6, 51, 0), (6, 58, 5), (6, 65, 1)]
def ctK (D : va_G) (tI tZ : ClassId) (U : State) : Prop := am_K D tI tZ U ∧ ∀ q ∈ ctNest, va_Nw (.methodLinkNest (am_cn q.1) q.2.1 (ctY q.2.2) RX6) U
theorem ctK_warm {D : va_G} {tI tZ : ClassId} {s U : State} (h : ctK D tI tZ s) (hW : s.WarmedH U.vm) : ctK D tI tZ U := ⟨am_K_warm h.1 hW, fun q hq => (h.2 q hq).warmM hW⟩
theorem ctK_same {D : va_G} {tI tZ : ClassId} {s U : State} (h : ctK D tI tZ s) (hv : s.vm = U.vm) : ctK D tI tZ U := ⟨am_K_same h.1 hv, fun q hq => (h.2 q hq).same rfl hv⟩
def ctZ (tI tZ : ClassId) (ci h : Nat) : va_W := ctO tI tZ ci h (fun _ => 0) (fun _ => 0) (fun _ => .null) []
def ctPre (D : va_G) (tI tZ : ClassId) (ci h sz : Nat) : Array Value → State → Prop := va_Pc [.ref h] (fun U => U.heap.size = sz ∧ va_P D vwCl (ctZ tI tZ ci h) U.heap ∧ ctK D tI tZ U)
def ctPost (D : va_G) (tI tZ : ClassId) (ci h sz : Nat) (Res : va_W → Prop) : Array Value → State → Outcome → State → Prop := va_Qv (S := va_W) Res (fun w t => va_P D vwCl w t.heap ∧ va_D (va_A (ctZ tI tZ ci h) sz) w) (va_A (ctZ tI tZ ci h) sz)
theorem ct_free {A : Nat → Prop} {W : va_W} {x : Nat × va_E} {H0 H : Heap} {locs : List Loc} (hD : va_D A (W ++ [x])) (hS : va_S A H0 H locs) (hA : ∀ q, H0.size ≤ q → A q) : ∀ q, va_A [x] H.size q → A q := by
  intro q hq
  rcases hq with ⟨k, e, h⟩ | h
  · match k, h with
    | 0, h =>
      have hxe : x = (q, e) := by simpa using h
      have := hD.2 W.length x (by simp)
      rw [hxe] at this
      exact this
    | n + 1, h => simp at h
  · exact hA q (Nat.le_trans hS.1 h)
theorem ct_join {A : Nat → Prop} {D : va_G} {cl : List vw_C} {W w1 : va_W} {x : Nat × va_E} {H H1 : Heap} (hP : va_P D cl (W ++ [x]) H) (hD : va_D A (W ++ [x])) (hk : ∀ q : Nat, q < H.size → ¬ va_A [x] H.size q → H1[q]? = H[q]?) (hF : ∀ q, va_A [x] H.size q → A q) (hP1 : va_P D cl w1 H1) (hD1 : va_D (va_A [x] H.size) w1) : va_P D cl (W ++ w1) H1 ∧ va_D A (W ++ w1) := by
  have ap : ∀ (k : Nat) (q : Nat × va_E), W[k]? = some q → (W ++ [x])[k]? = some q := fun k q hq => by
    rw [List.getElem?_append_left (List.getElem?_eq_some_iff.mp hq).1]; exact hq
  have xx : (W ++ [x])[W.length]? = some x := by simp
  have apart : ∀ (k : Nat) (q : Nat × va_E), W[k]? = some q → q.1 < H.size ∧ ¬ va_A [x] H.size q.1 := by
    intro k q hq
    have hl := (hP k q (ap k q hq)).lt
    refine ⟨hl, fun h => ?_⟩
    rcases h with ⟨k2, e, h⟩ | h
    · match k2, h with
      | 0, h =>
        have hxe : x = (q.1, e) := by simpa using h
        have h1 := hD.1 k W.length q x (ap k q hq) xx (by rw [hxe])
        have h2 := (List.getElem?_eq_some_iff.mp hq).1
        omega
      | n + 1, h => simp at h
    · omega
  exact ⟨va_P.app (fun k q hq => (hP k q (ap k q hq)).kept (hk q.1 (apart k q hq).1 (apart k q hq).2)) hP1, va_D.app ⟨fun i j p q hi hj => hD.1 i j p q (ap i p hi) (ap j q hj), fun k q hq => hD.2 k q (ap k q hq)⟩ (hD1.weaken (fun k q _ h => hF q.1 h)) (fun i j x' y hx' hy hxy => (apart i x' hx').2 (by rw [hxy]; exact hD1.2 j y hy))⟩
/-- what a constructor's body stands on -/
def ctB (p : Program) (s : State) (m : MethodId) (args : Array Value) (meth : Method) (c : Code) (A : Nat → Prop) (D : va_G) (tI tZ : ClassId) (ci h : Nat) (ls : Array Slot) : Prop :=
  p.tables.exec = Jvm.exec ∧ c.code = ctC ci ∧ c.maxLocals = 1 ∧ (∀ w ∈ am_T, w.before args s = true) ∧ s.vm.findClass (am_cn ci) = some m.cls ∧ meth.name = "<init>" ∧ ctK D tI tZ s ∧ (∀ q, s.heap.size ≤ q → A q) ∧ lv_has ls 1 [(0, .ref h)]
/-- a constructor out of its body behind Object's -/
theorem ct_met (l : Launch) {D : va_G} {tI tZ : ClassId} {ci h sz : Nat} (h8 : ci < 8) {rm : Room} {nc ns : Nat} {Res : va_W → Prop} (d0 : decode (ctC ci) 0 = .ok (.aload_n 0, 1)) (d1 : decode (ctC ci) 1 = .ok (.invokespecial (ctMi ci), 3)) (hfr : 1 ≤ rm.frames) (hlo : 12 ≤ rm.locals)
    (body : ∀ (p : Program) (e : Env) (s : State) (m : MethodId) (args : Array Value) (below : List Frame) (meth : Method) (c : Code) (A : Nat → Prop) (ls : Array Slot) (Q : State → Prop), ctB p s m args meth c A D tI tZ ci h ls → va_P D vwCl (ctZ tI tZ ci h) s.heap → va_D A (ctZ tI tZ ci h) →
      (∀ (w : va_W) (H : Heap) (locs : List Loc) (pc cells slots : Nat), Res w → decode (ctC ci) pc = .ok (.return_, 1) → cells ≤ nc → slots ≤ ns → va_P D vwCl w H → va_D A w → va_S A s.heap H locs → W p l e rm s m args below meth c H locs cells slots Q (F0 m pc ls [])) →
      W p l e rm s m args below meth c s.heap [] 0 0 Q (F0 m 4 ls [])) :
    Met l (ctY ci) (ctw ci) rm (ctPre D tI tZ ci h sz) (ctPost D tI tZ ci h sz Res) nc ns (va_A (ctZ tI tZ ci h) sz) := by
  refine Met.ofW (cc := ctC ci) (maxL := 1) (ret := none) (ct_nm ci h8).1 rfl ?_
  intro p e s m args below meth c s₁ B hml hv
  obtain ⟨rfl, hsz, hP, hK⟩ := hv
  have hx := B.exec
  have hb := B.bytes
  have hr := B.returns
  have hts := fun w hw => atoms_spec (ws := ctw ci) B.pre w (List.mem_cons_of_mem _ hw)
  have hown : s.vm.findClass (am_cn ci) = some m.cls := findClass_of_methodNamed B.named
  have hlocks := B.notSynchronized
  have hin : meth.name = "<init>" := (name_of_methodNamed B.named B.method).1
  subst hsz
  have hD : va_D (va_A (ctZ tI tZ ci h) s.heap.size) (ctZ tI tZ ci h) := by
    refine va_D.self (A := fun _ => True) ⟨fun i j x y hi hj _ => ?_, fun _ _ _ => trivial⟩
    have h1 := (List.getElem?_eq_some_iff.mp hi).1
    have h2 := (List.getElem?_eq_some_iff.mp hj).1
    have hl : (ctZ tI tZ ci h).length = 1 := rfl
    omega
  have hl := lv_entry ([.ref h]) (n := 1) (Nat.le_of_ble_eq_true rfl)
  rw [lg_entry_eq]
  generalize (lg_sl ([.ref h]) ++ List.replicate (1 - (lg_sl ([.ref h])).length) Slot.unset).toArray = ls at hl ⊢
  have hl : lv_has ls 1 [(0, .ref h)] := hl
  refine lv_aload_n hx hb d0 rfl (lv_at hl 0 rfl) ?_
  refine W.objInit hx hb hown (hts _ (ct_at (f := fun c => Cond.methodLink (am_cn c) (ctMi c) Lib.objectInit) ct_oi h8)) (hts _ (ct_obj _ List.mem_cons_self)) (hts _ (ct_obj _ (List.mem_cons_of_mem _ List.mem_cons_self))) rfl (by rw [hml]; exact hl.1) rfl d1 hfr hlo ?_
  refine W.eq (g2 := F0 m 4 ls []) rfl ?_
  refine body p e s m _ below meth c _ ls _ ⟨hx, hb, hml, hts, hown, hin, hK, fun q h9 => Or.inr h9, hl⟩ hP hD ?_
  intro w H locs pc cells slots hres hdec hc1 hs1 hP1 hD1 hS1
  refine W.widen (k := nc) (n := ns) hc1 hs1 ?_
  exact W.vret hx hb hr (fun t ht hW => ⟨⟨w, rfl, hres, by rw [ht]; exact hP1, hD1⟩, hS1.F ht⟩) hS1.2.2 hdec hlocks
section Ct2
variable {p : Program} {l : Launch} {e : Env} {R : Room} {s : State} {m : MethodId} {args : Array Value} {below : List Frame} {meth : Method} {c : Code} {Q : State → Prop} {A : Nat → Prop} {D : va_G} {tI tZ : ClassId} {ci h : Nat} {ls : Array Slot}
theorem ct_def : ∀ c, c < 8 → ∀ j, j < am_nf c → defaultValue (am_ty c j) = vp_V (ctFs c (fun _ => 0) (fun _ => 0) (fun _ => .null) []) j := by
  have h : (List.range 8).all (fun c => (List.range (am_nf c)).all (fun j => decide (defaultValue (am_ty c j) = vp_V (ctFs c (fun _ => 0) (fun _ => 0) (fun _ => .null) []) j))) = true := by decide +kernel
  intro c hc j hj
  exact of_decide_eq_true (List.all_eq_true.mp (List.all_eq_true.mp h c (List.mem_range.mpr hc)) j (List.mem_range.mpr hj))
/-- an object in a field: aload_0, new, dup, its constructor, putfield -/
theorem ct_sub (B : ctB p s m args meth c A D tI tZ ci h ls) (h8 : ci < 8) {c2 : Nat} (h82 : c2 < 8) {rm2 : Room} {nc2 ns2 : Nat} {Res2 : Nat → va_W → Prop} (hM : ∀ q sz, Met l (ctY c2) (ctw c2) rm2 (ctPre D tI tZ c2 q sz) (ctPost D tI tZ c2 q sz (Res2 q)) nc2 ns2 (va_A (ctZ tI tZ c2 q) sz)) (hr1 : rm2.cells = nc2) (hr2 : rm2.slots = ns2) (hr3 : rm2.frames + 1 ≤ R.frames ∧ 8 + (1 + 11) + rm2.locals ≤ R.locals)
    {ad : Nat → Nat} {nm : Nat → Int32} {rf : Nat → Value} {done : List Nat} {ws : va_W} {pc k iN iI iF cells slots : Nat} {H : Heap} {locs : List Loc} {ty : String}
    (o1 : decode (ctC ci) pc = .ok (.aload_n 0, 1)) (o2 : decode (ctC ci) (pc + 1) = .ok (.new iN, 3)) (o3 : decode (ctC ci) (pc + 1 + 3) = .ok (.dup, 1)) (o4 : decode (ctC ci) (pc + 1 + 3 + 1) = .ok (.invokespecial iI, 3)) (o5 : decode (ctC ci) (pc + 1 + 3 + 1 + 3) = .ok (.putfield iF, 3))
    (hcl : Cond.classLink (am_cn ci) iN (am_cn c2) ∈ am_T) (hne : (ci, iI, c2) ∈ ctNest) (hlink : ctWf ci (k, 0, iF) ∈ am_T) (hk : k < am_nf ci) (hf : (am_fk ci k).1 = 3) (hdecl : (am_TT ci k).1 = am_cn ci) (hty : am_ty ci k = .object ty)
    (hce : cells + 1 + nc2 ≤ R.cells) (hsl : slots + am_nf c2 + ns2 ≤ R.slots)
    (hP : va_P D vwCl ((h, .inr (ci, ctFs ci ad nm rf done)) :: ws) H) (hD : va_D A ((h, .inr (ci, ctFs ci ad nm rf done)) :: ws)) (hS : va_S A s.heap H locs)
    (kk : ∀ (q : Nat) (w1 : va_W) (H' : Heap) (locs' : List Loc), Res2 q w1 → va_P D vwCl ((h, .inr (ci, ctFs ci ad nm (ctN rf k (.ref q)) done)) :: (ws ++ w1)) H' → va_D A ((h, .inr (ci, ctFs ci ad nm (ctN rf k (.ref q)) done)) :: (ws ++ w1)) → va_S A s.heap H' locs' → W p l e R s m args below meth c H' locs' (cells + 1 + nc2) (slots + am_nf c2 + ns2) Q (F0 m (pc + 1 + 3 + 1 + 3 + 3) ls [])) :
    W p l e R s m args below meth c H locs cells slots Q (F0 m pc ls []) := by
  obtain ⟨hx, hb, hml, hts, hown, hin, hK, hA, hl⟩ := B
  refine lv_aload_n hx hb o1 rfl (lv_at hl 0 rfl) ?_
  refine va_new (ci := c2) (fs := ctFs c2 (fun _ => 0) (fun _ => 0) (fun _ => .null) []) (C := am_cn c2) (T := am_TT c2) (N := am_nf c2) hx hb hts (am_u_in h82) (am_ty c2) (am_tyok c2 h82) hown (hts _ hcl) (hts _ (ct_at (f := fun c => Cond.instantiable (am_cn c) (am_nf c)) ct_inst h82)) (hts _ (ct_at (f := fun c => Cond.initialized (am_cn c)) ct_ini h82)) hK.1.1 hP hD hS hA (am_vw c2 h82) (ct_def c2 h82) (by omega) (by omega) o2 (fun q H hP hD hS => ?_)
  refine lv_dup hx hb o3 rfl ?_
  have hPc : va_P D vwCl (ctZ tI tZ c2 q) H := fun k x hx => by
    match k, hx with
    | 0, hx => exact hP (((h, Sum.inr (ci, ctFs ci ad nm rf done)) :: ws : va_W).length) x (by rw [List.getElem?_append_right (Nat.le_refl _), Nat.sub_self]; exact hx)
    | n + 1, hx => simp [ctZ, ctO] at hx
  have hFc := ct_free hD hS hA
  refine va_callv (va_runIN (As := []) (rest := [.ref q, .ref h]) ⟨hx, hb, hml, hown, hts⟩ (hM q H.size) ⟨va_cnB 0 hts (ct_good h82) rfl hr1 hr2 (hK.2 _ hne) (hts _ (ct_at (f := fun c => Cond.initialized (am_cn c)) ct_ini h82)) (ct_nm c2 h82).2 hr3, rfl, hts _ (ct_at (f := fun c => Cond.instanceMethod (ctY c)) ct_im h82)⟩ ⟨fun a U g mk q => by obtain ⟨q0, q1, qP, qK⟩ := q; exact ⟨q0, q1, qP, ctK_same qK rfl⟩, fun U hU hW => ⟨rfl, by rw [hU], by rw [hU]; exact hPc, ctK_warm hK hW⟩⟩ rfl rfl hl.1 rfl (lv_room (Nat.le_of_ble_eq_true rfl)) o4 ⟨by omega, by omega⟩) hS (fun q _ h => hFc q h) hFc (fun u t H1 locs ht hvm hw hB hz1 hk1 hS => ?_)
  obtain ⟨hP1, hD1⟩ := hB
  rw [ht] at hP1
  obtain ⟨hP, hD⟩ := ct_join hP hD hk1 hFc hP1 hD1
  have hE := ctFs_ref (ad := ad) (nm := nm) (rf := rf) (done := done) (v := .ref q) hk hf
  cases hfin : (am_TT ci k).2.2.2 with
  | true =>
    refine va_putF (D := D) (ci := ci) (v := .ref q) (ty := .object ty) (C := am_cn ci) (T := am_TT ci) (N := am_nf ci) hx hb hts (am_u_in h8) (am_ty ci) (am_tyok ci h8) (am_nmok ci h8) hown hK.1.1 hP hD hS 0 rfl (am_vw ci h8) k hk (hts _ hlink) (fun x9 h9 => by rw [hdecl] at h9; exact h9) hfin hin hdecl (by rw [am_tyok ci h8 k hk, hty]) rfl rfl (by rw [ctFs_len]; exact hk) o5 (fun H2 locs2 hP2 hD2 hS2 => ?_)
    exact kk q u H2 locs2 hw (by rw [← hE]; exact hP2) (by rw [← hE]; exact hD2) hS2
  | false =>
    refine va_put (D := D) (ci := ci) (v := .ref q) (ty := .object ty) (C := am_cn ci) (T := am_TT ci) (N := am_nf ci) hx hb hts (am_u_in h8) (am_ty ci) (am_tyok ci h8) (am_nmok ci h8) hown hK.1.1 hP hD hS 0 rfl (am_vw ci h8) k hk (hts _ hlink) (fun x9 h9 => by rw [hdecl] at h9; exact h9) hfin (by rw [am_tyok ci h8 k hk, hty]) rfl rfl (by rw [ctFs_len]; exact hk) o5 (fun H2 locs2 hP2 hD2 hS2 => ?_)
    exact kk q u H2 locs2 hw (by rw [← hE]; exact hP2) (by rw [← hE]; exact hD2) hS2
end Ct2
