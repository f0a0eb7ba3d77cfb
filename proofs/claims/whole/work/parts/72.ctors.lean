/-! the eight constructors -/
theorem ct_rowW {ci : Nat} {rows : List (Nat × Nat × Nat)} (h : ∀ w ∈ rows.map (ctWf ci), w ∈ am_T) : ∀ r ∈ rows, ctWf ci r ∈ am_T := fun r hr => h _ (List.mem_map.mpr ⟨r, hr, rfl⟩)
def ctL (tI tZ : ClassId) (ci : Nat) (nm : Nat → Int32) (done : List Nat) (h : Nat) (w : va_W) : Prop := ∃ ad : Nat → Nat, w = ctO tI tZ ci h ad nm (fun _ => .null) done
theorem ct_leaf (l : Launch) {D : va_G} {tI tZ : ClassId} {ci : Nat} (h8 : ci < 8) (rows : List (Nat × Nat × Nat)) {nc ns pe : Nat} (d0 : decode (ctC ci) 0 = .ok (.aload_n 0, 1)) (d1 : decode (ctC ci) 1 = .ok (.invokespecial (ctMi ci), 3)) (hr : ctRun (ctC ci) ci rows [] 4 pe = true) (hw : ∀ w ∈ rows.map (ctWf ci), w ∈ am_T) (hret : decode (ctC ci) pe = .ok (.return_, 1)) (hnc : rows.length = nc) (hns : ctSl ci rows = ns) (h sz : Nat) :
    Met l (ctY ci) (ctw ci) { frames := 1, cells := nc, slots := ns, locals := 12 } (ctPre D tI tZ ci h sz) (ctPost D tI tZ ci h sz (ctL tI tZ ci (fun _ => 0) (rows.map (·.1)) h)) nc ns (va_A (ctZ tI tZ ci h) sz) := by
  refine ct_met l h8 d0 d1 (Nat.le_refl 1) (Nat.le_refl 12) ?_
  intro p e s m args below meth c A ls Q B hP hD kend
  obtain ⟨hx, hb, hml, hts, hown, hin, hK, hA, hl⟩ := B
  refine ct_rows hx hb hts hown h8 hin hK.1.1 hA hl rows (fun _ => 0) [] 4 0 0 s.heap [] hr (ct_rowW hw) (by rw [Nat.zero_add, hnc]; exact Nat.le_refl nc) (by rw [Nat.zero_add, hns]; exact Nat.le_refl ns) hP hD va_S.rf (fun ad' H' locs' hP' hD' hS' => ?_)
  exact kend _ H' locs' pe _ _ ⟨ad', rfl⟩ hret (by omega) (by omega) hP' hD' hS'
theorem ct_X0 (l : Launch) (D : va_G) (tI tZ : ClassId) (h sz : Nat) : Met l (ctY 0) (ctw 0) { frames := 1, cells := 5, slots := 54, locals := 12 } (ctPre D tI tZ 0 h sz) (ctPost D tI tZ 0 h sz (ctL tI tZ 0 (fun _ => 0) (ctR0.map (·.1)) h)) 5 54 (va_A (ctZ tI tZ 0 h) sz) :=
  ct_leaf l (by decide) ctR0 (pe := 44) (by decide +kernel) (by decide +kernel) (by decide +kernel) ctR0_w (by decide +kernel) rfl rfl h sz
theorem ct_X1 (l : Launch) (D : va_G) (tI tZ : ClassId) (h sz : Nat) : Met l (ctY 1) (ctw 1) { frames := 1, cells := 3, slots := 24, locals := 12 } (ctPre D tI tZ 1 h sz) (ctPost D tI tZ 1 h sz (ctL tI tZ 1 (fun _ => 0) (ctR1.map (·.1)) h)) 3 24 (va_A (ctZ tI tZ 1 h) sz) :=
  ct_leaf l (by decide) ctR1 (pe := 28) (by decide +kernel) (by decide +kernel) (by decide +kernel) ctR1_w (by decide +kernel) rfl rfl h sz
theorem ct_X4 (l : Launch) (D : va_G) (tI tZ : ClassId) (h sz : Nat) : Met l (ctY 4) (ctw 4) { frames := 1, cells := 7, slots := 56, locals := 12 } (ctPre D tI tZ 4 h sz) (ctPost D tI tZ 4 h sz (ctL tI tZ 4 (fun _ => 0) (ctR4.map (·.1)) h)) 7 56 (va_A (ctZ tI tZ 4 h) sz) :=
  ct_leaf l (by decide) ctR4 (pe := 60) (by decide +kernel) (by decide +kernel) (by decide +kernel) ctR4_w (by decide +kernel) rfl rfl h sz
theorem ct_X5 (l : Launch) (D : va_G) (tI tZ : ClassId) (h sz : Nat) : Met l (ctY 5) (ctw 5) { frames := 1, cells := 2, slots := 34, locals := 12 } (ctPre D tI tZ 5 h sz) (ctPost D tI tZ 5 h sz (ctL tI tZ 5 (fun _ => 0) (ctR5.map (·.1)) h)) 2 34 (va_A (ctZ tI tZ 5 h) sz) :=
  ct_leaf l (by decide) ctR5 (pe := 19) (by decide +kernel) (by decide +kernel) (by decide +kernel) ctR5_w (by decide +kernel) rfl rfl h sz
theorem ct_X3 (l : Launch) (D : va_G) (tI tZ : ClassId) (h sz : Nat) : Met l (ctY 3) (ctw 3) { frames := 1, cells := 1, slots := 240, locals := 12 } (ctPre D tI tZ 3 h sz) (ctPost D tI tZ 3 h sz (ctL tI tZ 3 (ctN (fun _ => 0) 5 (-1)) (ctR3.map (·.1)) h)) 1 240 (va_A (ctZ tI tZ 3 h) sz) := by
  refine ct_met l (by decide) (by decide +kernel) (by decide +kernel) (Nat.le_refl 1) (Nat.le_refl 12) ?_
  intro p e s m args below meth c A ls Q B hP hD kend
  obtain ⟨hx, hb, hml, hts, hown, hin, hK, hA, hl⟩ := B
  refine ct_rows hx hb hts hown (by decide) hin hK.1.1 hA hl (pe := 13) ctR3 (fun _ => 0) [] 4 0 0 s.heap [] (by decide +kernel) (ct_rowW ctR3_w) (by decide) (by decide) hP hD va_S.rf (fun ad' H' locs' hP' hD' hS' => ?_)
  refine ct_num (k := 5) (idx := 15) (n := -1) (v := -1) hx hb hts hown (by decide) hK.1.1 hl (by decide +kernel) (by decide +kernel) (by decide +kernel) (by decide +kernel) ctN3_5 (by decide) rfl (by decide +kernel) (by decide +kernel) (by decide +kernel) hP' hD' hS' (fun H2 locs2 hP2 hD2 hS2 => ?_)
  exact kend _ H2 locs2 _ _ _ ⟨ad', rfl⟩ (by decide +kernel) (by decide) (by decide) hP2 hD2 hS2
theorem ct_X7 (l : Launch) (D : va_G) (tI tZ : ClassId) (h sz : Nat) : Met l (ctY 7) (ctw 7) { frames := 1, cells := 29, slots := 800, locals := 12 } (ctPre D tI tZ 7 h sz) (ctPost D tI tZ 7 h sz (ctL tI tZ 7 (ctN (ctN (fun _ => 0) 15 (-1)) 0 0) (ctR7.map (·.1) ++ ctR7b.map (·.1)) h)) 29 800 (va_A (ctZ tI tZ 7 h) sz) := by
  refine ct_met l (by decide) (by decide +kernel) (by decide +kernel) (Nat.le_refl 1) (Nat.le_refl 12) ?_
  intro p e s m args below meth c A ls Q B hP hD kend
  obtain ⟨hx, hb, hml, hts, hown, hin, hK, hA, hl⟩ := B
  refine ct_rows hx hb hts hown (by decide) hin hK.1.1 hA hl (pe := 67) ctR7 (fun _ => 0) [] 4 0 0 s.heap [] (by decide +kernel) (ct_rowW ctR7_w) (by decide) (by decide) hP hD va_S.rf (fun ad1 H1 locs1 hP1 hD1 hS1 => ?_)
  refine ct_num (k := 15) (idx := 34) (n := -1) (v := -1) hx hb hts hown (by decide) hK.1.1 hl (by decide +kernel) (by decide +kernel) (by decide +kernel) (by decide +kernel) ctN7_15 (by decide) rfl (by decide +kernel) (by decide +kernel) (by decide +kernel) hP1 hD1 hS1 (fun H2 locs2 hP2 hD2 hS2 => ?_)
  refine ct_rows hx hb hts hown (by decide) hin hK.1.1 hA hl (pe := 237) ctR7b ad1 ([] ++ ctR7.map (·.1)) 72 _ _ H2 locs2 (by decide +kernel) (ct_rowW ctR7b_w) (by decide) (by decide) hP2 hD2 hS2 (fun ad3 H3 locs3 hP3 hD3 hS3 => ?_)
  refine ct_num (k := 0) (idx := 102) (n := 0) (v := 0) hx hb hts hown (by decide) hK.1.1 hl (by decide +kernel) (by decide +kernel) (by decide +kernel) (by decide +kernel) ctN7_0 (by decide) rfl (by decide +kernel) (by decide +kernel) (by decide +kernel) hP3 hD3 hS3 (fun H4 locs4 hP4 hD4 hS4 => ?_)
  exact kend _ H4 locs4 _ _ _ ⟨ad3, rfl⟩ (by decide +kernel) (by decide) (by decide) hP4 hD4 hS4
theorem ctCl_2_27 : Cond.classLink (am_cn 2) 27 (am_cn 4) ∈ am_T := am_chk_ok [_] [110] (by decide +kernel) _ List.mem_cons_self
theorem ctS_2_10 : ctWf 2 (10, 0, 30) ∈ am_T := am_chk_ok [_] [191] (by decide +kernel) _ List.mem_cons_self
theorem ctCl_6_7 : Cond.classLink (am_cn 6) 7 (am_cn 3) ∈ am_T := am_chk_ok [_] [76] (by decide +kernel) _ List.mem_cons_self
theorem ctS_6_0 : ctWf 6 (0, 0, 10) ∈ am_T := am_chk_ok [_] [306] (by decide +kernel) _ List.mem_cons_self
theorem ctCl_6_16 : Cond.classLink (am_cn 6) 16 (am_cn 2) ∈ am_T := am_chk_ok [_] [104] (by decide +kernel) _ List.mem_cons_self
theorem ctS_6_1 : ctWf 6 (1, 0, 19) ∈ am_T := am_chk_ok [_] [307] (by decide +kernel) _ List.mem_cons_self
theorem ctS_6_2 : ctWf 6 (2, 0, 23) ∈ am_T := am_chk_ok [_] [308] (by decide +kernel) _ List.mem_cons_self
theorem ctCl_6_26 : Cond.classLink (am_cn 6) 26 (am_cn 4) ∈ am_T := am_chk_ok [_] [217] (by decide +kernel) _ List.mem_cons_self
theorem ctS_6_3 : ctWf 6 (3, 0, 29) ∈ am_T := am_chk_ok [_] [309] (by decide +kernel) _ List.mem_cons_self
theorem ctS_6_4 : ctWf 6 (4, 0, 33) ∈ am_T := am_chk_ok [_] [310] (by decide +kernel) _ List.mem_cons_self
theorem ctS_6_5 : ctWf 6 (5, 0, 36) ∈ am_T := am_chk_ok [_] [311] (by decide +kernel) _ List.mem_cons_self
theorem ctS_6_6 : ctWf 6 (6, 0, 39) ∈ am_T := am_chk_ok [_] [312] (by decide +kernel) _ List.mem_cons_self
theorem ctCl_6_49 : Cond.classLink (am_cn 6) 49 (am_cn 0) ∈ am_T := am_chk_ok [_] [219] (by decide +kernel) _ List.mem_cons_self
theorem ctS_6_9 : ctWf 6 (9, 0, 52) ∈ am_T := am_chk_ok [_] [315] (by decide +kernel) _ List.mem_cons_self
theorem ctCl_6_56 : Cond.classLink (am_cn 6) 56 (am_cn 5) ∈ am_T := am_chk_ok [_] [249] (by decide +kernel) _ List.mem_cons_self
theorem ctS_6_10 : ctWf 6 (10, 0, 59) ∈ am_T := am_chk_ok [_] [316] (by decide +kernel) _ List.mem_cons_self
theorem ctCl_6_63 : Cond.classLink (am_cn 6) 63 (am_cn 1) ∈ am_T := am_chk_ok [_] [275] (by decide +kernel) _ List.mem_cons_self
theorem ctS_6_11 : ctWf 6 (11, 0, 66) ∈ am_T := am_chk_ok [_] [317] (by decide +kernel) _ List.mem_cons_self
/-- a plan and its scene -/
def ctP (tI tZ : ClassId) (h : Nat) (w : va_W) : Prop := ∃ (ad : Nat → Nat) (q : Nat) (ad4 : Nat → Nat), w = ctO tI tZ 2 h ad (fun _ => 0) (ctN (fun _ => .null) 10 (.ref q)) (ctR2.map (·.1)) ++ ctO tI tZ 4 q ad4 (fun _ => 0) (fun _ => .null) (ctR4.map (·.1))
theorem ct_X2 (l : Launch) (D : va_G) (tI tZ : ClassId) (h sz : Nat) : Met l (ctY 2) (ctw 2) { frames := 2, cells := 13, slots := 99, locals := 32 } (ctPre D tI tZ 2 h sz) (ctPost D tI tZ 2 h sz (ctP tI tZ h)) 13 99 (va_A (ctZ tI tZ 2 h) sz) := by
  refine ct_met l (by decide) (by decide +kernel) (by decide +kernel) (by decide) (by decide) ?_
  intro p e s m args below meth c A ls Q B hP hD kend
  obtain ⟨hx, hb, hml, hts, hown, hin, hK, hA, hl⟩ := id B
  refine ct_rows hx hb hts hown (by decide) hin hK.1.1 hA hl (pe := 42) ctR2 (fun _ => 0) [] 4 0 0 s.heap [] (by decide +kernel) (ct_rowW ctR2_w) (by decide) (by decide) hP hD va_S.rf (fun ad' H' locs' hP' hD' hS' => ?_)
  refine ct_sub (k := 10) (iN := 27) (iI := 29) (iF := 30) (ty := "StairPortraits$Scene") B (by decide) (c2 := 4) (by decide) (ct_X4 l D tI tZ) rfl rfl ⟨by decide, by decide⟩ (by decide +kernel) (by decide +kernel) (by decide +kernel) (by decide +kernel) (by decide +kernel) ctCl_2_27 (by decide) ctS_2_10 (by decide) rfl (by decide +kernel) (by decide +kernel) (by decide) (by decide) hP' hD' hS' (fun q w1 H2 locs2 hw hP2 hD2 hS2 => ?_)
  obtain ⟨ad4, rfl⟩ := hw
  exact kend _ H2 locs2 _ _ _ ⟨ad', q, ad4, rfl⟩ (by decide +kernel) (by decide) (by decide) hP2 hD2 hS2
def ctRf6 (q : Nat → Nat) : Nat → Value := ctN (ctN (ctN (ctN (ctN (ctN (ctN (ctN (ctN (ctN (fun _ => .null) 0 (.ref (q 1))) 1 (.ref (q 2))) 2 (.ref (q 3))) 3 (.ref (q 6))) 4 (.ref (q 7))) 5 (.ref (q 8))) 6 (.ref (q 9))) 9 (.ref (q 10))) 10 (.ref (q 11))) 11 (.ref (q 12))
def ctNm6 : Nat → Int32 := ctN (ctN (fun _ => 0) 7 0) 8 (-1)
def ctSc (tI tZ : ClassId) (q : Nat → Nat) (a : Nat → Nat → Nat) (o : Nat) : va_W := ctO tI tZ 4 (q o) (a o) (fun _ => 0) (fun _ => .null) (ctR4.map (·.1))
def ctPl (tI tZ : ClassId) (q : Nat → Nat) (a : Nat → Nat → Nat) (o o4 : Nat) : va_W := ctO tI tZ 2 (q o) (a o) (fun _ => 0) (ctN (fun _ => .null) 10 (.ref (q o4))) (ctR2.map (·.1)) ++ ctSc tI tZ q a o4
def ctW6 (tI tZ : ClassId) (q : Nat → Nat) (a : Nat → Nat → Nat) : va_W := (q 0, .inr (6, ctFs 6 (fun _ => 0) ctNm6 (ctRf6 q) [])) :: ([] ++ ctO tI tZ 3 (q 1) (a 1) (ctN (fun _ => 0) 5 (-1)) (fun _ => .null) (ctR3.map (·.1)) ++ ctPl tI tZ q a 2 4 ++ ctPl tI tZ q a 3 5 ++ ctSc tI tZ q a 6 ++ ctSc tI tZ q a 7 ++ ctSc tI tZ q a 8 ++ ctSc tI tZ q a 9 ++ ctO tI tZ 0 (q 10) (a 10) (fun _ => 0) (fun _ => .null) (ctR0.map (·.1)) ++ ctO tI tZ 5 (q 11) (a 11) (fun _ => 0) (fun _ => .null) (ctR5.map (·.1)) ++ ctO tI tZ 1 (q 12) (a 12) (fun _ => 0) (fun _ => .null) (ctR1.map (·.1)))
def ctS (tI tZ : ClassId) (h : Nat) (w : va_W) : Prop := ∃ (q : Nat → Nat) (a : Nat → Nat → Nat), q 0 = h ∧ w = ctW6 tI tZ q a
theorem ct_X6 (l : Launch) (D : va_G) (tI tZ : ClassId) (h sz : Nat) : Met l (ctY 6) (ctw 6) { frames := 3, cells := 75, slots := 867, locals := 52 } (ctPre D tI tZ 6 h sz) (ctPost D tI tZ 6 h sz (ctS tI tZ h)) 75 867 (va_A (ctZ tI tZ 6 h) sz) := by
  refine ct_met l (by decide) (by decide +kernel) (by decide +kernel) (by decide) (by decide) ?_
  intro p e s m args below meth c A ls Q B hP hD kend
  obtain ⟨hx, hb, hml, hts, hown, hin, hK, hA, hl⟩ := id B
  refine ct_sub (k := 0) (iN := 7) (iI := 9) (iF := 10) (ty := "StairPortraits$Reader") B (by decide) (c2 := 3) (by decide) (ct_X3 l D tI tZ) rfl rfl ⟨by decide, by decide⟩ (by decide +kernel) (by decide +kernel) (by decide +kernel) (by decide +kernel) (by decide +kernel) ctCl_6_7 (by decide) ctS_6_0 (by decide) rfl (by decide +kernel) (by decide +kernel) (by decide) (by decide) hP hD va_S.rf (fun q1 w1 H1 locs1 hw1 hP1 hD1 hS1 => ?_)
  obtain ⟨a1, rfl⟩ := hw1
  refine ct_sub (k := 1) (iN := 16) (iI := 18) (iF := 19) (ty := "StairPortraits$Plan") B (by decide) (c2 := 2) (by decide) (ct_X2 l D tI tZ) rfl rfl ⟨by decide, by decide⟩ (by decide +kernel) (by decide +kernel) (by decide +kernel) (by decide +kernel) (by decide +kernel) ctCl_6_16 (by decide) ctS_6_1 (by decide) rfl (by decide +kernel) (by decide +kernel) (by decide) (by decide) hP1 hD1 hS1 (fun q2 w2 H2 locs2 hw2 hP2 hD2 hS2 => ?_)
  obtain ⟨a2, q4, a4, rfl⟩ := hw2
  refine ct_sub (k := 2) (iN := 16) (iI := 18) (iF := 23) (ty := "StairPortraits$Plan") B (by decide) (c2 := 2) (by decide) (ct_X2 l D tI tZ) rfl rfl ⟨by decide, by decide⟩ (by decide +kernel) (by decide +kernel) (by decide +kernel) (by decide +kernel) (by decide +kernel) ctCl_6_16 (by decide) ctS_6_2 (by decide) rfl (by decide +kernel) (by decide +kernel) (by decide) (by decide) hP2 hD2 hS2 (fun q3 w3 H3 locs3 hw3 hP3 hD3 hS3 => ?_)
  obtain ⟨a3, q5, a5, rfl⟩ := hw3
  refine ct_sub (k := 3) (iN := 26) (iI := 28) (iF := 29) (ty := "StairPortraits$Scene") B (by decide) (c2 := 4) (by decide) (ct_X4 l D tI tZ) rfl rfl ⟨by decide, by decide⟩ (by decide +kernel) (by decide +kernel) (by decide +kernel) (by decide +kernel) (by decide +kernel) ctCl_6_26 (by decide) ctS_6_3 (by decide) rfl (by decide +kernel) (by decide +kernel) (by decide) (by decide) hP3 hD3 hS3 (fun q6 w6 H4 locs4 hw6 hP4 hD4 hS4 => ?_)
  obtain ⟨a6, rfl⟩ := hw6
  refine ct_sub (k := 4) (iN := 26) (iI := 28) (iF := 33) (ty := "StairPortraits$Scene") B (by decide) (c2 := 4) (by decide) (ct_X4 l D tI tZ) rfl rfl ⟨by decide, by decide⟩ (by decide +kernel) (by decide +kernel) (by decide +kernel) (by decide +kernel) (by decide +kernel) ctCl_6_26 (by decide) ctS_6_4 (by decide) rfl (by decide +kernel) (by decide +kernel) (by decide) (by decide) hP4 hD4 hS4 (fun q7 w7 H5 locs5 hw7 hP5 hD5 hS5 => ?_)
  obtain ⟨a7, rfl⟩ := hw7
  refine ct_sub (k := 5) (iN := 26) (iI := 28) (iF := 36) (ty := "StairPortraits$Scene") B (by decide) (c2 := 4) (by decide) (ct_X4 l D tI tZ) rfl rfl ⟨by decide, by decide⟩ (by decide +kernel) (by decide +kernel) (by decide +kernel) (by decide +kernel) (by decide +kernel) ctCl_6_26 (by decide) ctS_6_5 (by decide) rfl (by decide +kernel) (by decide +kernel) (by decide) (by decide) hP5 hD5 hS5 (fun q8 w8 H6 locs6 hw8 hP6 hD6 hS6 => ?_)
  obtain ⟨a8, rfl⟩ := hw8
  refine ct_sub (k := 6) (iN := 26) (iI := 28) (iF := 39) (ty := "StairPortraits$Scene") B (by decide) (c2 := 4) (by decide) (ct_X4 l D tI tZ) rfl rfl ⟨by decide, by decide⟩ (by decide +kernel) (by decide +kernel) (by decide +kernel) (by decide +kernel) (by decide +kernel) ctCl_6_26 (by decide) ctS_6_6 (by decide) rfl (by decide +kernel) (by decide +kernel) (by decide) (by decide) hP6 hD6 hS6 (fun q9 w9 H7 locs7 hw9 hP7 hD7 hS7 => ?_)
  obtain ⟨a9, rfl⟩ := hw9
  refine ct_num (k := 7) (idx := 42) (n := 0) (v := 0) hx hb hts hown (by decide) hK.1.1 hl (by decide +kernel) (by decide +kernel) (by decide +kernel) (by decide +kernel) ctN6_7 (by decide) rfl (by decide +kernel) (by decide +kernel) (by decide +kernel) hP7 hD7 hS7 (fun H8 locs8 hP8 hD8 hS8 => ?_)
  refine ct_num (k := 8) (idx := 46) (n := -1) (v := -1) hx hb hts hown (by decide) hK.1.1 hl (by decide +kernel) (by decide +kernel) (by decide +kernel) (by decide +kernel) ctN6_8 (by decide) rfl (by decide +kernel) (by decide +kernel) (by decide +kernel) hP8 hD8 hS8 (fun H9 locs9 hP9 hD9 hS9 => ?_)
  refine ct_sub (k := 9) (iN := 49) (iI := 51) (iF := 52) (ty := "StairPortraits$Notes") B (by decide) (c2 := 0) (by decide) (ct_X0 l D tI tZ) rfl rfl ⟨by decide, by decide⟩ (by decide +kernel) (by decide +kernel) (by decide +kernel) (by decide +kernel) (by decide +kernel) ctCl_6_49 (by decide) ctS_6_9 (by decide) rfl (by decide +kernel) (by decide +kernel) (by decide) (by decide) hP9 hD9 hS9 (fun q10 w10 H10 locs10 hw10 hP10 hD10 hS10 => ?_)
  obtain ⟨a10, rfl⟩ := hw10
  refine ct_sub (k := 10) (iN := 56) (iI := 58) (iF := 59) (ty := "StairPortraits$Turning") B (by decide) (c2 := 5) (by decide) (ct_X5 l D tI tZ) rfl rfl ⟨by decide, by decide⟩ (by decide +kernel) (by decide +kernel) (by decide +kernel) (by decide +kernel) (by decide +kernel) ctCl_6_56 (by decide) ctS_6_10 (by decide) rfl (by decide +kernel) (by decide +kernel) (by decide) (by decide) hP10 hD10 hS10 (fun q11 w11 H11 locs11 hw11 hP11 hD11 hS11 => ?_)
  obtain ⟨a11, rfl⟩ := hw11
  refine ct_sub (k := 11) (iN := 63) (iI := 65) (iF := 66) (ty := "StairPortraits$Past") B (by decide) (c2 := 1) (by decide) (ct_X1 l D tI tZ) rfl rfl ⟨by decide, by decide⟩ (by decide +kernel) (by decide +kernel) (by decide +kernel) (by decide +kernel) (by decide +kernel) ctCl_6_63 (by decide) ctS_6_11 (by decide) rfl (by decide +kernel) (by decide +kernel) (by decide) (by decide) hP11 hD11 hS11 (fun q12 w12 H12 locs12 hw12 hP12 hD12 hS12 => ?_)
  obtain ⟨a12, rfl⟩ := hw12
  exact kend _ H12 locs12 _ _ _ ⟨(fun o => match o with | 0 => h | 1 => q1 | 2 => q2 | 3 => q3 | 4 => q4 | 5 => q5 | 6 => q6 | 7 => q7 | 8 => q8 | 9 => q9 | 10 => q10 | 11 => q11 | 12 => q12 | _ => 0), (fun o => match o with | 1 => a1 | 2 => a2 | 3 => a3 | 4 => a4 | 5 => a5 | 6 => a6 | 7 => a7 | 8 => a8 | 9 => a9 | 10 => a10 | 11 => a11 | 12 => a12 | _ => (fun _ => 0)), rfl, rfl⟩ (by decide +kernel) (by decide) (by decide) hP12 hD12 hS12
