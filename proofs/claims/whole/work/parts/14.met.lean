/-! every contract of the small machine is a contract of the machine -/
set_option maxRecDepth 100000 in
theorem am_room_ok : ∀ (μ : Nat) (md : am_D), am_ms0[μ]? = some md → am_okCs (am_room μ).frames (am_room μ).locals md = true := by
  intro μ md h
  have hl : am_rms.length = am_ms0.length + 1 := by decide +kernel
  have hlt : μ < am_rms.length := by rw [hl]; exact Nat.lt_succ_of_lt (List.getElem?_eq_some_iff.mp h).1
  have h1 := List.all_eq_true.mp am_rooms (md, am_rms[μ]) (List.mem_of_getElem? (i := μ) (by rw [List.getElem?_zip_eq_some]; exact ⟨h, List.getElem?_eq_getElem hlt⟩))
  unfold am_room
  rw [List.getD_eq_getElem?_getD, List.getElem?_eq_getElem hlt]
  exact h1
theorem am_cnOk : ∀ md ∈ am_ms0, md.1.cls = am_cn md.2.2.2.2.1 := by decide +kernel
theorem am_pad_oks {SL : Nat → Nat} {as : List am_V} {n : Nat} (h : am_oks SL as) : am_oks SL (am_pad n (am_args as)) := by
  intro v hv
  rcases am_pad_mem n _ v hv with q | q
  · rcases am_args_in as v q with r | r
    · exact h v r
    · rw [r]; trivial
  · rw [q]; trivial
set_option maxHeartbeats 4000000 in
theorem am_sim (l : Launch) (E : Nat → Nat → Int32) (D : va_G) (ad : Nat × Option Nat → Nat) (ar : Nat → Nat) (tI tZ : ClassId) (SL : Nat → Nat) (hi : ∀ c c', c ∈ am_cells → c' ∈ am_cells → ad c = ad c' → c = c') (hSL : SL 0 = 4 ∧ SL 1 = 4) :
    ∀ d, am_Sim l E d D ad ar tI tZ SL
  | 0 => fun _ _ _ _ _ _ _ h => h.elim
  | d + 1 => fun μ md hmd as M R Q h okR oka => by
    have ih := am_sim l E D ad ar tI tZ SL hi hSL d
    have hin := List.mem_of_getElem? hmd
    have hnm := am_names md hin
    have h : bif Nat.ble (am_args as).length md.2.2.1 then am_WP E (am_WM E d) md.2.2.2.2.2 Q 0 (am_pad md.2.2.1 (am_args as)) [] M R else False := by
      unfold am_WM at h
      rw [am_ms_of hmd] at h
      exact h
    obtain ⟨hlen, h⟩ := am_cond_inv h
    have hlen := Nat.le_of_ble_eq_true hlen
    · refine Met.ofW (cc := md.2.1) (maxL := md.2.2.1) (ret := md.2.2.2.1) hnm.1 rfl ?_
      intro p e s m args below meth c s₁ B hml hv
      obtain ⟨rfl, hP, hK, hRO⟩ := hv
      have hx := B.exec
      have hb := B.bytes
      have hr := B.returns
      have hlocks := B.notSynchronized
      have hts := fun w hw => atoms_spec (ws := am_wsM md) B.pre w (List.mem_cons_of_mem _ hw)
      have hown : s.vm.findClass (am_cn md.2.2.2.2.1) = some m.cls := by rw [← am_cnOk md hin]; exact findClass_of_methodNamed B.named
      rw [lg_entry_eq]
      have hS : va_S (am_A ad) s.heap s.heap [] := va_S.rf
      refine h (am_Xw p l e (am_room μ) s m (as.map (am_con ad ar)).toArray below meth c 0 0 (MQ below (am_Qc D ad ar tI tZ SL Q) (as.map (am_con ad ar)).toArray s 0 0 (am_A ad)) md (am_A ad) D ad ar tI tZ SL) ?_ okR (am_pad_oks oka) am_oks_nil (am_pad_len _ _ hlen) s.heap [] _ (am_lr_entry hlen) hP hS
      refine am_step hx hb hml hown hts hK hi (fun _ q => q) hRO hSL (am_okAll md hin) (am_room_ok μ md hmd) (Nat.le_refl 0) (Nat.le_refl 0) ?_ ih
      intro r M' R' pc H locs sl hq hoR hoV hP1 hS1 hk
      have hend : ∀ (oc : Outcome), oc = .returned (r.map (am_con ad ar)) → ∀ t : State, t.heap = H → s.WarmedH t.vm → am_Qc D ad ar tI tZ SL Q (as.map (am_con ad ar)).toArray s oc t := by
        intro oc hoc t ht hW
        exact ⟨⟨r, M', R', hoc, hq, hoR, hoV, by rw [ht]; exact hP1⟩, hS1.F ht⟩
      rcases hk with ⟨v, rfl, hd, hrt⟩ | ⟨c', o, rfl, hd, n, hrt⟩ | ⟨rfl, hd, hrt⟩
      · rcases hrt with hrt | ⟨hrt, hv1⟩
        · exact W.iret (v := v) hx hb (hr.trans hrt) (hend _ rfl) hS1.2.2 hd hlocks
        · exact W.zret (v := v) hx hb (hr.trans hrt) (by show Value.int (v &&& 1) = _; rw [hv1]) (hend _ rfl) hS1.2.2 hd hlocks
      · exact W.aret (v := .ref (ad (o, none))) hx hb (hr.trans hrt) (Or.inl ⟨n, rfl⟩) (Or.inr ⟨_, rfl⟩) (hend _ rfl) hS1.2.2 hd hlocks
      · exact W.vret hx hb (hr.trans hrt) (hend _ rfl) hS1.2.2 hd hlocks
