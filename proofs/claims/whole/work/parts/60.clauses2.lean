/-! the class's reader: doors, comings, what is known at first -/
section Clauses2
variable {E : Nat → Nat → Int32} {d : Nat} {Q : am_Q} {R : am_R} {n a g : Nat} {L : Nat → Int32} {ρ : Sc}
theorem m_X2_addDoor {M : am_M} {N : Nat} {x1 x2 : Int32} (hN : M g 2 0 = nI N) (h4 : N < 4) (hQ : Q none (am_up (am_up (am_up M g 5 N x1) g 6 N x2) g 2 0 (nI (N + 1))) R) : am_WM E (d + 1) 15 [aO 2 g, aI x1, aI x2] M R Q := by
  have u : ∀ (M : am_M) (k i : Nat) (v : Int32), k ≠ 2 → am_up M g k i v g 2 0 = M g 2 0 := fun _ _ _ _ h => up_k (fun e => h e.symm)
  refine w_X2_addDoor ?_
  simp only [u _ 5 _ _ (by decide), u _ 6 _ _ (by decide), hN]
  rw [ix_cl (n := N) (by omega), nI_1]
  have hin : vp_in (nI N) 4 := ix_in h4 (by omega)
  exact ⟨fun z => absurd z (ix_ge (n := 4) h4 (by omega)), fun _ => ⟨hin, hin, hQ⟩⟩
theorem m_X2_addComing {M : am_M} {N : Nat} {x1 x2 x3 : Int32} (hN : M g 3 0 = nI N) (h8 : N < 8) (hQ : Q none (am_up (am_up (am_up (am_up M g 7 N x1) g 8 N x2) g 9 N x3) g 3 0 (nI (N + 1))) R) : am_WM E (d + 1) 16 [aO 2 g, aI x1, aI x2, aI x3] M R Q := by
  have u : ∀ (M : am_M) (k i : Nat) (v : Int32), k ≠ 3 → am_up M g k i v g 3 0 = M g 3 0 := fun _ _ _ _ h => up_k (fun e => h e.symm)
  refine w_X2_addComing ?_
  simp only [u _ 7 _ _ (by decide), u _ 8 _ _ (by decide), u _ 9 _ _ (by decide), hN]
  rw [ix_cl (n := N) (by omega), nI_1]
  have hin : vp_in (nI N) 8 := ix_in h8 (by omega)
  exact ⟨fun z => absurd z (ix_ge (n := 8) h8 (by omega)), fun _ => ⟨hin, hin, hin, hQ⟩⟩
theorem rv_door {M : am_M} {N x y : Nat} (hN : M g 2 0 = nI N) (h4 : N < 4) : rvC (am_up (am_up (am_up M g 5 N (nI x)) g 6 N (nI y)) g 2 0 (nI (N + 1))) g = rdS (rvC M g) x y := by
  have u : ∀ (M : am_M) (k i k' : Nat) (v : Int32), k' ≠ k → am_up M g k i v g k' = M g k' := fun M k i k' v h => am_up_off g k' (fun z => h z.2)
  have uc : ∀ (M : am_M) (k i k' : Nat) (v : Int32), am_up M g k i v (g + 2) k' = M (g + 2) k' := fun M k i k' v => am_up_off (g + 2) k' (fun z => absurd z.1 (by omega))
  refine mk_d (N := N) hN h4 up_s (fun f hf => ?_) (fun f h1 h2 => ?_) (fun f j h1 hj => ?_) ?_ ?_
  · unfold csc
    simp only [uc, u _ 5 _ 0 _ (by decide), u _ 6 _ 0 _ (by decide), u _ 2 _ 0 _ (by decide), u _ 5 _ 1 _ (by decide), u _ 6 _ 1 _ (by decide), u _ 2 _ 1 _ (by decide), u _ 5 _ 3 _ (by decide), u _ 6 _ 3 _ (by decide), u _ 2 _ 3 _ (by decide), u _ 5 _ 4 _ (by decide), u _ 6 _ 4 _ (by decide), u _ 2 _ 4 _ (by decide)]
    split <;> first | exact absurd rfl hf | rfl
  · unfold crw
    simp only [uc, u _ 5 _ 7 _ (by decide), u _ 6 _ 7 _ (by decide), u _ 2 _ 7 _ (by decide), u _ 5 _ 8 _ (by decide), u _ 6 _ 8 _ (by decide), u _ 2 _ 8 _ (by decide), u _ 5 _ 9 _ (by decide), u _ 6 _ 9 _ (by decide), u _ 2 _ 9 _ (by decide)]
    split <;> first | exact absurd rfl h1 | exact absurd rfl h2 | rfl
  · rcases h1 with rfl | rfl
    · show am_up _ g 2 0 _ g 5 j = M g 5 j
      rw [u _ 2 _ 5 _ (by decide), u _ 6 _ 5 _ (by decide), up_i hj]
    · show am_up _ g 2 0 _ g 6 j = M g 6 j
      rw [u _ 2 _ 6 _ (by decide), up_i hj, u _ 5 _ 6 _ (by decide)]
  · show am_up _ g 2 0 _ g 5 N = nI x
    rw [u _ 2 _ 5 _ (by decide), u _ 6 _ 5 _ (by decide), up_s]
  · show am_up _ g 2 0 _ g 6 N = nI y
    rw [u _ 2 _ 6 _ (by decide), up_s]
theorem rv_com {M : am_M} {N h q t : Nat} (hN : M g 3 0 = nI N) (h8 : N < 8) : rvC (am_up (am_up (am_up (am_up M g 7 N (nI h)) g 8 N (nI q)) g 9 N (nI t)) g 3 0 (nI (N + 1))) g = reS (rvC M g) h q t := by
  have u : ∀ (M : am_M) (k i k' : Nat) (v : Int32), k' ≠ k → am_up M g k i v g k' = M g k' := fun M k i k' v h => am_up_off g k' (fun z => h z.2)
  have uc : ∀ (M : am_M) (k i k' : Nat) (v : Int32), am_up M g k i v (g + 2) k' = M (g + 2) k' := fun M k i k' v => am_up_off (g + 2) k' (fun z => absurd z.1 (by omega))
  refine mk_e (N := N) hN h8 up_s (fun f hf => ?_) (fun f h1 => ?_) (fun f j h1 h2 hj => ?_) ?_ ?_ ?_
  · unfold csc
    simp only [uc, u _ 7 _ 0 _ (by decide), u _ 8 _ 0 _ (by decide), u _ 9 _ 0 _ (by decide), u _ 3 _ 0 _ (by decide), u _ 7 _ 1 _ (by decide), u _ 8 _ 1 _ (by decide), u _ 9 _ 1 _ (by decide), u _ 3 _ 1 _ (by decide), u _ 7 _ 2 _ (by decide), u _ 8 _ 2 _ (by decide), u _ 9 _ 2 _ (by decide), u _ 3 _ 2 _ (by decide), u _ 7 _ 4 _ (by decide), u _ 8 _ 4 _ (by decide), u _ 9 _ 4 _ (by decide), u _ 3 _ 4 _ (by decide)]
    split <;> first | exact absurd rfl hf | rfl
  · unfold crw
    simp only [uc, u _ 7 _ 5 _ (by decide), u _ 8 _ 5 _ (by decide), u _ 9 _ 5 _ (by decide), u _ 3 _ 5 _ (by decide), u _ 7 _ 6 _ (by decide), u _ 8 _ 6 _ (by decide), u _ 9 _ 6 _ (by decide), u _ 3 _ 6 _ (by decide)]
    split <;> first | (exfalso; omega) | rfl
  · rcases (by omega : f = 17 ∨ f = 18 ∨ f = 19) with rfl | rfl | rfl
    · show am_up _ g 3 0 _ g 7 j = M g 7 j
      rw [u _ 3 _ 7 _ (by decide), u _ 9 _ 7 _ (by decide), u _ 8 _ 7 _ (by decide), up_i hj]
    · show am_up _ g 3 0 _ g 8 j = M g 8 j
      rw [u _ 3 _ 8 _ (by decide), u _ 9 _ 8 _ (by decide), up_i hj, u _ 7 _ 8 _ (by decide)]
    · show am_up _ g 3 0 _ g 9 j = M g 9 j
      rw [u _ 3 _ 9 _ (by decide), up_i hj, u _ 8 _ 9 _ (by decide), u _ 7 _ 9 _ (by decide)]
  · show am_up _ g 3 0 _ g 7 N = nI h
    rw [u _ 3 _ 7 _ (by decide), u _ 9 _ 7 _ (by decide), u _ 8 _ 7 _ (by decide), up_s]
  · show am_up _ g 3 0 _ g 8 N = nI q
    rw [u _ 3 _ 8 _ (by decide), u _ 9 _ 8 _ (by decide), up_s]
  · show am_up _ g 3 0 _ g 9 N = nI t
    rw [u _ 3 _ 9 _ (by decide), up_s]
theorem rv_sec {M : am_M} {p t : Nat} (hp : p < (M (g + 2) 0 0).toNatClampNeg) : rvC (am_up (am_up M (g + 2) 8 p (M (g + 2) 8 p ||| nI (2 ^ t))) g 4 0 (M g 4 0 + 1)) g = rsS (rvC M g) p t := by
  refine mk_s (p := p) hp (fun f hf => ?_) up_s (fun f hf => ?_) (fun j hj => ?_) ?_
  · unfold csc
    rw [am_up_off g 0 (by omega), am_up_off g 0 (by omega), am_up_off g 1 (by omega), am_up_off g 1 (by omega), am_up_off g 2 (by omega), am_up_off g 2 (by omega), am_up_off g 3 (by omega), am_up_off g 3 (by omega), am_up_off (g + 2) 0 (by omega), am_up_off (g + 2) 0 (by omega), am_up_off (g + 2) 1 (by omega), am_up_off (g + 2) 1 (by omega), am_up_off (g + 2) 2 (by omega), am_up_off (g + 2) 2 (by omega), am_up_off (g + 2) 3 (by omega), am_up_off (g + 2) 3 (by omega)]
    split <;> first | exact absurd rfl hf | rfl
  · unfold crw
    rw [am_up_off g 5 (by omega), am_up_off g 5 (by omega), am_up_off g 6 (by omega), am_up_off g 6 (by omega), am_up_off g 7 (by omega), am_up_off g 7 (by omega), am_up_off g 8 (by omega), am_up_off g 8 (by omega), am_up_off g 9 (by omega), am_up_off g 9 (by omega), am_up_off (g + 2) 4 (by omega), am_up_off (g + 2) 4 (by omega), am_up_off (g + 2) 5 (by omega), am_up_off (g + 2) 5 (by omega), am_up_off (g + 2) 6 (by omega), am_up_off (g + 2) 6 (by omega), am_up_off (g + 2) 7 (by omega), am_up_off (g + 2) 7 (by omega)]
    split <;> first | exact absurd rfl hf | rfl
  · show am_up _ g 4 0 _ (g + 2) 8 j = M (g + 2) 8 j
    rw [up_o (by omega), up_i hj]
  · show am_up _ g 4 0 _ (g + 2) 8 p = M (g + 2) 8 p ||| nI (2 ^ t)
    rw [up_o (by omega), up_s]
theorem m_X3_readDoor {M : am_M} (hg : g = 2 ∨ g = 3) (hRg : R g 10 = g + 2) (hn : n ≤ 240) (hR : RdC M n L a) (ha : a ≤ n) (hv : rvC M g = ρ) (hP : PW ρ) (h4 : sD ρ < 4) (hF : CF M g n (clD n L ρ a) Q R) (hK : CK M g n L (clD n L ρ a) Q R) : am_WM E (d + 4) 32 [aO 3 1, aO 2 g] M R Q := by
  have e0 : ∀ {M' : am_M}, rvC M' g = ρ → M' g 0 0 = ρ 0 0 ∧ M' g 1 0 = ρ 1 0 ∧ M' g 2 0 = ρ 3 0 := fun {M'} h => by rw [← h]; exact ⟨rfl, rfl, rfl⟩
  refine w_X3_readDoor ?_
  rw [(e0 hv).1]
  refine m_X3_readNumber hn hR ha (fun f p e M2 hX2 e4 e5 => kv ?_) (fun x s2 e2 en2 M2 hX2 hR2 _ => kv ?_)
  · have hb := NU_inl ha e
    have h4 := f_ne e4 hb.1 hb.2.1
    exact m_X3_readNumber_f h4 (kv (m_X3_refuse_f h4 ⟨rfl, m_X3_readEnd_f h4 ⟨rfl, end_f hF (by unfold clD; rw [e]) hb (frD_of hX2 rd4_1) e4 e5⟩⟩))
  have g2 := NU_inr ha en2
  have hv2 : rvC M2 g = ρ := (rv_1 hg hX2 rd2_1).trans hv
  rw [(e0 hv2).2.1]
  refine m_X3_readNumber hn hR2 g2.2.2.2.2.2.2 (fun f p e M3 hX3 e4 e5 => kv ?_) (fun y s3 e3 en3 M3 hX3 hR3 h33 => kv ?_)
  · have hb := NU_inl g2.2.2.2.2.2.2 e
    have h4 := f_ne e4 hb.1 hb.2.1
    exact m_X3_refuse_f h4 ⟨rfl, m_X3_readEnd_f h4 ⟨rfl, end_f hF (by unfold clD; rw [en2]; dsimp only; rw [e]) hb (frD_tr (frD_of hX2 rd2_1) (frD_of hX3 rd4_1)) e4 e5⟩⟩
  have g3 := NU_inr g2.2.2.2.2.2.2 en3
  have hv3 : rvC M3 g = ρ := (rv_1 hg hX3 rd2_1).trans hv2
  have hX123 : eqX [(1, 2), (1, 3)] M M3 := eqX_tr hX2 hX3
  refine m_X3_refuse (d := d) hRg hv3 hP hR3.2.2.2 (fun hon => ⟨rfl, ?_⟩) (fun hon M4 hX4 e4 e5 => ⟨rfl, ?_⟩)
  · have ecl : clD n L ρ a = fin n L (rdS ρ x y) e3 := by unfold clD; rw [en2]; dsimp only; rw [en3]; dsimp only; rw [if_pos hon]
    refine m_X3_readEnd hn hR3 g3.2.2.2.2.2.2 (fun f p e M5 hX5 e4 e5 => ⟨rfl, ?_⟩) (fun e5 en5 M5 hX5 hR5 => ⟨rfl, ?_⟩)
    · have hb := EN_inl g3.2.2.2.2.2.2 e
      exact end_f hF (by rw [ecl]; unfold fin; rw [e]) hb (frD_tr (frD_of hX123 rd2_1) (frD_of hX5 rd4_1)) e4 e5
    · have hX : eqX [(1, 2), (1, 3)] M M5 := eqX_tr hX123 hX5
      have hv5 : rvC M5 g = ρ := (rv_1 hg hX rd2_1).trans hv
      have hN5 : M5 g 2 0 = nI (sD ρ) := by rw [(e0 hv5).2.2]; exact hP.1.1.2.2.2.1
      refine ⟨fun z => absurd hR5.2.2.2 z, fun _ => ?_⟩
      refine m_X2_addDoor hN5 h4 ⟨rfl, ?_⟩
      have h1 : ∀ o, o ≠ g → (am_up (am_up (am_up M5 g 5 (sD ρ) (nI x)) g 6 (sD ρ) (nI y)) g 2 0 (nI (sD ρ + 1))) o = M5 o := fun o ho => by
        funext q
        rw [am_up_off o q (fun z => ho z.1), am_up_off o q (fun z => ho z.1), am_up_off o q (fun z => ho z.1)]
      refine hK _ _ (by rw [ecl]; unfold fin; rw [en5]) _ ⟨fun o a1 a2 a3 => ?_, ?_, ?_⟩ (RdC_o hR5 (h1 1 (by omega))) ?_ ?_
      · rw [h1 o a2]; exact (frD_of hX rd2_1).1 o a1 a2 a3
      · rw [h1 1 (by omega), hX 1 0 (by simp)]
      · rw [h1 1 (by omega), hX 1 1 (by simp)]
      · rw [h1 1 (by omega), hX 1 5 (by simp)]
      · rw [rv_door hN5 h4, hv5]
  · have h4 : ¬ M4 1 4 0 = 0 := by rw [e4]; decide
    have ecl : clD n L ρ a = Sum.inl (4, s3) := by unfold clD; rw [en2]; dsimp only; rw [en3]; dsimp only; rw [if_neg hon]
    exact m_X3_readEnd_f h4 ⟨rfl, end_f (n := n) hF ecl ⟨by omega, by omega, by omega⟩ (frD_tr (frD_of hX123 rd2_1) (frD_of hX4 rd45_1)) e4 ⟨by rw [e5, h33], e3, g3.2.2.2.2.2.2, by rw [hX4 1 2 (by simp)]; exact hR3.2.2.1⟩⟩
theorem m_X3_readComing {M : am_M} (hg : g = 2 ∨ g = 3) (hn : n ≤ 240) (hR : RdC M n L a) (ha : a ≤ n) (hv : rvC M g = ρ) (hP : PW ρ) (h8 : sC ρ < 8) (hF : CF M g n (clE n L ρ a) Q R) (hK : CK M g n L (clE n L ρ a) Q R) : am_WM E (d + 4) 33 [aO 3 1, aO 2 g] M R Q := by
  have e0 : ∀ {M' : am_M}, rvC M' g = ρ → M' g 2 0 = ρ 3 0 ∧ M' g 3 0 = ρ 4 0 := fun {M'} h => by rw [← h]; exact ⟨rfl, rfl⟩
  refine w_X3_readComing (m_X3_readNumber hn hR ha (fun f p e M1 hX1 e4 e5 => kv ?_) (fun h s1 e1 en1 M1 hX1 hR1 _ => kv ?_))
  · have hb := NU_inl ha e
    have h4 := f_ne e4 hb.1 hb.2.1
    exact m_X3_readNumber_f h4 (kv (m_X3_readNumber_f h4 (kv (m_X3_readEnd_f h4 ⟨rfl, end_f hF (by unfold clE; rw [e]) hb (frD_of hX1 rd4_1) e4 e5⟩))))
  have g1 := NU_inr ha en1
  have hv1 : rvC M1 g = ρ := (rv_1 hg hX1 rd2_1).trans hv
  rw [(e0 hv1).1]
  refine m_X3_readNumber hn hR1 g1.2.2.2.2.2.2 (fun f p e M2 hX2 e4 e5 => kv ?_) (fun q s2 e2 en2 M2 hX2 hR2 _ => kv ?_)
  · have hb := NU_inl g1.2.2.2.2.2.2 e
    have h4 := f_ne e4 hb.1 hb.2.1
    exact m_X3_readNumber_f h4 (kv (m_X3_readEnd_f h4 ⟨rfl, end_f hF (by unfold clE; rw [en1]; dsimp only; rw [e]) hb (frD_tr (frD_of hX1 rd2_1) (frD_of hX2 rd4_1)) e4 e5⟩))
  have g2 := NU_inr g1.2.2.2.2.2.2 en2
  refine m_X3_readNumber hn hR2 g2.2.2.2.2.2.2 (fun f p e M3 hX3 e4 e5 => kv ?_) (fun t s3 e3 en3 M3 hX3 hR3 _ => kv ?_)
  · have hb := NU_inl g2.2.2.2.2.2.2 e
    have h4 := f_ne e4 hb.1 hb.2.1
    exact m_X3_readEnd_f h4 ⟨rfl, end_f hF (by unfold clE; rw [en1]; dsimp only; rw [en2]; dsimp only; rw [e]) hb (frD_tr (frD_of hX1 rd2_1) (frD_tr (frD_of hX2 rd2_1) (frD_of hX3 rd4_1))) e4 e5⟩
  have g3 := NU_inr g2.2.2.2.2.2.2 en3
  have hX123 : eqX [(1, 2), (1, 3)] M M3 := eqX_tr hX1 (eqX_tr hX2 hX3)
  have ecl : clE n L ρ a = fin n L (reS ρ h q t) e3 := by unfold clE; rw [en1]; dsimp only; rw [en2]; dsimp only; rw [en3]
  refine m_X3_readEnd hn hR3 g3.2.2.2.2.2.2 (fun f p e M5 hX5 e4 e5 => ⟨rfl, ?_⟩) (fun e5 en5 M5 hX5 hR5 => ⟨rfl, ?_⟩)
  · have hb := EN_inl g3.2.2.2.2.2.2 e
    exact end_f hF (by rw [ecl]; unfold fin; rw [e]) hb (frD_tr (frD_of hX123 rd2_1) (frD_of hX5 rd4_1)) e4 e5
  · have hX : eqX [(1, 2), (1, 3)] M M5 := eqX_tr hX123 hX5
    have hv5 : rvC M5 g = ρ := (rv_1 hg hX rd2_1).trans hv
    have hN5 : M5 g 3 0 = nI (sC ρ) := by rw [(e0 hv5).2]; exact hP.1.1.2.2.2.2.2.1
    refine ⟨fun z => absurd hR5.2.2.2 z, fun _ => ?_⟩
    refine m_X2_addComing hN5 h8 ⟨rfl, ?_⟩
    have h1 : ∀ o, o ≠ g → (am_up (am_up (am_up (am_up M5 g 7 (sC ρ) (nI h)) g 8 (sC ρ) (nI q)) g 9 (sC ρ) (nI t)) g 3 0 (nI (sC ρ + 1))) o = M5 o := fun o ho => by
      funext q
      rw [am_up_off o q (fun z => ho z.1), am_up_off o q (fun z => ho z.1), am_up_off o q (fun z => ho z.1), am_up_off o q (fun z => ho z.1)]
    refine hK _ _ (by rw [ecl]; unfold fin; rw [en5]) _ ⟨fun o a1 a2 a3 => ?_, ?_, ?_⟩ (RdC_o hR5 (h1 1 (by omega))) ?_ ?_
    · rw [h1 o a2]; exact (frD_of hX rd2_1).1 o a1 a2 a3
    · rw [h1 1 (by omega), hX 1 0 (by simp)]
    · rw [h1 1 (by omega), hX 1 1 (by simp)]
    · rw [h1 1 (by omega), hX 1 5 (by simp)]
    · rw [rv_com hN5 h8, hv5]
theorem m_X3_readFirst {M : am_M} (hg : g = 2 ∨ g = 3) (hRg : R g 10 = g + 2) (hn : n ≤ 240) (hR : RdC M n L a) (ha : a ≤ n) (hv : rvC M g = ρ) (hP : PW ρ) (hF : CF M g n (clS n L ρ a) Q R) (hK : CK M g n L (clS n L ρ a) Q R) : am_WM E (d + 4) 34 [aO 3 1, aO 2 g] M R Q := by
  have h8 := hP.1.1.1
  have e0 : ∀ {M' : am_M}, rvC M' g = ρ → M' (g + 2) 0 0 = ρ 2 0 := fun {M'} h => by rw [← h]; rfl
  have eN : ∀ {M' : am_M}, rvC M' g = ρ → sN (vc M' g (g + 2)) = sN ρ := fun {M'} h => by unfold sN; rw [rvC_vc 2 (by omega), h]
  have eb : ∀ {M' : am_M}, rvC M' g = ρ → ∀ p, blindP (vc M' g (g + 2)) p ↔ blindP ρ p := fun {M'} h p => by unfold blindP; rw [rvC_vc 10 (by omega), h]
  have hN : ∀ {M' : am_M}, rvC M' g = ρ → M' (g + 2) 0 0 = nI (sN (vc M' g (g + 2))) := fun {M'} h => by rw [eN h, e0 h]; exact hP.1.1.2.1
  have e14 : ∀ {M' : am_M}, rvC M' g = ρ → ∀ p, p < sN ρ → M' (g + 2) 8 p = ρ 14 p := fun {M'} h p hp => by
    rw [← h]
    exact (tr_lt (show p < (M' (g + 2) 0 0).toNatClampNeg by rw [e0 h]; exact hp)).symm
  refine w_X3_readFirst ?_
  rw [hRg, e0 hv]
  refine m_X3_readNumber hn hR ha (fun f p e M1 hX1 e4 e5 => kv ?_) (fun p s1 e1 en1 M1 hX1 hR1 h31 => kv ?_)
  · have hb := NU_inl ha e
    have h4 := f_ne e4 hb.1 hb.2.1
    exact ⟨fun _ => m_X3_readNumber_f h4 (kv ⟨fun _ => m_X3_readEnd_f h4 ⟨rfl, end_f hF (by unfold clS; rw [e]) hb (frD_of hX1 rd4_1) e4 e5⟩, fun y => absurd y h4⟩), fun y => absurd y h4⟩
  have g1 := NU_inr ha en1
  have hp : p < sN ρ := by
    have q1 := g1.2.2.1
    rw [hP.1.1.2.1] at q1
    exact hi_lt g1.1 (by omega) q1
  have hv1 : rvC M1 g = ρ := (rv_1 hg hX1 rd2_1).trans hv
  refine ⟨fun y => absurd hR1.2.2.2 y, fun _ => m_X4_has (g := g) (hN hv1) (by rw [eN hv1]; exact h8) (fun p2 hp2 e => k1e ?_) (fun hne => absurd rfl (hne p (by rw [eN hv1]; exact hp)))⟩
  refine m_X4_isBlind (g := g) (by rw [eN hv1]; exact h8) (by rw [eN hv1]; exact hp) (fun hbl => k1e ?_) (fun hbl => k0e ?_)
  · rw [eb hv1] at hbl
    have ecl : clS n L ρ a = Sum.inl (4, s1) := by unfold clS; rw [en1]; dsimp only; rw [if_pos hbl]
    refine m_X3_failAt hR1.2.2.2 (fun M2 hX2 e4 e5 => ⟨rfl, ?_⟩)
    have h4 : ¬ M2 1 4 0 = 0 := by rw [e4]; decide
    exact m_X3_readNumber_f h4 (kv ⟨fun _ => m_X3_readEnd_f h4 ⟨rfl, end_f (n := n) hF ecl ⟨by omega, by omega, by omega⟩ (frD_tr (frD_of hX1 rd2_1) (frD_of hX2 rd45_1)) e4 ⟨by rw [e5, h31], e1, g1.2.2.2.2.2.2, by rw [hX2 1 2 (by simp)]; exact hR1.2.2.1⟩⟩, fun y => absurd y h4⟩)
  · rw [eb hv1] at hbl
    refine m_X3_readNumber hn hR1 g1.2.2.2.2.2.2 (fun f p e M2 hX2 e4 e5 => kv ?_) (fun t s2 e2 en2 M2 hX2 hR2 h32 => kv ?_)
    · have hb := NU_inl g1.2.2.2.2.2.2 e
      have h4 := f_ne e4 hb.1 hb.2.1
      exact ⟨fun _ => m_X3_readEnd_f h4 ⟨rfl, end_f hF (by unfold clS; rw [en1]; dsimp only; rw [if_neg hbl, e]) hb (frD_tr (frD_of hX1 rd2_1) (frD_of hX2 rd4_1)) e4 e5⟩, fun y => absurd y h4⟩
    have g2 := NU_inr g1.2.2.2.2.2.2 en2
    have ht := hi_le (w := 7) g2.1 (by omega) g2.2.2.1
    have hv2 : rvC M2 g = ρ := (rv_1 hg hX2 rd2_1).trans hv1
    have hX12 : eqX [(1, 2), (1, 3)] M M2 := eqX_tr hX1 hX2
    have hin : vp_in (nI p) 8 := ix_in (by omega) (by omega)
    refine ⟨fun y => absurd hR2.2.2.2 y, fun _ => m_X4_has (g := g) (hN hv2) (by rw [eN hv2]; exact h8) (fun p2 hp2 e => k1e ⟨hin, ?_⟩) (fun hne => absurd rfl (hne p (by rw [eN hv2]; exact hp)))⟩
    rw [ix_cl (n := p) (by omega), e14 hv2 p hp]
    refine m_X6_holds (fun hbt => k1e ?_) (fun hbt => k0e ?_)
    · have ecl : clS n L ρ a = Sum.inl (4, s2) := by unfold clS; rw [en1]; dsimp only; rw [if_neg hbl, en2]; dsimp only; rw [if_pos hbt]
      refine m_X3_failAt hR2.2.2.2 (fun M3 hX3 e4 e5 => ⟨rfl, ?_⟩)
      have h4 : ¬ M3 1 4 0 = 0 := by rw [e4]; decide
      exact m_X3_readEnd_f h4 ⟨rfl, end_f (n := n) hF ecl ⟨by omega, by omega, by omega⟩ (frD_tr (frD_of hX12 rd2_1) (frD_of hX3 rd45_1)) e4 ⟨by rw [e5, h32], e2, g2.2.2.2.2.2.2, by rw [hX3 1 2 (by simp)]; exact hR2.2.2.1⟩⟩
    · have ecl : clS n L ρ a = fin n L (rsS ρ p t) e2 := by unfold clS; rw [en1]; dsimp only; rw [if_neg hbl, en2]; dsimp only; rw [if_neg (by rw [hbt]; decide)]
      refine m_X3_readEnd hn hR2 g2.2.2.2.2.2.2 (fun f p e M5 hX5 e4 e5 => ⟨rfl, ?_⟩) (fun e5 en5 M5 hX5 hR5 => ⟨rfl, ?_⟩)
      · have hb := EN_inl g2.2.2.2.2.2.2 e
        exact end_f hF (by rw [ecl]; unfold fin; rw [e]) hb (frD_tr (frD_of hX12 rd2_1) (frD_of hX5 rd4_1)) e4 e5
      · have hX : eqX [(1, 2), (1, 3)] M M5 := eqX_tr hX12 hX5
        have hv5 : rvC M5 g = ρ := (rv_1 hg hX rd2_1).trans hv
        refine ⟨fun z => absurd hR5.2.2.2 z, fun _ => m_X4_has (g := g) (hN hv5) (by rw [eN hv5]; exact h8) (fun p2 hp2 e => k1e ⟨hin, hin, ?_⟩) (fun hne => absurd rfl (hne p (by rw [eN hv5]; exact hp)))⟩
        rw [sh1 (by omega), up_o (o' := g) (k' := 4) (i' := 0) (by omega)]
        have h1 : ∀ o, o ≠ g → o ≠ g + 2 → (am_up (am_up M5 (g + 2) 8 p (M5 (g + 2) 8 p ||| nI (2 ^ t))) g 4 0 (M5 g 4 0 + 1)) o = M5 o := fun o ho ho2 => by
          funext q
          rw [am_up_off o q (fun z => ho z.1), am_up_off o q (fun z => ho2 z.1)]
        refine hK _ _ (by rw [ecl]; unfold fin; rw [en5]) _ ⟨fun o a1 a2 a3 => ?_, ?_, ?_⟩ (RdC_o hR5 (h1 1 (by omega) (by omega))) ?_ ?_
        · rw [h1 o a2 a3]; exact (frD_of hX rd2_1).1 o a1 a2 a3
        · rw [h1 1 (by omega) (by omega), hX 1 0 (by simp)]
        · rw [h1 1 (by omega) (by omega), hX 1 1 (by simp)]
        · rw [h1 1 (by omega) (by omega), hX 1 5 (by simp)]
        · rw [rv_sec (by rw [e0 hv5]; exact hp), hv5]
end Clauses2
