/-! the class's reader: clauses -/
def frD (g : Nat) (M M' : am_M) : Prop := (∀ o, o ≠ 1 → o ≠ g → o ≠ g + 2 → M' o = M o) ∧ M' 1 0 = M 1 0 ∧ M' 1 1 = M 1 1
theorem frD_tr {g : Nat} {M1 M2 M3 : am_M} (h1 : frD g M1 M2) (h2 : frD g M2 M3) : frD g M1 M3 := ⟨fun o a b c => (h2.1 o a b c).trans (h1.1 o a b c), h2.2.1.trans h1.2.1, h2.2.2.trans h1.2.2⟩
theorem frD_of {S : List (Nat × Nat)} {g : Nat} {M M' : am_M} (hX : eqX S M M') (hS : ∀ o k, (o, k) ∈ S → o = 1 ∧ 2 ≤ k) : frD g M M' := ⟨fun o a _ _ => by
  funext k
  exact hX o k (fun z => a (hS o k z).1), hX 1 0 (fun z => absurd (hS 1 0 z).2 (by omega)), hX 1 1 (fun z => absurd (hS 1 1 z).2 (by omega))⟩
theorem rd4_1 : ∀ o k, (o, k) ∈ rdS4 → o = 1 ∧ 2 ≤ k := fun o k h => by simp [rdS4] at h; omega
theorem rd2_1 : ∀ o k, (o, k) ∈ [(1, 2), (1, 3)] → o = 1 ∧ 2 ≤ k := fun o k h => by simp at h; omega
theorem rd45_1 : ∀ o k, (o, k) ∈ [(1, 4), (1, 5)] → o = 1 ∧ 2 ≤ k := fun o k h => by simp at h; omega
theorem rv_1 {S : List (Nat × Nat)} {g : Nat} {M M' : am_M} (hg : g = 2 ∨ g = 3) (hX : eqX S M M') (hS : ∀ o k, (o, k) ∈ S → o = 1 ∧ 2 ≤ k) : rvC M' g = rvC M g := by
  have h : ∀ o, o ≠ 1 → M' o = M o := fun o a => by
    funext k
    exact hX o k (fun z => a (hS o k z).1)
  exact rvC_off (h g (by omega)) (h (g + 2) (by omega))
abbrev CF (M : am_M) (g n : Nat) (o : Out) (Q : am_Q) (R : am_R) : Prop := ∀ f p, o = Sum.inl (f, p) → ∀ M', frD g M M' → M' 1 4 0 = nI f → FP n M' p → Q none M' R
abbrev CK (M : am_M) (g n : Nat) (L : Nat → Int32) (o : Out) (Q : am_Q) (R : am_R) : Prop := ∀ ρ' e, o = Sum.inr (ρ', e) → ∀ M', frD g M M' → RdC M' n L e → M' 1 5 0 = M 1 5 0 → rvC M' g = ρ' → Q none M' R
theorem f_ne {f : Nat} {x : Int32} (h : x = nI f) (h1 : 1 ≤ f) (h2 : f ≤ 4) : ¬ x = 0 := by
  rw [h]
  exact nI_ne0 (by omega) (by omega)
theorem csc_eq {M M' : am_M} {g f : Nat} (h : ∀ o k, (o = g ∧ k ≤ 4) ∨ (o = g + 2 ∧ k ≤ 3) → M' o k 0 = M o k 0) : csc M' g f = csc M g f := by
  unfold csc
  rw [h g 0 (by omega), h g 1 (by omega), h g 2 (by omega), h g 3 (by omega), h g 4 (by omega), h (g + 2) 0 (by omega), h (g + 2) 1 (by omega), h (g + 2) 2 (by omega), h (g + 2) 3 (by omega)]
section Clauses
variable {E : Nat → Nat → Int32} {d : Nat} {Q : am_Q} {R : am_R} {n a g : Nat} {L : Nat → Int32} {ρ : Sc}
theorem end_f {M M' : am_M} {f p : Nat} {o : Out} (hF : CF M g n o Q R) (e : o = Sum.inl (f, p)) (h1 : 1 ≤ f ∧ f ≤ 4 ∧ p ≤ n) (hfr : frD g M M') (e4 : M' 1 4 0 = nI f) (e5 : FP n M' p) {P : Prop} : (¬ M' 1 4 0 = 0 → Q none M' R) ∧ (M' 1 4 0 = 0 → P) :=
  ⟨fun _ => hF f p e M' hfr e4 e5, fun y => absurd y (f_ne e4 h1.1 h1.2.1)⟩
theorem m_X3_readWall {M : am_M} (hg : g = 2 ∨ g = 3) (hn : n ≤ 240) (hR : RdC M n L a) (ha : a ≤ n) (hv : rvC M g = ρ) (hF : CF M g n (clW n L ρ a) Q R) (hK : CK M g n L (clW n L ρ a) Q R) : am_WM E (d + 4) 30 [aO 3 1, aO 2 g] M R Q := by
  refine w_X3_readWall (m_X3_readNumber hn hR ha (fun f p e M1 hX1 e4 e5 => kv ?_) (fun w s1 e1 en1 M1 hX1 hR1 _ => kv (m_X3_readNumber hn hR1 (NU_inr ha en1).2.2.2.2.2.2 (fun f p e M2 hX2 e4 e5 => kv ?_) (fun h s2 e2 en2 M2 hX2 hR2 _ => kv (m_X3_readEnd hn hR2 (NU_inr (NU_inr ha en1).2.2.2.2.2.2 en2).2.2.2.2.2.2 (fun f p e M3 hX3 e4 e5 => ⟨rfl, ?_⟩) (fun e3 en3 M3 hX3 hR3 => ⟨rfl, ?_⟩))))))
  · have hb := NU_inl ha e
    have h4 := f_ne e4 hb.1 hb.2.1
    exact m_X3_readNumber_f h4 (kv (m_X3_readEnd_f h4 ⟨rfl, end_f hF (by unfold clW; rw [e]) hb (frD_of hX1 rd4_1) e4 e5⟩))
  · have hb := NU_inl (NU_inr ha en1).2.2.2.2.2.2 e
    have h4 := f_ne e4 hb.1 hb.2.1
    exact m_X3_readEnd_f h4 ⟨rfl, end_f hF (by unfold clW; rw [en1]; dsimp only; rw [e]) hb (frD_tr (frD_of hX1 rd2_1) (frD_of hX2 rd4_1)) e4 e5⟩
  · have hb := EN_inl (NU_inr (NU_inr ha en1).2.2.2.2.2.2 en2).2.2.2.2.2.2 e
    exact end_f hF (by unfold clW fin; rw [en1]; dsimp only; rw [en2]; dsimp only; rw [e]) hb (frD_tr (frD_of hX1 rd2_1) (frD_tr (frD_of hX2 rd2_1) (frD_of hX3 rd4_1))) e4 e5
  · refine ⟨fun y => absurd hR3.2.2.2 y, fun _ => ?_⟩
    have hX : eqX [(1, 2), (1, 3)] M M3 := eqX_tr hX1 (eqX_tr hX2 hX3)
    refine hK _ _ (by unfold clW fin; rw [en1]; dsimp only; rw [en2]; dsimp only; rw [en3]) _ ⟨fun o a1 a2 a3 => ?_, ?_, ?_⟩ ?_ ?_ ?_
    · funext k
      rw [am_up_off o k (fun z => a2 z.1), am_up_off o k (fun z => a2 z.1), hX o k (by simp; omega)]
    · rw [am_up_off 1 0 (by omega), am_up_off 1 0 (by omega), hX 1 0 (by simp)]
    · rw [am_up_off 1 1 (by omega), am_up_off 1 1 (by omega), hX 1 1 (by simp)]
    · refine ⟨?_, fun j hj => ?_, ?_, ?_⟩
      · rw [up_o (by omega), up_o (by omega)]; exact hR3.1
      · rw [up_o (by omega), up_o (by omega)]; exact hR3.2.1 j hj
      · rw [up_o (by omega), up_o (by omega)]; exact hR3.2.2.1
      · rw [up_o (by omega), up_o (by omega)]; exact hR3.2.2.2
    · rw [up_o (by omega), up_o (by omega), hX 1 5 (by simp)]
    · rw [← hv, ← rv_1 hg hX rd2_1]
      refine mk_w ?_ up_s (fun f h0 h1 => ?_) ?_
      · show am_up (am_up M3 g 0 0 (nI w)) g 1 0 (nI h) g 0 0 = nI w
        rw [up_k (by decide), up_s]
      · unfold csc
        rw [up_o (o' := g + 2) (k' := 0) (by omega), up_o (o' := g + 2) (k' := 0) (by omega), up_o (o' := g + 2) (k' := 1) (by omega), up_o (o' := g + 2) (k' := 1) (by omega), up_o (o' := g + 2) (k' := 2) (by omega), up_o (o' := g + 2) (k' := 2) (by omega), up_o (o' := g + 2) (k' := 3) (by omega), up_o (o' := g + 2) (k' := 3) (by omega), up_k (o' := g) (k' := 2) (by decide), up_k (o' := g) (k' := 2) (by decide), up_k (o' := g) (k' := 3) (by decide), up_k (o' := g) (k' := 3) (by decide), up_k (o' := g) (k' := 4) (by decide), up_k (o' := g) (k' := 4) (by decide)]
        split <;> first | exact absurd rfl h0 | exact absurd rfl h1 | rfl
      · funext f
        unfold crw
        rw [am_up_off (g + 2) 4 (by omega), am_up_off (g + 2) 4 (by omega), am_up_off (g + 2) 5 (by omega), am_up_off (g + 2) 5 (by omega), am_up_off (g + 2) 6 (by omega), am_up_off (g + 2) 6 (by omega), am_up_off (g + 2) 7 (by omega), am_up_off (g + 2) 7 (by omega), am_up_off (g + 2) 8 (by omega), am_up_off (g + 2) 8 (by omega), am_up_off g 5 (by omega), am_up_off g 5 (by omega), am_up_off g 6 (by omega), am_up_off g 6 (by omega), am_up_off g 7 (by omega), am_up_off g 7 (by omega), am_up_off g 8 (by omega), am_up_off g 8 (by omega), am_up_off g 9 (by omega), am_up_off g 9 (by omega)]
theorem m_X3_refuse {M : am_M} {x y : Int32} (hRg : R g 10 = g + 2) (hv : rvC M g = ρ) (hP : PW ρ) (h4 : M 1 4 0 = 0) (h1 : onF ρ x y = -1 → Q none M R) (h0 : ¬ onF ρ x y = -1 → ∀ M', eqX [(1, 4), (1, 5)] M M' → M' 1 4 0 = 4 → M' 1 5 0 = M 1 3 0 → Q none M' R) : am_WM E (d + 3) 35 [aO 3 1, aO 2 g, aI x, aI y] M R Q := by
  have eN : sN (vc M g (g + 2)) = sN ρ := by unfold sN; rw [rvC_vc 2 (by omega), hv]
  have eD : sD (vc M g (g + 2)) = sD ρ := by unfold sD; rw [rvC_vc 3 (by omega), hv]
  have eo : onF (vc M g (g + 2)) = onF ρ := onF_c2 (fun f hf => by
    have : f ≤ 19 := by
      unfold lkf at hf
      split at hf <;> first | omega | cases hf
    rw [rvC_vc f this, hv])
  have hN : M (g + 2) 0 0 = nI (sN ρ) := by rw [← hP.1.1.2.1, ← hv]; rfl
  have hD : M g 2 0 = nI (sD ρ) := by rw [← hP.1.1.2.2.2.1, ← hv]; rfl
  refine w_X3_refuseTakenCell ⟨fun z => absurd h4 z, fun _ => ?_⟩
  rw [hRg]
  refine m_X4_whatIsOn (g := g) (c := g + 2) (by rw [eN]; exact hN) (by rw [eN]; exact hP.1.1.1) (by rw [eD]; exact hD) (by rw [eD]; exact hP.1.1.2.2.1) (kv ?_)
  rw [eo]
  exact ⟨h1, fun z => m_X3_failAt h4 (fun M' hX e4 e5 => ⟨rfl, h0 z M' hX e4 e5⟩)⟩
theorem m_X3_refuse_f {M : am_M} {x y : Int32} (h4 : ¬ M 1 4 0 = 0) (hQ : Q none M R) : am_WM E (d + 1) 35 [aO 3 1, aO 2 g, aI x, aI y] M R Q :=
  w_X3_refuseTakenCell ⟨fun _ => hQ, fun z => absurd z h4⟩
theorem m_X4_addPicture {M : am_M} {c N : Nat} {x1 x2 x3 x4 : Int32} (hN : M c 0 0 = nI N) (h8 : N < 8) (hQ : Q none (am_up (am_up (am_up (am_up (am_up (am_up (am_up M c 4 N x1) c 5 N x2) c 6 N x3) c 7 N x4) c 8 N 0) c 9 N (-1)) c 0 0 (nI (N + 1))) R) : am_WM E (d + 1) 40 [aO 4 c, aI x1, aI x2, aI x3, aI x4] M R Q := by
  have u : ∀ (M : am_M) (k i : Nat) (v : Int32), k ≠ 0 → am_up M c k i v c 0 0 = M c 0 0 := fun _ _ _ _ h => up_k (fun e => h e.symm)
  refine w_X4_addPicture ?_
  simp only [u _ 4 _ _ (by decide), u _ 5 _ _ (by decide), u _ 6 _ _ (by decide), u _ 7 _ _ (by decide), u _ 8 _ _ (by decide), u _ 9 _ _ (by decide), hN]
  rw [ix_cl (n := N) (by omega), nI_1]
  have hin : vp_in (nI N) 8 := ix_in h8 (by omega)
  exact ⟨fun z => absurd z (ix_ge (n := 8) h8 (by omega)), fun _ => ⟨hin, hin, hin, hin, hin, hin, hQ⟩⟩
theorem rv_pic {M : am_M} {N k x y w : Nat} (hN : M (g + 2) 0 0 = nI N) (h8 : N < 8) : rvC (am_up (am_up (am_up (am_up (am_up (am_up (am_up M (g + 2) 4 N (nI k)) (g + 2) 5 N (nI x)) (g + 2) 6 N (nI y)) (g + 2) 7 N (nI w)) (g + 2) 8 N 0) (g + 2) 9 N (-1)) (g + 2) 0 0 (nI (N + 1))) g = rpS (rvC M g) k x y w := by
  have u : ∀ (M : am_M) (k i k' : Nat) (v : Int32), k' ≠ k → am_up M (g + 2) k i v (g + 2) k' = M (g + 2) k' := fun M k i k' v h => am_up_off (g + 2) k' (fun z => h z.2)
  have ug : ∀ (M : am_M) (k i k' : Nat) (v : Int32), am_up M (g + 2) k i v g k' = M g k' := fun M k i k' v => am_up_off g k' (fun z => absurd z.1 (by omega))
  refine mk_p (N := N) hN h8 up_s (fun f hf => ?_) (fun f hf => ?_) (fun f j h1 h2 hj => ?_) ?_ ?_ ?_ ?_ ?_
  · unfold csc
    simp only [ug, u _ 4 _ 1 _ (by decide), u _ 5 _ 1 _ (by decide), u _ 6 _ 1 _ (by decide), u _ 7 _ 1 _ (by decide), u _ 8 _ 1 _ (by decide), u _ 9 _ 1 _ (by decide), u _ 0 _ 1 _ (by decide), u _ 4 _ 2 _ (by decide), u _ 5 _ 2 _ (by decide), u _ 6 _ 2 _ (by decide), u _ 7 _ 2 _ (by decide), u _ 8 _ 2 _ (by decide), u _ 9 _ 2 _ (by decide), u _ 0 _ 2 _ (by decide), u _ 4 _ 3 _ (by decide), u _ 5 _ 3 _ (by decide), u _ 6 _ 3 _ (by decide), u _ 7 _ 3 _ (by decide), u _ 8 _ 3 _ (by decide), u _ 9 _ 3 _ (by decide), u _ 0 _ 3 _ (by decide)]
    split <;> first | exact absurd rfl hf | rfl
  · unfold crw
    simp only [ug]
    split <;> first | (exfalso; omega) | rfl
  · rcases (by omega : f = 10 ∨ f = 11 ∨ f = 12 ∨ f = 13 ∨ f = 14) with rfl | rfl | rfl | rfl | rfl
    · show am_up _ (g + 2) 0 0 _ (g + 2) 4 j = M (g + 2) 4 j
      rw [u _ 0 _ 4 _ (by decide), u _ 9 _ 4 _ (by decide), u _ 8 _ 4 _ (by decide), u _ 7 _ 4 _ (by decide), u _ 6 _ 4 _ (by decide), u _ 5 _ 4 _ (by decide), up_i hj]
    · show am_up _ (g + 2) 0 0 _ (g + 2) 5 j = M (g + 2) 5 j
      rw [u _ 0 _ 5 _ (by decide), u _ 9 _ 5 _ (by decide), u _ 8 _ 5 _ (by decide), u _ 7 _ 5 _ (by decide), u _ 6 _ 5 _ (by decide), up_i hj, u _ 4 _ 5 _ (by decide)]
    · show am_up _ (g + 2) 0 0 _ (g + 2) 6 j = M (g + 2) 6 j
      rw [u _ 0 _ 6 _ (by decide), u _ 9 _ 6 _ (by decide), u _ 8 _ 6 _ (by decide), u _ 7 _ 6 _ (by decide), up_i hj, u _ 5 _ 6 _ (by decide), u _ 4 _ 6 _ (by decide)]
    · show am_up _ (g + 2) 0 0 _ (g + 2) 7 j = M (g + 2) 7 j
      rw [u _ 0 _ 7 _ (by decide), u _ 9 _ 7 _ (by decide), u _ 8 _ 7 _ (by decide), up_i hj, u _ 6 _ 7 _ (by decide), u _ 5 _ 7 _ (by decide), u _ 4 _ 7 _ (by decide)]
    · show am_up _ (g + 2) 0 0 _ (g + 2) 8 j = M (g + 2) 8 j
      rw [u _ 0 _ 8 _ (by decide), u _ 9 _ 8 _ (by decide), up_i hj, u _ 7 _ 8 _ (by decide), u _ 6 _ 8 _ (by decide), u _ 5 _ 8 _ (by decide), u _ 4 _ 8 _ (by decide)]
  · show am_up _ (g + 2) 0 0 _ (g + 2) 4 N = nI k
    rw [u _ 0 _ 4 _ (by decide), u _ 9 _ 4 _ (by decide), u _ 8 _ 4 _ (by decide), u _ 7 _ 4 _ (by decide), u _ 6 _ 4 _ (by decide), u _ 5 _ 4 _ (by decide), up_s]
  · show am_up _ (g + 2) 0 0 _ (g + 2) 5 N = nI x
    rw [u _ 0 _ 5 _ (by decide), u _ 9 _ 5 _ (by decide), u _ 8 _ 5 _ (by decide), u _ 7 _ 5 _ (by decide), u _ 6 _ 5 _ (by decide), up_s]
  · show am_up _ (g + 2) 0 0 _ (g + 2) 6 N = nI y
    rw [u _ 0 _ 6 _ (by decide), u _ 9 _ 6 _ (by decide), u _ 8 _ 6 _ (by decide), u _ 7 _ 6 _ (by decide), up_s]
  · show am_up _ (g + 2) 0 0 _ (g + 2) 7 N = nI w
    rw [u _ 0 _ 7 _ (by decide), u _ 9 _ 7 _ (by decide), u _ 8 _ 7 _ (by decide), up_s]
  · show am_up _ (g + 2) 0 0 _ (g + 2) 8 N = 0
    rw [u _ 0 _ 8 _ (by decide), u _ 9 _ 8 _ (by decide), up_s]
theorem RdC_o {M M' : am_M} (h : RdC M n L a) (h1 : M' 1 = M 1) : RdC M' n L a := by
  unfold RdC
  rw [h1]
  exact h
theorem m_X3_readPicture {M : am_M} (hg : g = 2 ∨ g = 3) (hRg : R g 10 = g + 2) (hn : n ≤ 240) (hR : RdC M n L a) (ha : a ≤ n) (hv : rvC M g = ρ) (hP : PW ρ) (h8 : sN ρ < 8) (hF : CF M g n (clP n L ρ a) Q R) (hK : CK M g n L (clP n L ρ a) Q R) : am_WM E (d + 4) 31 [aO 3 1, aO 2 g] M R Q := by
  have e0 : ∀ {M' : am_M}, rvC M' g = ρ → M' g 0 0 = ρ 0 0 ∧ M' g 1 0 = ρ 1 0 ∧ M' (g + 2) 0 0 = ρ 2 0 := fun {M'} h => by rw [← h]; exact ⟨rfl, rfl, rfl⟩
  refine w_X3_readPicture (m_X3_readNumber hn hR ha (fun f p e M1 hX1 e4 e5 => kv ?_) (fun k s1 e1 en1 M1 hX1 hR1 _ => kv ?_))
  · have hb := NU_inl ha e
    have h4 := f_ne e4 hb.1 hb.2.1
    exact m_X3_readNumber_f h4 (kv (m_X3_readNumber_f h4 (kv (m_X3_refuse_f h4 ⟨rfl, m_X3_readNumber_f h4 (kv (m_X3_readEnd_f h4 ⟨rfl, end_f hF (by unfold clP; rw [e]) hb (frD_of hX1 rd4_1) e4 e5⟩))⟩))))
  have g1 := NU_inr ha en1
  have hv1 : rvC M1 g = ρ := (rv_1 hg hX1 rd2_1).trans hv
  rw [(e0 hv1).1]
  refine m_X3_readNumber hn hR1 g1.2.2.2.2.2.2 (fun f p e M2 hX2 e4 e5 => kv ?_) (fun x s2 e2 en2 M2 hX2 hR2 _ => kv ?_)
  · have hb := NU_inl g1.2.2.2.2.2.2 e
    have h4 := f_ne e4 hb.1 hb.2.1
    exact m_X3_readNumber_f h4 (kv (m_X3_refuse_f h4 ⟨rfl, m_X3_readNumber_f h4 (kv (m_X3_readEnd_f h4 ⟨rfl, end_f hF (by unfold clP; rw [en1]; dsimp only; rw [e]) hb (frD_tr (frD_of hX1 rd2_1) (frD_of hX2 rd4_1)) e4 e5⟩))⟩))
  have g2 := NU_inr g1.2.2.2.2.2.2 en2
  have hv2 : rvC M2 g = ρ := (rv_1 hg hX2 rd2_1).trans hv1
  rw [(e0 hv2).2.1]
  refine m_X3_readNumber hn hR2 g2.2.2.2.2.2.2 (fun f p e M3 hX3 e4 e5 => kv ?_) (fun y s3 e3 en3 M3 hX3 hR3 h33 => kv ?_)
  · have hb := NU_inl g2.2.2.2.2.2.2 e
    have h4 := f_ne e4 hb.1 hb.2.1
    exact m_X3_refuse_f h4 ⟨rfl, m_X3_readNumber_f h4 (kv (m_X3_readEnd_f h4 ⟨rfl, end_f hF (by unfold clP; rw [en1]; dsimp only; rw [en2]; dsimp only; rw [e]) hb (frD_tr (frD_of hX1 rd2_1) (frD_tr (frD_of hX2 rd2_1) (frD_of hX3 rd4_1))) e4 e5⟩))⟩
  have g3 := NU_inr g2.2.2.2.2.2.2 en3
  have hv3 : rvC M3 g = ρ := (rv_1 hg hX3 rd2_1).trans hv2
  have hX123 : eqX [(1, 2), (1, 3)] M M3 := eqX_tr hX1 (eqX_tr hX2 hX3)
  refine m_X3_refuse (d := d) hRg hv3 hP hR3.2.2.2 (fun hon => ⟨rfl, ?_⟩) (fun hon M4 hX4 e4 e5 => ⟨rfl, ?_⟩)
  · refine m_X3_readNumber hn hR3 g3.2.2.2.2.2.2 (fun f p e M4 hX4 e4 e5 => kv ?_) (fun w s4 e4 en4 M4 hX4 hR4 _ => kv ?_)
    · have hb := NU_inl g3.2.2.2.2.2.2 e
      have h4 := f_ne e4 hb.1 hb.2.1
      exact m_X3_readEnd_f h4 ⟨rfl, end_f hF (by unfold clP; rw [en1]; dsimp only; rw [en2]; dsimp only; rw [en3]; dsimp only; rw [if_pos hon, e]) hb (frD_tr (frD_of hX123 rd2_1) (frD_of hX4 rd4_1)) e4 e5⟩
    have g4 := NU_inr g3.2.2.2.2.2.2 en4
    have ecl : clP n L ρ a = fin n L (rpS ρ k x y w) e4 := by unfold clP; rw [en1]; dsimp only; rw [en2]; dsimp only; rw [en3]; dsimp only; rw [if_pos hon, en4]
    refine m_X3_readEnd hn hR4 g4.2.2.2.2.2.2 (fun f p e M5 hX5 e4 e5 => ⟨rfl, ?_⟩) (fun e5 en5 M5 hX5 hR5 => ⟨rfl, ?_⟩)
    · have hb := EN_inl g4.2.2.2.2.2.2 e
      exact end_f hF (by rw [ecl]; unfold fin; rw [e]) hb (frD_tr (frD_of hX123 rd2_1) (frD_tr (frD_of hX4 rd2_1) (frD_of hX5 rd4_1))) e4 e5
    · have hX : eqX [(1, 2), (1, 3)] M M5 := eqX_tr hX123 (eqX_tr hX4 hX5)
      have hv5 : rvC M5 g = ρ := (rv_1 hg hX rd2_1).trans hv
      have hN5 : M5 (g + 2) 0 0 = nI (sN ρ) := by rw [(e0 hv5).2.2]; exact hP.1.1.2.1
      refine ⟨fun z => absurd hR5.2.2.2 z, fun _ => ?_⟩
      rw [hRg]
      refine m_X4_addPicture hN5 h8 ⟨rfl, ?_⟩
      have h1 : ∀ o, o ≠ g + 2 → (am_up (am_up (am_up (am_up (am_up (am_up (am_up M5 (g + 2) 4 (sN ρ) (nI k)) (g + 2) 5 (sN ρ) (nI x)) (g + 2) 6 (sN ρ) (nI y)) (g + 2) 7 (sN ρ) (nI w)) (g + 2) 8 (sN ρ) 0) (g + 2) 9 (sN ρ) (-1)) (g + 2) 0 0 (nI (sN ρ + 1))) o = M5 o := fun o ho => by
        funext q
        rw [am_up_off o q (fun z => ho z.1), am_up_off o q (fun z => ho z.1), am_up_off o q (fun z => ho z.1), am_up_off o q (fun z => ho z.1), am_up_off o q (fun z => ho z.1), am_up_off o q (fun z => ho z.1), am_up_off o q (fun z => ho z.1)]
      refine hK _ _ (by rw [ecl]; unfold fin; rw [en5]) _ ⟨fun o a1 a2 a3 => ?_, ?_, ?_⟩ (RdC_o hR5 (h1 1 (by omega))) ?_ ?_
      · rw [h1 o a3]; exact (frD_of hX rd2_1).1 o a1 a2 a3
      · rw [h1 1 (by omega), hX 1 0 (by simp)]
      · rw [h1 1 (by omega), hX 1 1 (by simp)]
      · rw [h1 1 (by omega), hX 1 5 (by simp)]
      · rw [rv_pic hN5 h8, hv5]
  · have h4 : ¬ M4 1 4 0 = 0 := by rw [e4]; decide
    have ecl : clP n L ρ a = Sum.inl (4, s3) := by unfold clP; rw [en1]; dsimp only; rw [en2]; dsimp only; rw [en3]; dsimp only; rw [if_neg hon]
    exact m_X3_readNumber_f h4 (kv (m_X3_readEnd_f h4 ⟨rfl, end_f (n := n) hF ecl ⟨by omega, by omega, by omega⟩ (frD_tr (frD_of hX123 rd2_1) (frD_of hX4 rd45_1)) e4 ⟨by rw [e5, h33], e3, g3.2.2.2.2.2.2, by rw [hX4 1 2 (by simp)]; exact hR3.2.2.1⟩⟩))
end Clauses
