/-! the reference's reader: takeWall and its like -/
theorem t3_r {k1 : Nat} (h : 19 ≤ k1 ∧ k1 ≤ 33) : ∀ o k, (o, k) ∈ ((13, k1) :: tnS3) → o = 13 ∧ 15 ≤ k ∧ k ≤ 33 := fun o k z => by simp [tnS3] at z; omega
theorem t4_r {k1 : Nat} (h : 19 ≤ k1 ∧ k1 ≤ 33) : ∀ o k, (o, k) ∈ ((13, k1) :: tnS4) → o = 13 ∧ 15 ≤ k ∧ k ≤ 33 := fun o k z => by simp [tnS4] at z; omega
theorem t3_0 : ∀ o k, (o, k) ∈ tnS3 → o = 13 ∧ 15 ≤ k ∧ k ≤ 33 := fun o k z => by simp [tnS3] at z; omega
theorem t4_0 : ∀ o k, (o, k) ∈ tnS4 → o = 13 ∧ 15 ≤ k ∧ k ≤ 33 := fun o k z => by simp [tnS4] at z; omega
theorem c3_r {kx ky : Nat} (h : 19 ≤ kx ∧ kx ≤ 33) (h' : 19 ≤ ky ∧ ky ≤ 33) : ∀ o k, (o, k) ∈ ((13, kx) :: (13, ky) :: tnS3) → o = 13 ∧ 15 ≤ k ∧ k ≤ 33 := fun o k z => by simp [tnS3] at z; omega
theorem c4_r {kx ky : Nat} (h : 19 ≤ kx ∧ kx ≤ 33) (h' : 19 ≤ ky ∧ ky ≤ 33) : ∀ o k, (o, k) ∈ ((13, kx) :: (13, ky) :: tnS4) → o = 13 ∧ 15 ≤ k ∧ k ≤ 33 := fun o k z => by simp [tnS4] at z; omega
section MTake
variable {E : Nat → Nat → Int32} {d : Nat} {Q : am_Q} {R : am_R} {n a : Nat} {L : Nat → Int32} {ρ : Sc}
theorem m_X7_takeWall {M : am_M} (hn : n ≤ 240) (hR : RdM M n L a) (ha : a ≤ n) (hv : rvM M = ρ) (hF : RF M (prW n L ρ a) Q R) (hK : RK M n L (prW n L ρ a) Q R) : am_WM E (d + 4) 113 [aO 7 13] M R Q := by
  refine w_X7_takeWall (m_X7_into (k1 := 19) (n1 := 2) (i := 0) hn hR ha (by omega) (by omega) (by omega) (fun f p e M1 hX1 e15 => kv ?_) (fun w s1 e1 en1 M1 hX1 hR1 _ hx hj1 => kv ?_))
  · have hb := NU_inl ha e
    have hne : ¬ nI f ≤ 0 := nI_nle (by omega) (by omega)
    exact ⟨fun z => absurd z hne, fun _ => hF f p (by unfold prW; rw [e]) M1 (frM_of hX1 (t4_r (by omega))) e15⟩
  · have g1 := NU_inr ha en1
    refine ⟨fun _ => m_X7_into (k1 := 19) (n1 := 2) (i := 1) hn hR1 g1.2.2.2.2.2.2 (by omega) (by omega) (by omega) (fun f p e M2 hX2 e15 => kv ?_) (fun h s2 e2 en2 M2 hX2 hR2 _ hy hj2 => kv ?_), fun z => absurd (by decide) z⟩
    · exact hF f p (by unfold prW; rw [en1]; dsimp only; rw [e]) M2 (frM_tr (frM_of hX1 (t3_r (by omega))) (frM_of hX2 (t4_r (by omega)))) e15
    · have hX : eqX ((13, 19) :: tnS3) M M2 := eqX_tr hX1 hX2
      refine hK _ e2 (by unfold prW; rw [en1]; dsimp only; rw [en2]) M2 (frM_of hX (t3_r (by omega))) (by rw [hX 13 15 (by simp [tnS3])]) hR2 ?_
      rw [← hv]
      refine mk_w ?_ hy (fun f h0 h1 => ?_) ?_
      · show M2 13 19 0 = nI w
        rw [hj2 0 (by omega)]; exact hx
      · unfold msc
        rw [hX 13 20 (by simp [tnS3]), hX 13 26 (by simp [tnS3]), hX 13 29 (by simp [tnS3]), hX 13 33 (by simp [tnS3])]
        split <;> first | exact absurd rfl h0 | exact absurd rfl h1 | rfl
      · funext f
        unfold mrw
        rw [hX 13 21 (by simp [tnS3]), hX 13 22 (by simp [tnS3]), hX 13 23 (by simp [tnS3]), hX 13 24 (by simp [tnS3]), hX 13 25 (by simp [tnS3]), hX 13 27 (by simp [tnS3]), hX 13 28 (by simp [tnS3]), hX 13 30 (by simp [tnS3]), hX 13 31 (by simp [tnS3]), hX 13 32 (by simp [tnS3])]
theorem m_X7_takeDoor {M : am_M} (hn : n ≤ 240) (hR : RdM M n L a) (ha : a ≤ n) (hv : rvM M = ρ) (hP : PW ρ) (h4 : sD ρ < 4) (hF : RF M (prD n L ρ a) Q R) (hK : RK M n L (prD n L ρ a) Q R) : am_WM E (d + 5) 115 [aO 7 13] M R Q := by
  have hD : M 13 26 0 = nI (sD ρ) := by rw [← hP.1.1.2.2.2.1, ← hv]; rfl
  refine w_X7_takeDoor ?_
  rw [hD]
  refine m_X7_takeCell (kx := 27) (ky := 28) (nx := 4) hn hR ha hP (by omega) (by omega) (by omega) h4 (by omega) hv (fun M' hX jx jy => ?_) (fun f p e hf1 hf4 M1 hX1 e15 => kv ?_) (fun x y e en hen M1 hX1 hR1 hx hy jx jy => kv ?_)
  · refine rvM_same hv ⟨by rw [hX 13 19 (by simp [tnS3])], by rw [hX 13 19 (by simp [tnS3])]⟩ (fun k hk => by rw [hX 13 k (by simp [tnS3]; omega)]) (fun k j h1 h2 _ => by rw [hX 13 k (by simp [tnS3]; omega)]) (fun k j hk hj => ?_) (fun k j h1 h2 _ => by rw [hX 13 k (by simp [tnS3]; omega)])
    rcases hk with rfl | rfl
    · exact jx j (by omega)
    · exact jy j (by omega)
  · exact hF f p (by unfold prD; rw [e]) _ (frM_up (frM_of hX1 (c4_r (by omega) (by omega))) (by omega)) (by rw [up_k (by decide)]; exact e15)
  · rw [hX1 13 26 (by simp [tnS3]), hD, nI_1]
    refine hK _ e (by unfold prD; rw [en]) _ (frM_up (frM_of hX1 (c3_r (by omega) (by omega))) (by omega)) (by rw [up_k (by decide), hX1 13 15 (by simp [tnS3])]) (RdM_at hR1 (am_up_off 13 13 (by decide)) (am_up_off 13 14 (by decide)) (by rw [up_k (by decide)]; exact hR1.2.2)) ?_
    rw [show rdS ρ x y = rdS (rvM M) x y from by rw [hv]]
    refine mk_d (N := sD ρ) hD h4 (show am_up M1 13 26 0 (nI (sD ρ + 1)) 13 26 0 = nI (sD ρ + 1) from up_s) (fun f hf => ?_) (fun f h1 h2 => ?_) (fun f j hf hj => ?_) ?_ ?_
    · unfold msc
      rw [up_k (o' := 13) (k' := 19) (i' := 0) (by decide), up_k (o' := 13) (k' := 19) (i' := 1) (by decide), up_k (o' := 13) (k' := 20) (by decide), up_k (o' := 13) (k' := 29) (by decide), up_k (o' := 13) (k' := 33) (by decide), hX1 13 19 (by simp [tnS3]), hX1 13 20 (by simp [tnS3]), hX1 13 29 (by simp [tnS3]), hX1 13 33 (by simp [tnS3])]
      split <;> first | exact absurd rfl hf | rfl
    · unfold mrw
      rw [am_up_off 13 21 (by decide), am_up_off 13 22 (by decide), am_up_off 13 23 (by decide), am_up_off 13 24 (by decide), am_up_off 13 25 (by decide), am_up_off 13 30 (by decide), am_up_off 13 31 (by decide), am_up_off 13 32 (by decide), hX1 13 21 (by simp [tnS3]), hX1 13 22 (by simp [tnS3]), hX1 13 23 (by simp [tnS3]), hX1 13 24 (by simp [tnS3]), hX1 13 25 (by simp [tnS3]), hX1 13 30 (by simp [tnS3]), hX1 13 31 (by simp [tnS3]), hX1 13 32 (by simp [tnS3])]
      split <;> first | exact absurd rfl h1 | exact absurd rfl h2 | rfl
    · rcases hf with rfl | rfl
      · show am_up M1 13 26 0 _ 13 27 j = M 13 27 j
        rw [up_k (by decide)]; exact jx j hj
      · show am_up M1 13 26 0 _ 13 28 j = M 13 28 j
        rw [up_k (by decide)]; exact jy j hj
    · show am_up M1 13 26 0 _ 13 27 (sD ρ) = nI x
      rw [up_k (by decide)]; exact hx
    · show am_up M1 13 26 0 _ 13 28 (sD ρ) = nI y
      rw [up_k (by decide)]; exact hy
theorem m_X7_takePicture {M : am_M} (hn : n ≤ 240) (hR : RdM M n L a) (ha : a ≤ n) (hv : rvM M = ρ) (hP : PW ρ) (h8 : sN ρ < 8) (hF : RF M (prP n L ρ a) Q R) (hK : RK M n L (prP n L ρ a) Q R) : am_WM E (d + 5) 114 [aO 7 13] M R Q := by
  have hN : M 13 20 0 = nI (sN ρ) := by rw [← hP.1.1.2.1, ← hv]; rfl
  have hin : vp_in (nI (sN ρ)) 8 := ix_in h8 (by omega)
  refine w_X7_takePicture ?_
  rw [hN]
  refine m_X7_into (k1 := 21) (n1 := 8) hn hR ha (by omega) h8 (by omega) (fun f p e M1 hX1 e15 => kv ?_) (fun k s1 e1 en1 M1 hX1 hR1 _ hk hj1 => kv ?_)
  · have hb := NU_inl ha e
    have hne : ¬ nI f ≤ 0 := nI_nle (by omega) (by omega)
    refine ⟨fun z => absurd z hne, fun _ => ⟨hin, fun z => absurd z hne, fun _ => hF f p (by unfold prP; rw [e]) _ (frM_up (frM_up (frM_of hX1 (t4_r (by omega))) (by omega)) (by omega)) ?_⟩⟩
    rw [up_k (by decide), up_k (by decide)]; exact e15
  have g1 := NU_inr ha en1
  have hv1 : rvM M1 = ρ := rvM_same hv ⟨by rw [hX1 13 19 (by simp [tnS3])], by rw [hX1 13 19 (by simp [tnS3])]⟩ (fun k hk => by rw [hX1 13 k (by simp [tnS3]; omega)]) (fun k j h1 h2 hj => by
      by_cases e : k = 21
      · rw [e]; exact hj1 j (by omega)
      · rw [hX1 13 k (by simp [tnS3]; omega)]) (fun k j hk _ => by rw [hX1 13 k (by simp [tnS3]; omega)]) (fun k j h1 h2 _ => by rw [hX1 13 k (by simp [tnS3]; omega)])
  refine ⟨fun _ => m_X7_takeCell (kx := 22) (ky := 23) (nx := 8) hn hR1 g1.2.2.2.2.2.2 hP (by omega) (by omega) (by omega) h8 (by omega) hv1 (fun M' hX jx jy => ?_) (fun f p e hf1 hf4 M2 hX2 e15 => kv ⟨hin, ?_⟩) (fun x y e2 en2 hen2 M2 hX2 hR2 hx hy jx jy => kv ⟨hin, ?_⟩), fun z => absurd (by decide) z⟩
  · refine rvM_same hv1 ⟨by rw [hX 13 19 (by simp [tnS3])], by rw [hX 13 19 (by simp [tnS3])]⟩ (fun k hk => by rw [hX 13 k (by simp [tnS3]; omega)]) (fun k j h1 h2 hj => ?_) (fun k j hk _ => by rw [hX 13 k (by simp [tnS3]; omega)]) (fun k j h1 h2 _ => by rw [hX 13 k (by simp [tnS3]; omega)])
    by_cases ek : k = 22
    · rw [ek]; exact jx j (by omega)
    · by_cases ek2 : k = 23
      · rw [ek2]; exact jy j (by omega)
      · rw [hX 13 k (by simp [tnS3]; omega)]
  · have hne : ¬ nI f ≤ 0 := nI_nle (by omega) (by omega)
    refine ⟨fun z => absurd z hne, fun _ => hF f p (by unfold prP; rw [en1]; dsimp only; rw [e]) _ (frM_up (frM_up (frM_tr (frM_of hX1 (t3_r (by omega))) (frM_of hX2 (c4_r (by omega) (by omega)))) (by omega)) (by omega)) ?_⟩
    rw [up_k (by decide), up_k (by decide)]; exact e15
  · refine ⟨fun _ => ?_, fun z => absurd (by decide) z⟩
    rw [ix_cl (n := sN ρ) (by omega), up_k (o' := 13) (k' := 20) (i' := 0) (by decide), hX2 13 20 (by simp [tnS3]), hX1 13 20 (by simp [tnS3]), hN, nI_1]
    have hfr2 : frM M (am_up (am_up M2 13 25 (sN ρ) 0) 13 20 0 (nI (sN ρ + 1))) := frM_up (frM_up (frM_tr (frM_of hX1 (t3_r (by omega))) (frM_of hX2 (c3_r (by omega) (by omega)))) (by omega)) (by omega)
    have hR3 : RdM (am_up (am_up M2 13 25 (sN ρ) 0) 13 20 0 (nI (sN ρ + 1))) n L e2 := RdM_at hR2 (by rw [am_up_off 13 13 (by decide), am_up_off 13 13 (by decide)]) (by rw [am_up_off 13 14 (by decide), am_up_off 13 14 (by decide)]) (by rw [up_k (by decide), up_k (by decide)]; exact hR2.2.2)
    refine m_X7_into (k1 := 24) (n1 := 8) hn hR3 hen2 (by omega) h8 (by omega) (fun f p e M4 hX4 e15 => kv ?_) (fun w s4 e4 en4 M4 hX4 hR4 _ hw hj4 => kv ?_)
    · exact hF f p (by unfold prP; rw [en1]; dsimp only; rw [en2]; dsimp only; rw [e]) M4 (frM_tr hfr2 (frM_of hX4 (t4_r (by omega)))) e15
    · have g4 : ∀ k, k ≠ 16 → k ≠ 17 → k ≠ 18 → k ≠ 24 → k ≠ 20 → k ≠ 25 → M4 13 k = M2 13 k := fun k a1 a2 a3 a4 a5 a6 => by
        rw [hX4 13 k (by simp [tnS3]; omega), am_up_off 13 k (by omega), am_up_off 13 k (by omega)]
      have g2 : ∀ k, k ≠ 16 → k ≠ 17 → k ≠ 18 → k ≠ 21 → k ≠ 22 → k ≠ 23 → M2 13 k = M 13 k := fun k a1 a2 a3 a4 a5 a6 => by
        rw [hX2 13 k (by simp [tnS3]; omega), hX1 13 k (by simp [tnS3]; omega)]
      have r21 : M4 13 21 = M1 13 21 := by rw [g4 21 (by decide) (by decide) (by decide) (by decide) (by decide) (by decide), hX2 13 21 (by simp [tnS3])]
      have r22 : M1 13 22 = M 13 22 := hX1 13 22 (by simp [tnS3])
      have r23 : M1 13 23 = M 13 23 := hX1 13 23 (by simp [tnS3])
      have r24 : ∀ j, j ≠ sN ρ → M4 13 24 j = M 13 24 j := fun j hj => by rw [hj4 j hj, up_k (by decide), up_k (by decide), g2 24 (by decide) (by decide) (by decide) (by decide) (by decide) (by decide)]
      have r25 : M4 13 25 = am_up M2 13 25 (sN ρ) 0 13 25 := by rw [hX4 13 25 (by simp [tnS3]), am_up_off 13 25 (by decide)]
      have r20 : M4 13 20 0 = nI (sN ρ + 1) := by rw [hX4 13 20 (by simp [tnS3])]; exact up_s
      refine hK _ e4 (by unfold prP; rw [en1]; dsimp only; rw [en2]; dsimp only; rw [en4]) M4 (frM_tr hfr2 (frM_of hX4 (t3_r (by omega)))) ?_ hR4 ?_
      · rw [hX4 13 15 (by simp [tnS3]), up_k (by decide), up_k (by decide), hX2 13 15 (by simp [tnS3]), hX1 13 15 (by simp [tnS3])]
      · rw [← hv]
        refine mk_p (N := sN ρ) hN h8 r20 (fun f hf => ?_) (fun f hf => ?_) (fun f j h1 h2 hj => ?_) ?_ ?_ ?_ ?_ ?_
        · unfold msc
          rw [g4 19 (by decide) (by decide) (by decide) (by decide) (by decide) (by decide), g4 26 (by decide) (by decide) (by decide) (by decide) (by decide) (by decide), g4 29 (by decide) (by decide) (by decide) (by decide) (by decide) (by decide), g4 33 (by decide) (by decide) (by decide) (by decide) (by decide) (by decide), g2 19 (by decide) (by decide) (by decide) (by decide) (by decide) (by decide), g2 26 (by decide) (by decide) (by decide) (by decide) (by decide) (by decide), g2 29 (by decide) (by decide) (by decide) (by decide) (by decide) (by decide), g2 33 (by decide) (by decide) (by decide) (by decide) (by decide) (by decide)]
          split <;> first | exact absurd rfl hf | rfl
        · unfold mrw
          rw [g4 27 (by decide) (by decide) (by decide) (by decide) (by decide) (by decide), g4 28 (by decide) (by decide) (by decide) (by decide) (by decide) (by decide), g4 30 (by decide) (by decide) (by decide) (by decide) (by decide) (by decide), g4 31 (by decide) (by decide) (by decide) (by decide) (by decide) (by decide), g4 32 (by decide) (by decide) (by decide) (by decide) (by decide) (by decide), g2 27 (by decide) (by decide) (by decide) (by decide) (by decide) (by decide), g2 28 (by decide) (by decide) (by decide) (by decide) (by decide) (by decide), g2 30 (by decide) (by decide) (by decide) (by decide) (by decide) (by decide), g2 31 (by decide) (by decide) (by decide) (by decide) (by decide) (by decide), g2 32 (by decide) (by decide) (by decide) (by decide) (by decide) (by decide)]
          split <;> first | (exfalso; omega) | rfl
        · rcases (by omega : f = 10 ∨ f = 11 ∨ f = 12 ∨ f = 13 ∨ f = 14) with rfl | rfl | rfl | rfl | rfl
          · show M4 13 21 j = M 13 21 j
            rw [r21]; exact hj1 j hj
          · show M4 13 22 j = M 13 22 j
            rw [g4 22 (by decide) (by decide) (by decide) (by decide) (by decide) (by decide), jx j hj, r22]
          · show M4 13 23 j = M 13 23 j
            rw [g4 23 (by decide) (by decide) (by decide) (by decide) (by decide) (by decide), jy j hj, r23]
          · exact r24 j hj
          · show M4 13 25 j = M 13 25 j
            rw [r25, up_i hj, g2 25 (by decide) (by decide) (by decide) (by decide) (by decide) (by decide)]
        · show M4 13 21 (sN ρ) = nI k
          rw [r21]; exact hk
        · show M4 13 22 (sN ρ) = nI x
          rw [g4 22 (by decide) (by decide) (by decide) (by decide) (by decide) (by decide)]; exact hx
        · show M4 13 23 (sN ρ) = nI y
          rw [g4 23 (by decide) (by decide) (by decide) (by decide) (by decide) (by decide)]; exact hy
        · exact hw
        · show M4 13 25 (sN ρ) = 0
          rw [r25, up_s]
theorem m_X7_takeComing {M : am_M} (hn : n ≤ 240) (hR : RdM M n L a) (ha : a ≤ n) (hv : rvM M = ρ) (hP : PW ρ) (h8 : sC ρ < 8) (hF : RF M (prE n L ρ a) Q R) (hK : RK M n L (prE n L ρ a) Q R) : am_WM E (d + 4) 116 [aO 7 13] M R Q := by
  have hC : M 13 29 0 = nI (sC ρ) := by rw [← hP.1.1.2.2.2.2.2.1, ← hv]; rfl
  have hD : M 13 26 0 = ρ 3 0 := by rw [← hv]; rfl
  refine w_X7_takeComing ?_
  rw [hC, nI_1]
  have hfr0 : frM M (am_up M 13 29 0 (nI (sC ρ + 1))) := frM_up ⟨fun _ _ => rfl, fun _ _ => rfl⟩ (by omega)
  have hR0 : RdM (am_up M 13 29 0 (nI (sC ρ + 1))) n L a := RdM_at hR (am_up_off 13 13 (by decide)) (am_up_off 13 14 (by decide)) (by rw [up_k (by decide)]; exact hR.2.2)
  refine m_X7_into (k1 := 30) (n1 := 8) hn hR0 ha (by omega) h8 (by omega) (fun f p e M1 hX1 e15 => kv ?_) (fun h s1 e1 en1 M1 hX1 hR1 _ hh hj1 => kv ?_)
  · have hb := NU_inl ha e
    have hne : ¬ nI f ≤ 0 := nI_nle (by omega) (by omega)
    have hq := hF f p (by unfold prE; rw [e]) M1 (frM_tr hfr0 (frM_of hX1 (t4_r (by omega)))) e15
    exact ⟨fun z => absurd z hne, fun _ => ⟨fun z => absurd z hne, fun _ => hq⟩⟩
  have g1 := NU_inr ha en1
  refine ⟨fun _ => ?_, fun z => absurd (by decide) z⟩
  rw [hX1 13 26 (by simp [tnS3]), up_k (o' := 13) (k' := 26) (i' := 0) (by decide), hD]
  refine m_X7_into (k1 := 31) (n1 := 8) hn hR1 g1.2.2.2.2.2.2 (by omega) h8 (by omega) (fun f p e M2 hX2 e15 => kv ?_) (fun q s2 e2 en2 M2 hX2 hR2 _ hq hj2 => kv ?_)
  · have hb := NU_inl g1.2.2.2.2.2.2 e
    have hne : ¬ nI f ≤ 0 := nI_nle (by omega) (by omega)
    exact ⟨fun z => absurd z hne, fun _ => hF f p (by unfold prE; rw [en1]; dsimp only; rw [e]) M2 (frM_tr hfr0 (frM_tr (frM_of hX1 (t3_r (by omega))) (frM_of hX2 (t4_r (by omega))))) e15⟩
  have g2 := NU_inr g1.2.2.2.2.2.2 en2
  refine ⟨fun _ => ?_, fun z => absurd (by decide) z⟩
  refine m_X7_into (k1 := 32) (n1 := 8) hn hR2 g2.2.2.2.2.2.2 (by omega) h8 (by omega) (fun f p e M3 hX3 e15 => kv ?_) (fun t s3 e3 en3 M3 hX3 hR3 _ ht hj3 => kv ?_)
  · exact hF f p (by unfold prE; rw [en1]; dsimp only; rw [en2]; dsimp only; rw [e]) M3 (frM_tr hfr0 (frM_tr (frM_of hX1 (t3_r (by omega))) (frM_tr (frM_of hX2 (t3_r (by omega))) (frM_of hX3 (t4_r (by omega)))))) e15
  · have gg : ∀ k, k ≠ 16 → k ≠ 17 → k ≠ 18 → k ≠ 29 → k ≠ 30 → k ≠ 31 → k ≠ 32 → M3 13 k = M 13 k := fun k a1 a2 a3 a4 a5 a6 a7 => by
      rw [hX3 13 k (by simp [tnS3]; omega), hX2 13 k (by simp [tnS3]; omega), hX1 13 k (by simp [tnS3]; omega), am_up_off 13 k (by omega)]
    have r30 : M3 13 30 = M1 13 30 := by rw [hX3 13 30 (by simp [tnS3]), hX2 13 30 (by simp [tnS3])]
    have r31 : M3 13 31 = M2 13 31 := hX3 13 31 (by simp [tnS3])
    have r31' : M1 13 31 = M 13 31 := by rw [hX1 13 31 (by simp [tnS3]), am_up_off 13 31 (by decide)]
    have r32' : M2 13 32 = M 13 32 := by rw [hX2 13 32 (by simp [tnS3]), hX1 13 32 (by simp [tnS3]), am_up_off 13 32 (by decide)]
    have r29 : M3 13 29 0 = nI (sC ρ + 1) := by rw [hX3 13 29 (by simp [tnS3]), hX2 13 29 (by simp [tnS3]), hX1 13 29 (by simp [tnS3])]; exact up_s
    refine hK _ e3 (by unfold prE; rw [en1]; dsimp only; rw [en2]; dsimp only; rw [en3]) M3 (frM_tr hfr0 (frM_tr (frM_of hX1 (t3_r (by omega))) (frM_tr (frM_of hX2 (t3_r (by omega))) (frM_of hX3 (t3_r (by omega)))))) (by rw [gg 15 (by decide) (by decide) (by decide) (by decide) (by decide) (by decide) (by decide)]) hR3 ?_
    rw [← hv]
    refine mk_e (N := sC ρ) hC h8 r29 (fun f hf => ?_) (fun f hf => ?_) (fun f j h1 h2 hj => ?_) ?_ ?_ ?_
    · unfold msc
      rw [gg 19 (by decide) (by decide) (by decide) (by decide) (by decide) (by decide) (by decide), gg 20 (by decide) (by decide) (by decide) (by decide) (by decide) (by decide) (by decide), gg 26 (by decide) (by decide) (by decide) (by decide) (by decide) (by decide) (by decide), gg 33 (by decide) (by decide) (by decide) (by decide) (by decide) (by decide) (by decide)]
      split <;> first | exact absurd rfl hf | rfl
    · unfold mrw
      rw [gg 21 (by decide) (by decide) (by decide) (by decide) (by decide) (by decide) (by decide), gg 22 (by decide) (by decide) (by decide) (by decide) (by decide) (by decide) (by decide), gg 23 (by decide) (by decide) (by decide) (by decide) (by decide) (by decide) (by decide), gg 24 (by decide) (by decide) (by decide) (by decide) (by decide) (by decide) (by decide), gg 25 (by decide) (by decide) (by decide) (by decide) (by decide) (by decide) (by decide), gg 27 (by decide) (by decide) (by decide) (by decide) (by decide) (by decide) (by decide), gg 28 (by decide) (by decide) (by decide) (by decide) (by decide) (by decide) (by decide)]
      split <;> first | (exfalso; omega) | rfl
    · rcases (by omega : f = 17 ∨ f = 18 ∨ f = 19) with rfl | rfl | rfl
      · show M3 13 30 j = M 13 30 j
        rw [r30, hj1 j hj, am_up_off 13 30 (by decide)]
      · show M3 13 31 j = M 13 31 j
        rw [r31, hj2 j hj, r31']
      · show M3 13 32 j = M 13 32 j
        rw [hj3 j hj, r32']
    · show M3 13 30 (sC ρ) = nI h
      rw [r30]; exact hh
    · show M3 13 31 (sC ρ) = nI q
      rw [r31]; exact hq
    · exact ht
end MTake
