/-! the reference's reader: what is known at first; a clause -/
theorem pC_le {n : Nat} {L : Nat → Int32} {ρ : Sc} {a x y e : Nat} (ha : a ≤ n) (h : pC n L ρ a = Sum.inr (x, y, e)) : e ≤ n := by
  unfold pC at h
  cases h1 : NU n L 0 (ρ 0 0 - 1) a with
  | inl z => rw [h1] at h; cases h
  | inr z =>
    obtain ⟨v, s, e1⟩ := z
    rw [h1] at h
    dsimp only at h
    have g1 := NU_inr ha h1
    cases h2 : NU n L 0 (ρ 1 0 - 1) e1 with
    | inl z => rw [h2] at h; cases h
    | inr z =>
      obtain ⟨v2, s2, e2⟩ := z
      rw [h2] at h
      dsimp only at h
      have g2 := NU_inr g1.2.2.2.2.2.2 h2
      split at h
      · cases h; exact g2.2.2.2.2.2.2
      · cases h
theorem prW_le {n : Nat} {L : Nat → Int32} {ρ ρ' : Sc} {a e : Nat} (ha : a ≤ n) (h : prW n L ρ a = Sum.inr (ρ', e)) : e ≤ n := by
  unfold prW at h
  cases h1 : NU n L 1 7 a with
  | inl z => rw [h1] at h; cases h
  | inr z =>
    obtain ⟨v, s, e1⟩ := z
    rw [h1] at h
    dsimp only at h
    have g1 := NU_inr ha h1
    cases h2 : NU n L 1 7 e1 with
    | inl z => rw [h2] at h; cases h
    | inr z =>
      obtain ⟨v2, s2, e2⟩ := z
      rw [h2] at h
      cases h
      exact (NU_inr g1.2.2.2.2.2.2 h2).2.2.2.2.2.2
theorem prP_le {n : Nat} {L : Nat → Int32} {ρ ρ' : Sc} {a e : Nat} (ha : a ≤ n) (h : prP n L ρ a = Sum.inr (ρ', e)) : e ≤ n := by
  unfold prP at h
  cases h1 : NU n L 0 5 a with
  | inl z => rw [h1] at h; cases h
  | inr z =>
    obtain ⟨v, s, e1⟩ := z
    rw [h1] at h
    dsimp only at h
    have g1 := NU_inr ha h1
    cases h2 : pC n L ρ e1 with
    | inl z => rw [h2] at h; cases h
    | inr z =>
      obtain ⟨v2, s2, e2⟩ := z
      rw [h2] at h
      dsimp only at h
      have g2 := pC_le g1.2.2.2.2.2.2 h2
      cases h3 : NU n L 0 3 e2 with
      | inl z => rw [h3] at h; cases h
      | inr z =>
        obtain ⟨v3, s3, e3⟩ := z
        rw [h3] at h
        cases h
        exact (NU_inr g2 h3).2.2.2.2.2.2
theorem prD_le {n : Nat} {L : Nat → Int32} {ρ ρ' : Sc} {a e : Nat} (ha : a ≤ n) (h : prD n L ρ a = Sum.inr (ρ', e)) : e ≤ n := by
  unfold prD at h
  cases h2 : pC n L ρ a with
  | inl z => rw [h2] at h; cases h
  | inr z =>
    obtain ⟨v2, s2, e2⟩ := z
    rw [h2] at h
    cases h
    exact pC_le ha h2
theorem prE_le {n : Nat} {L : Nat → Int32} {ρ ρ' : Sc} {a e : Nat} (ha : a ≤ n) (h : prE n L ρ a = Sum.inr (ρ', e)) : e ≤ n := by
  unfold prE at h
  cases h1 : NU n L 0 30 a with
  | inl z => rw [h1] at h; cases h
  | inr z =>
    obtain ⟨v, s, e1⟩ := z
    rw [h1] at h
    dsimp only at h
    have g1 := NU_inr ha h1
    cases h2 : NU n L 0 (ρ 3 0 - 1) e1 with
    | inl z => rw [h2] at h; cases h
    | inr z =>
      obtain ⟨v2, s2, e2⟩ := z
      rw [h2] at h
      dsimp only at h
      have g2 := NU_inr g1.2.2.2.2.2.2 h2
      cases h3 : NU n L 0 7 e2 with
      | inl z => rw [h3] at h; cases h
      | inr z =>
        obtain ⟨v3, s3, e3⟩ := z
        rw [h3] at h
        cases h
        exact (NU_inr g2.2.2.2.2.2.2 h3).2.2.2.2.2.2
theorem prS_le {n : Nat} {L : Nat → Int32} {ρ ρ' : Sc} {a e : Nat} (ha : a ≤ n) (h : prS n L ρ a = Sum.inr (ρ', e)) : e ≤ n := by
  unfold prS at h
  cases h1 : NU n L 0 (ρ 2 0 - 1) a with
  | inl z => rw [h1] at h; cases h
  | inr z =>
    obtain ⟨v, s, e1⟩ := z
    rw [h1] at h
    dsimp only at h
    have g1 := NU_inr ha h1
    split at h
    · cases h
    · cases h2 : NU n L 0 7 e1 with
      | inl z => rw [h2] at h; cases h
      | inr z =>
        obtain ⟨v2, s2, e2⟩ := z
        rw [h2] at h
        dsimp only at h
        split at h
        · cases h
        · cases h
          exact (NU_inr g1.2.2.2.2.2.2 h2).2.2.2.2.2.2
section MClause
variable {E : Nat → Nat → Int32} {d : Nat} {Q : am_Q} {R : am_R} {n a : Nat} {L : Nat → Int32} {ρ : Sc}
theorem m_X7_takeSecret {M : am_M} (hn : n ≤ 240) (hR : RdM M n L a) (ha : a ≤ n) (hv : rvM M = ρ) (hP : PW ρ) (hF : RF M (prS n L ρ a) Q R) (hK : RK M n L (prS n L ρ a) Q R) : am_WM E (d + 3) 117 [aO 7 13] M R Q := by
  have h8 := hP.1.1.1
  have hN : M 13 20 0 = ρ 2 0 := by rw [← hv]; rfl
  have hNc : (M 13 20 0).toNatClampNeg = sN ρ := by rw [hN]; rfl
  refine w_X7_takeSecret ?_
  rw [up_k (o' := 13) (k' := 20) (i' := 0) (by decide), hN]
  have hfr0 : frM M (am_up M 13 33 0 (M 13 33 0 + 1)) := frM_up ⟨fun _ _ => rfl, fun _ _ => rfl⟩ (by omega)
  have hR0 : RdM (am_up M 13 33 0 (M 13 33 0 + 1)) n L a := RdM_at hR (am_up_off 13 13 (by decide)) (am_up_off 13 14 (by decide)) (by rw [up_k (by decide)]; exact hR.2.2)
  refine m_X7_takeNumber hn hR0 ha (fun f p e M1 hX1 e15 => kv ?_) (fun p s1 e1 en1 M1 hX1 hR1 h17 h18 => kv ?_)
  · have hb := NU_inl ha e
    have hne : ¬ nI f ≤ 0 := nI_nle (by omega) (by omega)
    have hne0 : ¬ nI f = 0 := nI_ne0 (by omega) (by omega)
    have hq := hF f p (by unfold prS; rw [e]) M1 (frM_tr hfr0 (frM_of hX1 t4_0)) e15
    exact ⟨fun _ => ⟨fun z => absurd z hne, fun _ => ⟨fun _ => ⟨fun _ => hq, fun z => absurd z hne0⟩, fun z => absurd z hne0⟩⟩, fun z => absurd z hne0⟩
  have g1 := NU_inr ha en1
  have hp : p < sN ρ := by
    have q1 := g1.2.2.1
    rw [hP.1.1.2.1] at q1
    exact hi_lt g1.1 (by omega) q1
  have hin : vp_in (nI p) 8 := ix_in (by omega) (by omega)
  have m1 : ∀ k, k ≠ 16 → k ≠ 17 → k ≠ 18 → k ≠ 33 → M1 13 k = M 13 k := fun k a1 a2 a3 a4 => by
    rw [hX1 13 k (by simp [tnS3]; omega), am_up_off 13 k (by omega)]
  have e10 : M1 13 21 p = ρ 10 p := by
    rw [m1 21 (by decide) (by decide) (by decide) (by decide), ← hv]
    exact (tr_lt (show p < (M 13 20 0).toNatClampNeg by rw [hNc]; exact hp)).symm
  rw [h17, ix_cl (n := p) (by omega), e10]
  refine ⟨fun z => absurd rfl z, fun _ => ⟨hin, fun z => ?_, fun z => ⟨hin, fun z2 => ⟨fun _ => ?_, fun y => absurd (by decide) y⟩, fun z2 => ?_⟩⟩⟩
  · rw [h18]
    exact m_X7_fails (fun M2 hX2 e15 => kv (hF 4 s1 (by unfold prS; rw [en1]; dsimp only; rw [if_pos (Or.inl z)]) M2 (frM_tr hfr0 (frM_tr (frM_of hX1 t3_0) (frM_of hX2 (fun o k h => by simp at h; omega)))) e15))
  · have hbl : ¬ blindP ρ p := fun w => w.elim z z2
    refine m_X7_takeNumber hn hR1 g1.2.2.2.2.2.2 (fun f p' e M2 hX2 e15 => kv ?_) (fun t s2 e2 en2 M2 hX2 hR2 h172 h182 => kv ?_)
    · have hb := NU_inl g1.2.2.2.2.2.2 e
      have hne0 : ¬ nI f = 0 := nI_ne0 (by omega) (by omega)
      have hq := hF f p' (by unfold prS; rw [en1]; dsimp only; rw [if_neg hbl, e]) M2 (frM_tr hfr0 (frM_tr (frM_of hX1 t3_0) (frM_of hX2 t4_0))) e15
      exact ⟨fun _ => ⟨fun _ => hq, fun z => absurd z hne0⟩, fun z => absurd z hne0⟩
    · have g2 := NU_inr g1.2.2.2.2.2.2 en2
      have ht := hi_le (w := 7) g2.1 (by omega) g2.2.2.1
      have m2 : ∀ k, k ≠ 16 → k ≠ 17 → k ≠ 18 → k ≠ 33 → M2 13 k = M 13 k := fun k a1 a2 a3 a4 => by
        rw [hX2 13 k (by simp [tnS3]; omega), m1 k a1 a2 a3 a4]
      have e14 : M2 13 25 p = ρ 14 p := by
        rw [m2 25 (by decide) (by decide) (by decide) (by decide), ← hv]
        exact (tr_lt (show p < (M 13 20 0).toNatClampNeg by rw [hNc]; exact hp)).symm
      have hfr2 : frM M M2 := frM_tr hfr0 (frM_tr (frM_of hX1 t3_0) (frM_of hX2 t3_0))
      refine ⟨fun z => absurd rfl z, fun _ => ⟨hin, ?_⟩⟩
      rw [h172, e14]
      refine m_X7_has (fun hbt => k1e ?_) (fun hbt => k0e ⟨fun y => absurd rfl y, fun _ => ⟨hin, hin, ?_⟩⟩)
      · rw [h182]
        exact m_X7_fails (fun M3 hX3 e15 => kv (hF 4 s2 (by unfold prS; rw [en1]; dsimp only; rw [if_neg hbl, en2]; dsimp only; rw [if_pos hbt]) M3 (frM_tr hfr2 (frM_of hX3 (fun o k h => by simp at h; omega))) e15))
      · rw [h172, e14, sh1 (by omega)]
        refine hK _ e2 (by unfold prS; rw [en1]; dsimp only; rw [if_neg hbl, en2]; dsimp only; rw [if_neg (by rw [hbt]; decide)]) _ (frM_up hfr2 (by omega)) ?_ (RdM_at hR2 (am_up_off 13 13 (by decide)) (am_up_off 13 14 (by decide)) (by rw [up_k (by decide)]; exact hR2.2.2)) ?_
        · rw [up_k (by decide), m2 15 (by decide) (by decide) (by decide) (by decide)]
        · rw [← e14]
          rw [show rsS ρ p t = rsS (rvM M) p t from by rw [hv]]
          refine mk_s (p := p) (by show p < (M 13 20 0).toNatClampNeg; rw [hNc]; exact hp) (fun f hf => ?_) ?_ (fun f hf => ?_) (fun j hj => ?_) ?_
          · unfold msc
            rw [up_k (o' := 13) (k' := 19) (i' := 0) (by decide), up_k (o' := 13) (k' := 19) (i' := 1) (by decide), up_k (o' := 13) (k' := 20) (by decide), up_k (o' := 13) (k' := 26) (by decide), up_k (o' := 13) (k' := 29) (by decide), m2 19 (by decide) (by decide) (by decide) (by decide), m2 20 (by decide) (by decide) (by decide) (by decide), m2 26 (by decide) (by decide) (by decide) (by decide), m2 29 (by decide) (by decide) (by decide) (by decide)]
            split <;> first | exact absurd rfl hf | rfl
          · show am_up M2 13 25 p _ 13 33 0 = M 13 33 0 + 1
            rw [up_k (by decide), hX2 13 33 (by simp [tnS3]), hX1 13 33 (by simp [tnS3])]
            exact up_s
          · unfold mrw
            rw [am_up_off 13 21 (by decide), am_up_off 13 22 (by decide), am_up_off 13 23 (by decide), am_up_off 13 24 (by decide), am_up_off 13 27 (by decide), am_up_off 13 28 (by decide), am_up_off 13 30 (by decide), am_up_off 13 31 (by decide), am_up_off 13 32 (by decide), m2 21 (by decide) (by decide) (by decide) (by decide), m2 22 (by decide) (by decide) (by decide) (by decide), m2 23 (by decide) (by decide) (by decide) (by decide), m2 24 (by decide) (by decide) (by decide) (by decide), m2 27 (by decide) (by decide) (by decide) (by decide), m2 28 (by decide) (by decide) (by decide) (by decide), m2 30 (by decide) (by decide) (by decide) (by decide), m2 31 (by decide) (by decide) (by decide) (by decide), m2 32 (by decide) (by decide) (by decide) (by decide)]
            split <;> first | exact absurd rfl hf | rfl
          · show am_up M2 13 25 p _ 13 25 j = M 13 25 j
            rw [up_i hj, m2 25 (by decide) (by decide) (by decide) (by decide)]
          · show am_up M2 13 25 p (M2 13 25 p ||| nI (2 ^ t)) 13 25 p = M 13 25 p ||| nI (2 ^ t)
            rw [up_s, m2 25 (by decide) (by decide) (by decide) (by decide)]
  · rw [h18]
    exact m_X7_fails (fun M2 hX2 e15 => kv (hF 4 s1 (by unfold prS; rw [en1]; dsimp only; rw [if_pos (Or.inr z2)]) M2 (frM_tr hfr0 (frM_tr (frM_of hX1 t3_0) (frM_of hX2 (fun o k h => by simp at h; omega)))) e15))
theorem tail_f {M M' : am_M} {f p : Nat} (hF : RF M (CL n L ρ a) Q R) (hC : CL n L ρ a = Sum.inl (f, p)) (h1 : 1 ≤ f) (h4 : f ≤ 4) (hfr : frM M M') (e15 : M' 13 15 0 = nI p) : am_WP E (am_WM E d) am_L_X7_takeClause Q 262 [aO 7 13, aU, aU, aU, aI (nI f)] [] M' R := by
  have hne0 : ¬ nI f = 0 := nI_ne0 (by omega) (by omega)
  refine w_X7_takeClause_262 ⟨fun _ => hF f p hC _ (frM_up hfr (by omega)) ?_, fun z => absurd z hne0⟩
  rw [up_k (by decide)]; exact e15
theorem tail_k {M M' : am_M} {ρ' : Sc} {e : Nat} (hn : n ≤ 240) (he : e ≤ n) (hF : RF M (CL n L ρ a) Q R) (hK : RK M n L (CL n L ρ a) Q R) (hC : CL n L ρ a = fin n L ρ' e) (hfr : frM M M') (e15 : M' 13 15 0 = M 13 15 0) (hR : RdM M' n L e) (hv : rvM M' = ρ') : am_WP E (am_WM E (d + 1)) am_L_X7_takeClause Q 262 [aO 7 13, aU, aU, aU, aI 0] [] M' R := by
  refine w_X7_takeClause_262 ⟨fun z => absurd rfl z, fun _ => m_X7_here hn hR he (fun M1 hX1 e1 => kv ⟨fun y => ?_, fun y => ?_⟩)⟩
  · rw [e1, nI_1]
    have h13 : ∀ k, k ≠ 16 → am_up M1 13 16 0 (nI (skp n L e + 1)) 13 k = M' 13 k := fun k hk => by rw [am_up_off 13 k (by omega), hX1 13 k (by simp; omega)]
    refine hK ρ' (skp n L e + 1) (by rw [hC]; unfold fin EN; rw [if_pos y]) _ (frM_up (frM_tr hfr (frM_of hX1 (fun o k h => by simp at h; omega))) (by omega)) (by rw [h13 15 (by decide), e15]) (RdM_at hR (h13 13 (by decide)) (h13 14 (by decide)) up_s) ?_
    refine rvM_same hv ⟨by rw [h13 19 (by decide)], by rw [h13 19 (by decide)]⟩ (fun k hk => by rw [h13 k (by omega)]) (fun k j h1 h2 _ => by rw [h13 k (by omega)]) (fun k j hk _ => by rw [h13 k (by omega)]) (fun k j h1 h2 _ => by rw [h13 k (by omega)])
  · rw [e1]
    refine m_X7_fails (fun M2 hX2 e152 => kv (hF 1 (skp n L e) (by rw [hC]; unfold fin EN; rw [if_neg y]) M2 (frM_tr hfr (frM_tr (frM_of hX1 (fun o k h => by simp at h; omega)) (frM_of hX2 (fun o k h => by simp at h; omega)))) e152))
theorem m_X7_takeClause {M : am_M} (hn : n ≤ 240) (hR : RdM M n L a) (hsk : skp n L a = a) (ha : a < n) (hv : rvM M = ρ) (hP : PW ρ) (hF : RF M (CL n L ρ a) Q R) (hK : RK M n L (CL n L ρ a) Q R) : am_WM E (d + 6) 118 [aO 7 13] M R Q := by
  have h8 := hP.1.1.1
  have h4 := hP.1.1.2.2.1
  have h8C := hP.1.1.2.2.2.2.1
  have hok := CL_ok (L := L) hn ha hP
  refine w_X7_takeClause (m_X7_here hn hR (by omega) (fun M1 hX1 e1 => kv ?_))
  rw [hsk] at e1 ⊢
  have h13 : ∀ k, k ≠ 16 → M1 13 k = M 13 k := fun k hk => hX1 13 k (by simp; omega)
  have hfr1 : frM M M1 := frM_of hX1 (fun o k h => by simp at h; omega)
  have e00 : M1 13 19 0 = ρ 0 0 := by rw [h13 19 (by decide), ← hv]; rfl
  have eN : M1 13 20 0 = nI (sN ρ) := by rw [h13 20 (by decide), ← hP.1.1.2.1, ← hv]; rfl
  have eD : M1 13 26 0 = nI (sD ρ) := by rw [h13 26 (by decide), ← hP.1.1.2.2.2.1, ← hv]; rfl
  have eC : M1 13 29 0 = nI (sC ρ) := by rw [h13 29 (by decide), ← hP.1.1.2.2.2.2.2.1, ← hv]; rfl
  have eF : M1 13 33 0 = ρ 20 0 := by rw [h13 33 (by decide), ← hv]; rfl
  have hfr2 : frM M (am_up M1 13 16 0 (nI (a + 1))) := frM_up hfr1 (by omega)
  have h132 : ∀ k, k ≠ 16 → am_up M1 13 16 0 (nI (a + 1)) 13 k = M 13 k := fun k hk => by rw [am_up_off 13 k (by omega), h13 k hk]
  have hR2 : RdM (am_up M1 13 16 0 (nI (a + 1))) n L (a + 1) := RdM_at hR (h132 13 (by decide)) (h132 14 (by decide)) up_s
  have hv2 : rvM (am_up M1 13 16 0 (nI (a + 1))) = ρ := rvM_same hv ⟨by rw [h132 19 (by decide)], by rw [h132 19 (by decide)]⟩ (fun k hk => by rw [h132 k (by omega)]) (fun k j h1 h2 _ => by rw [h132 k (by omega)]) (fun k j hk _ => by rw [h132 k (by omega)]) (fun k j h1 h2 _ => by rw [h132 k (by omega)])
  have hfail : ∀ f, CL n L ρ a = Sum.inl (f, a) → am_WM E (d + 5) 108 [aO 7 13, aI (nI f), aI (M1 13 16 0)] M1 R (fun r M1 R2 => ∃ a3 : Int32, r = some (aI a3) ∧ Q (some (aI a3)) M1 R2) := fun f e =>
    m_X7_fails (fun M2 hX2 e15 => kv (hF f a e M2 (frM_tr hfr1 (frM_of hX2 (fun o k h => by simp at h; omega))) (by rw [e15, e1])))
  have hF2 : ∀ {o : Out}, CL n L ρ a = bnd n L o → RF (am_up M1 13 16 0 (nI (a + 1))) o (fun r M' R' => ∃ a3 : Int32, r = some (aI a3) ∧ am_WP E (am_WM E (d + 5)) am_L_X7_takeClause Q 262 [aO 7 13, aU, aU, aU, aI a3] [] M' R') R := fun {o} e f p e' M' hfr e15 => by
    have hC : CL n L ρ a = Sum.inl (f, p) := by rw [e, e']; rfl
    rw [hC] at hok
    exact ⟨nI f, rfl, tail_f hF hC hok.1 hok.2.1 (frM_tr hfr2 hfr) e15⟩
  have hK2 : ∀ {o : Out}, CL n L ρ a = bnd n L o → (∀ ρ' e, o = Sum.inr (ρ', e) → e ≤ n) → RK (am_up M1 13 16 0 (nI (a + 1))) n L o (fun r M' R' => ∃ a3 : Int32, r = some (aI a3) ∧ am_WP E (am_WM E (d + 5)) am_L_X7_takeClause Q 262 [aO 7 13, aU, aU, aU, aI a3] [] M' R') R := fun {o} e hle ρ' e2 e' M' hfr e15 hR' hv' => by
    have hC : CL n L ρ a = fin n L ρ' e2 := by rw [e, e']; rfl
    exact ⟨0, rfl, tail_k hn (hle ρ' e2 e') hF hK hC (frM_tr hfr2 hfr) (by rw [e15, h132 15 (by decide)]) hR' hv'⟩
  have hin0 : vp_in 0 2 := ix_in (n := 0) (by omega) (by omega)
  by_cases w0 : ltF n L a = 119
  · have eCL : CL n L ρ a = if ρ 0 0 = 0 then clW n L ρ (a + 1) else Sum.inl (3, a) := by unfold CL; rw [if_pos w0]
    rw [w0]
    refine ⟨fun z => absurd rfl z, fun _ => w_X7_takeClause_57 ⟨fun z => absurd z (by decide), fun _ => ⟨fun _ => ⟨fun z => absurd rfl z, fun _ => ⟨hin0, ?_⟩⟩, fun z => absurd (by decide) z⟩⟩⟩
    rw [show Int32.toNatClampNeg 0 = 0 from rfl, e00]
    obtain ⟨w, hw, ew⟩ := hP.1.1.2.2.2.2.2.2.1
    refine ⟨fun z => ?_, fun z => ?_⟩
    · rw [ew] at z
      have z' : nI w ≤ nI 0 := z
      rw [nI_leI (by omega) (by omega)] at z'
      rw [if_pos (by rw [ew, show w = 0 from by omega]; rfl), clW_pr] at eCL
      refine w_X7_takeClause_185 ⟨fun _ => ⟨fun z => absurd rfl z, fun _ => ?_⟩, fun z => absurd rfl z⟩
      rw [e1, nI_1]
      exact m_X7_takeWall (d := d + 1) hn hR2 (by omega) hv2 (hF2 eCL) (hK2 eCL (fun ρ' e h => prW_le (by omega) h))
    · rw [if_neg (fun y => z (by rw [y]; decide))] at eCL
      exact w_X7_takeClause_185 ⟨fun y => absurd y (by decide), fun _ => hfail 3 eCL⟩
  have hgen : ∀ is : Int32, ¬ is < 0 → ¬ is ≤ 0 → ¬ is = 0 → (ρ 0 0 = 0 → CL n L ρ a = Sum.inl (1, a)) → (¬ ρ 0 0 = 0 → ((¬ is = 1 → ((¬ is = 2 → ((¬ is = 3 → ((¬ M1 13 33 0 = 8 → am_WP E (am_WM E (d + 5)) am_L_X7_takeClause Q 185 [aO 7 13, aU, aI is, aI 0, aU] [] M1 R) ∧ (M1 13 33 0 = 8 → am_WP E (am_WM E (d + 5)) am_L_X7_takeClause Q 185 [aO 7 13, aU, aI is, aI 1, aU] [] M1 R))) ∧ (is = 3 → ((¬ M1 13 29 0 = 8 → am_WP E (am_WM E (d + 5)) am_L_X7_takeClause Q 185 [aO 7 13, aU, aI is, aI 0, aU] [] M1 R) ∧ (M1 13 29 0 = 8 → am_WP E (am_WM E (d + 5)) am_L_X7_takeClause Q 185 [aO 7 13, aU, aI is, aI 1, aU] [] M1 R))))) ∧ (is = 2 → ((¬ M1 13 26 0 = 4 → am_WP E (am_WM E (d + 5)) am_L_X7_takeClause Q 185 [aO 7 13, aU, aI is, aI 0, aU] [] M1 R) ∧ (M1 13 26 0 = 4 → am_WP E (am_WM E (d + 5)) am_L_X7_takeClause Q 185 [aO 7 13, aU, aI is, aI 1, aU] [] M1 R))))) ∧ (is = 1 → ((¬ M1 13 20 0 = 8 → am_WP E (am_WM E (d + 5)) am_L_X7_takeClause Q 185 [aO 7 13, aU, aI is, aI 0, aU] [] M1 R) ∧ (M1 13 20 0 = 8 → am_WP E (am_WM E (d + 5)) am_L_X7_takeClause Q 185 [aO 7 13, aU, aI is, aI 1, aU] [] M1 R))))) → am_WP E (am_WM E (d + 5)) am_L_X7_takeClause Q 57 [aO 7 13, aU, aI is, aU, aU] [] M1 R := fun is i1 i2 i3 hz hnz => by
    refine w_X7_takeClause_57 ⟨fun z => absurd z i1, fun _ => ⟨fun z => absurd z i2, fun _ => ⟨hin0, ?_⟩⟩⟩
    rw [show Int32.toNatClampNeg 0 = 0 from rfl, e00]
    exact ⟨fun z => ⟨fun _ => hnz z, fun y => absurd y i3⟩, fun z => hfail 1 (hz z)⟩
  by_cases w1 : ltF n L a = 112
  · have eCL : CL n L ρ a = if ρ 0 0 = 0 then Sum.inl (1, a) else if sN ρ = 8 then Sum.inl (3, a) else clP n L ρ (a + 1) := by unfold CL; rw [if_neg w0, if_pos w1]
    rw [w1]
    refine ⟨fun _ => ⟨fun z => absurd rfl z, fun _ => hgen 1 (by decide) (by decide) (by decide) (fun z => by rw [eCL, if_pos z]) (fun hz => ⟨fun z => absurd rfl z, fun _ => ?_⟩)⟩, fun z => absurd z (by decide)⟩
    rw [if_neg hz] at eCL
    rw [eN]
    refine ⟨fun z => ?_, fun z => ?_⟩
    · have hne : ¬ sN ρ = 8 := fun y => z (by rw [y]; rfl)
      rw [if_neg hne, clP_pr] at eCL
      refine w_X7_takeClause_185 ⟨fun _ => ⟨fun _ => ⟨fun z => absurd rfl z, fun _ => ?_⟩, fun z => absurd z (by decide)⟩, fun z => absurd rfl z⟩
      rw [e1, nI_1]
      exact m_X7_takePicture (d := d) hn hR2 (by omega) hv2 hP (by omega) (hF2 eCL) (hK2 eCL (fun ρ' e h => prP_le (by omega) h))
    · have z' : nI (sN ρ) = nI 8 := z
      rw [ix_eq (by omega) (by omega)] at z'
      rw [if_pos z'] at eCL
      exact w_X7_takeClause_185 ⟨fun y => absurd y (by decide), fun _ => hfail 3 eCL⟩
  by_cases w2 : ltF n L a = 100
  · have eCL : CL n L ρ a = if ρ 0 0 = 0 then Sum.inl (1, a) else if sD ρ = 4 then Sum.inl (3, a) else clD n L ρ (a + 1) := by unfold CL; rw [if_neg w0, if_neg w1, if_pos w2]
    rw [w2]
    refine ⟨fun _ => ⟨fun _ => ⟨fun z => absurd rfl z, fun _ => hgen 2 (by decide) (by decide) (by decide) (fun z => by rw [eCL, if_pos z]) (fun hz => ⟨fun _ => ⟨fun z => absurd rfl z, fun _ => ?_⟩, fun z => absurd z (by decide)⟩)⟩, fun z => absurd z (by decide)⟩, fun z => absurd z (by decide)⟩
    rw [if_neg hz] at eCL
    rw [eD]
    refine ⟨fun z => ?_, fun z => ?_⟩
    · have hne : ¬ sD ρ = 4 := fun y => z (by rw [y]; rfl)
      rw [if_neg hne, clD_pr] at eCL
      refine w_X7_takeClause_185 ⟨fun _ => ⟨fun _ => ⟨fun _ => ⟨fun z => absurd rfl z, fun _ => ?_⟩, fun z => absurd z (by decide)⟩, fun z => absurd z (by decide)⟩, fun z => absurd rfl z⟩
      rw [e1, nI_1]
      exact m_X7_takeDoor (d := d) hn hR2 (by omega) hv2 hP (by omega) (hF2 eCL) (hK2 eCL (fun ρ' e h => prD_le (by omega) h))
    · have z' : nI (sD ρ) = nI 4 := z
      rw [ix_eq (by omega) (by omega)] at z'
      rw [if_pos z'] at eCL
      exact w_X7_takeClause_185 ⟨fun y => absurd y (by decide), fun _ => hfail 3 eCL⟩
  by_cases w3 : ltF n L a = 101
  · have eCL : CL n L ρ a = if ρ 0 0 = 0 then Sum.inl (1, a) else if sC ρ = 8 then Sum.inl (3, a) else clE n L ρ (a + 1) := by unfold CL; rw [if_neg w0, if_neg w1, if_neg w2, if_pos w3]
    rw [w3]
    refine ⟨fun _ => ⟨fun _ => ⟨fun _ => ⟨fun z => absurd rfl z, fun _ => hgen 3 (by decide) (by decide) (by decide) (fun z => by rw [eCL, if_pos z]) (fun hz => ⟨fun _ => ⟨fun _ => ⟨fun z => absurd rfl z, fun _ => ?_⟩, fun z => absurd z (by decide)⟩, fun z => absurd z (by decide)⟩)⟩, fun z => absurd z (by decide)⟩, fun z => absurd z (by decide)⟩, fun z => absurd z (by decide)⟩
    rw [if_neg hz] at eCL
    rw [eC]
    refine ⟨fun z => ?_, fun z => ?_⟩
    · have hne : ¬ sC ρ = 8 := fun y => z (by rw [y]; rfl)
      rw [if_neg hne, clE_pr] at eCL
      refine w_X7_takeClause_185 ⟨fun _ => ⟨fun _ => ⟨fun _ => ⟨fun _ => ⟨fun z => absurd rfl z, fun _ => ?_⟩, fun z => absurd z (by decide)⟩, fun z => absurd z (by decide)⟩, fun z => absurd z (by decide)⟩, fun z => absurd rfl z⟩
      rw [e1, nI_1]
      exact m_X7_takeComing (d := d + 1) hn hR2 (by omega) hv2 hP (by omega) (hF2 eCL) (hK2 eCL (fun ρ' e h => prE_le (by omega) h))
    · have z' : nI (sC ρ) = nI 8 := z
      rw [ix_eq (by omega) (by omega)] at z'
      rw [if_pos z'] at eCL
      exact w_X7_takeClause_185 ⟨fun y => absurd y (by decide), fun _ => hfail 3 eCL⟩
  by_cases w4 : ltF n L a = 115
  · have eCL : CL n L ρ a = if ρ 0 0 = 0 then Sum.inl (1, a) else if ρ 20 0 = 8 then Sum.inl (3, a) else clS n L ρ (a + 1) := by unfold CL; rw [if_neg w0, if_neg w1, if_neg w2, if_neg w3, if_pos w4]
    rw [w4]
    refine ⟨fun _ => ⟨fun _ => ⟨fun _ => ⟨fun _ => ⟨fun z => absurd rfl z, fun _ => hgen 4 (by decide) (by decide) (by decide) (fun z => by rw [eCL, if_pos z]) (fun hz => ⟨fun _ => ⟨fun _ => ⟨fun _ => ?_, fun z => absurd z (by decide)⟩, fun z => absurd z (by decide)⟩, fun z => absurd z (by decide)⟩)⟩, fun z => absurd z (by decide)⟩, fun z => absurd z (by decide)⟩, fun z => absurd z (by decide)⟩, fun z => absurd z (by decide)⟩
    rw [if_neg hz] at eCL
    rw [eF]
    refine ⟨fun z => ?_, fun z => ?_⟩
    · rw [if_neg z, clS_pr] at eCL
      refine w_X7_takeClause_185 ⟨fun _ => ⟨fun _ => ⟨fun _ => ⟨fun _ => ⟨fun _ => ?_, fun z => absurd z (by decide)⟩, fun z => absurd z (by decide)⟩, fun z => absurd z (by decide)⟩, fun z => absurd z (by decide)⟩, fun z => absurd rfl z⟩
      rw [e1, nI_1]
      exact m_X7_takeSecret (d := d + 2) hn hR2 (by omega) hv2 hP (hF2 eCL) (hK2 eCL (fun ρ' e h => prS_le (by omega) h))
    · rw [if_pos z] at eCL
      exact w_X7_takeClause_185 ⟨fun y => absurd y (by decide), fun _ => hfail 3 eCL⟩
  · have eCL : CL n L ρ a = Sum.inl (1, a) := by unfold CL; rw [if_neg w0, if_neg w1, if_neg w2, if_neg w3, if_neg w4]
    exact ⟨fun _ => ⟨fun _ => ⟨fun _ => ⟨fun _ => ⟨fun _ => w_X7_takeClause_57 ⟨fun _ => hfail 1 eCL, fun z => absurd (by decide) z⟩, fun z => absurd z w4⟩, fun z => absurd z w3⟩, fun z => absurd z w2⟩, fun z => absurd z w1⟩, fun z => absurd z w0⟩
end MClause
