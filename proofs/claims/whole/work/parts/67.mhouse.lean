/-! house of the reference, over the state -/
section MHouse
variable {E : Nat → Nat → Int32} {d : Nat} {Q : am_Q} {R : am_R} {ρ : Sc}
def tb (ρ : Sc) (M0 M : am_M) : Prop := (∀ o, o ≠ 13 → M o = M0 o) ∧ (∀ k, 12 ≤ k → M 13 k = M0 13 k) ∧ M 13 0 0 = ρ 0 0 ∧ M 13 1 0 = ρ 1 0 ∧ M 13 2 0 = nI (sN ρ) ∧ M 13 4 0 = nI (sD ρ) ∧ M 13 7 0 = nI (sC ρ)
theorem tb_up {M0 M : am_M} {k i : Nat} {v : Int32} (h : tb ρ M0 M) (hk : k = 3 ∨ k = 5 ∨ k = 6 ∨ k = 8 ∨ k = 9 ∨ k = 10 ∨ k = 11) : tb ρ M0 (am_up M 13 k i v) := by
  obtain ⟨a1, a2, a3, a4, a5, a6, a7⟩ := h
  refine ⟨fun o ho => ?_, fun q hq => ?_, ?_, ?_, ?_, ?_, ?_⟩
  · funext q
    rw [am_up_off o q (fun z => ho z.1), a1 o ho]
  · rw [am_up_off 13 q (by omega), a2 q hq]
  · rw [up_k (by omega)]; exact a3
  · rw [up_k (by omega)]; exact a4
  · rw [up_k (by omega)]; exact a5
  · rw [up_k (by omega)]; exact a6
  · rw [up_k (by omega)]; exact a7
def pcK (ρ : Sc) (M : am_M) (i : Nat) : Prop := ∀ j, j < i → M 13 3 j = ρ 10 j ∧ M 13 11 j = ρ 11 j ∧ M 13 11 (8 + j) = ρ 12 j ∧ M 13 11 (16 + j) = ρ 13 j ∧ M 13 11 (24 + j) = ρ 14 j
def dcK (ρ : Sc) (M : am_M) (i : Nat) : Prop := ∀ j, j < i → M 13 5 j = ρ 15 j ∧ M 13 6 j = ρ 16 j
def ccK (ρ : Sc) (M : am_M) (i : Nat) : Prop := ∀ j, j < i → M 13 8 j = ρ 17 j ∧ M 13 9 j = ρ 18 j ∧ M 13 10 j = ρ 19 j
theorem read192 {M0 : am_M} (hv : rvM M0 = ρ) (hP : PW ρ) (hQ : ∀ M', tb ρ M0 M' → pcK ρ M' (sN ρ) → M' 13 11 32 = 0 → M' 13 11 33 = 0 → dcK ρ M' (sD ρ) → ccK ρ M' (sC ρ) → Q none M' R) : ∀ (k i : Nat) (M : am_M), i + k = sC ρ → tb ρ M0 M → pcK ρ M (sN ρ) → M 13 11 32 = 0 → M 13 11 33 = 0 → dcK ρ M (sD ρ) → ccK ρ M i → am_WP E (am_WM E d) am_L_X7_takeRead Q 192 [aO 7 13, aI (nI i)] [] M R := by
  have h8 := hP.1.1.2.2.2.2.1
  have hC : M0 13 29 0 = nI (sC ρ) := by rw [← hP.1.1.2.2.2.2.2.1, ← hv]; rfl
  intro k
  induction k with
  | zero =>
    intro i M hi ht hp h32 h33 hd hc
    have : i = sC ρ := by omega
    subst this
    refine w_X7_takeRead_192 ?_
    rw [ht.2.2.2.2.2.2]
    exact ⟨fun _ => hQ M ht hp h32 h33 hd hc, fun y => absurd (ix_le (by omega) (by omega)) y⟩
  | succ k ih =>
    intro i M hi ht hp h32 h33 hd hc
    have hin : vp_in (nI i) 8 := ix_in (by omega) (by omega)
    have hlt : i < (M0 13 29 0).toNatClampNeg := by rw [hC, ix_cl (by omega)]; omega
    have r30 : M 13 30 i = ρ 17 i := by rw [ht.2.1 30 (by omega), ← hv]; exact (tr_lt hlt).symm
    have r31 : M 13 31 i = ρ 18 i := by rw [ht.2.1 31 (by omega), ← hv]; exact (tr_lt hlt).symm
    have r32 : M 13 32 i = ρ 19 i := by rw [ht.2.1 32 (by omega), ← hv]; exact (tr_lt hlt).symm
    have u : ∀ (M : am_M) (k i k' i' : Nat) (v : Int32), k' ≠ k → am_up M 13 k i v 13 k' i' = M 13 k' i' := fun _ _ _ _ _ _ h => up_k h
    refine w_X7_takeRead_192 ?_
    rw [ht.2.2.2.2.2.2, ix_cl (n := i) (by omega), nI_1]
    simp only [u _ 8 _ 31 _ _ (by decide), u _ 9 _ 32 _ _ (by decide), u _ 8 _ 32 _ _ (by decide), r30, r31, r32]
    refine ⟨fun y => absurd y (ix_ge (by omega) (by omega)), fun _ => ⟨hin, hin, hin, hin, hin, hin, ih (i + 1) _ (by omega) (tb_up (tb_up (tb_up ht (by omega)) (by omega)) (by omega)) (fun j hj => ?_) ?_ ?_ (fun j hj => ?_) (fun j hj => ?_)⟩⟩
    · have := hp j hj
      simp only [u _ 8 _ 3 _ _ (by decide), u _ 9 _ 3 _ _ (by decide), u _ 10 _ 3 _ _ (by decide), u _ 8 _ 11 _ _ (by decide), u _ 9 _ 11 _ _ (by decide), u _ 10 _ 11 _ _ (by decide)]
      exact this
    · simp only [u _ 8 _ 11 _ _ (by decide), u _ 9 _ 11 _ _ (by decide), u _ 10 _ 11 _ _ (by decide)]; exact h32
    · simp only [u _ 8 _ 11 _ _ (by decide), u _ 9 _ 11 _ _ (by decide), u _ 10 _ 11 _ _ (by decide)]; exact h33
    · have := hd j hj
      simp only [u _ 8 _ 5 _ _ (by decide), u _ 9 _ 5 _ _ (by decide), u _ 10 _ 5 _ _ (by decide), u _ 8 _ 6 _ _ (by decide), u _ 9 _ 6 _ _ (by decide), u _ 10 _ 6 _ _ (by decide)]
      exact this
    · by_cases e : j = i
      · subst e
        refine ⟨?_, ?_, up_s⟩
        · rw [u _ 10 _ 8 _ _ (by decide), u _ 9 _ 8 _ _ (by decide), up_s]
        · rw [u _ 10 _ 9 _ _ (by decide), up_s]
      · have := hc j (by omega)
        refine ⟨?_, ?_, ?_⟩
        · rw [u _ 10 _ 8 _ _ (by decide), u _ 9 _ 8 _ _ (by decide), up_i e]; exact this.1
        · rw [u _ 10 _ 9 _ _ (by decide), up_i e, u _ 8 _ 9 _ _ (by decide)]; exact this.2.1
        · rw [up_i e, u _ 9 _ 10 _ _ (by decide), u _ 8 _ 10 _ _ (by decide)]; exact this.2.2
theorem read152 {M0 : am_M} (hv : rvM M0 = ρ) (hP : PW ρ) (hQ : ∀ M', tb ρ M0 M' → pcK ρ M' (sN ρ) → M' 13 11 32 = 0 → M' 13 11 33 = 0 → dcK ρ M' (sD ρ) → ccK ρ M' (sC ρ) → Q none M' R) : ∀ (k i : Nat) (M : am_M), i + k = sD ρ → tb ρ M0 M → pcK ρ M (sN ρ) → M 13 11 32 = 0 → M 13 11 33 = 0 → dcK ρ M i → am_WP E (am_WM E d) am_L_X7_takeRead Q 152 [aO 7 13, aI (nI i)] [] M R := by
  have h4 := hP.1.1.2.2.1
  have hD : M0 13 26 0 = nI (sD ρ) := by rw [← hP.1.1.2.2.2.1, ← hv]; rfl
  intro k
  induction k with
  | zero =>
    intro i M hi ht hp h32 h33 hd
    have : i = sD ρ := by omega
    subst this
    refine w_X7_takeRead_152 ?_
    rw [ht.2.2.2.2.2.1]
    exact ⟨fun _ => read192 hv hP hQ (sC ρ) 0 M (by omega) ht hp h32 h33 hd (fun j hj => absurd hj (by omega)), fun y => absurd (ix_le (by omega) (by omega)) y⟩
  | succ k ih =>
    intro i M hi ht hp h32 h33 hd
    have hin : vp_in (nI i) 4 := ix_in (by omega) (by omega)
    have hlt : i < (M0 13 26 0).toNatClampNeg := by rw [hD, ix_cl (by omega)]; omega
    have r27 : M 13 27 i = ρ 15 i := by rw [ht.2.1 27 (by omega), ← hv]; exact (tr_lt hlt).symm
    have r28 : M 13 28 i = ρ 16 i := by rw [ht.2.1 28 (by omega), ← hv]; exact (tr_lt hlt).symm
    have u : ∀ (M : am_M) (k i k' i' : Nat) (v : Int32), k' ≠ k → am_up M 13 k i v 13 k' i' = M 13 k' i' := fun _ _ _ _ _ _ h => up_k h
    refine w_X7_takeRead_152 ?_
    rw [ht.2.2.2.2.2.1, ix_cl (n := i) (by omega), nI_1]
    simp only [u _ 5 _ 28 _ _ (by decide), r27, r28]
    refine ⟨fun y => absurd y (ix_ge (by omega) (by omega)), fun _ => ⟨hin, hin, hin, hin, ih (i + 1) _ (by omega) (tb_up (tb_up ht (by omega)) (by omega)) (fun j hj => ?_) ?_ ?_ (fun j hj => ?_)⟩⟩
    · have := hp j hj
      simp only [u _ 5 _ 3 _ _ (by decide), u _ 6 _ 3 _ _ (by decide), u _ 5 _ 11 _ _ (by decide), u _ 6 _ 11 _ _ (by decide)]
      exact this
    · simp only [u _ 5 _ 11 _ _ (by decide), u _ 6 _ 11 _ _ (by decide)]; exact h32
    · simp only [u _ 5 _ 11 _ _ (by decide), u _ 6 _ 11 _ _ (by decide)]; exact h33
    · by_cases e : j = i
      · subst e
        refine ⟨?_, up_s⟩
        rw [u _ 6 _ 5 _ _ (by decide), up_s]
      · have := hd j (by omega)
        refine ⟨?_, ?_⟩
        · rw [u _ 6 _ 5 _ _ (by decide), up_i e]; exact this.1
        · rw [up_i e, u _ 5 _ 6 _ _ (by decide)]; exact this.2
theorem read67 {M0 : am_M} (hv : rvM M0 = ρ) (hP : PW ρ) (hQ : ∀ M', tb ρ M0 M' → pcK ρ M' (sN ρ) → M' 13 11 32 = 0 → M' 13 11 33 = 0 → dcK ρ M' (sD ρ) → ccK ρ M' (sC ρ) → Q none M' R) : ∀ (k i : Nat) (M : am_M), i + k = sN ρ → tb ρ M0 M → pcK ρ M i → M 13 11 32 = 0 → M 13 11 33 = 0 → am_WP E (am_WM E d) am_L_X7_takeRead Q 67 [aO 7 13, aI (nI i)] [] M R := by
  have h8 := hP.1.1.1
  have hN : M0 13 20 0 = nI (sN ρ) := by rw [← hP.1.1.2.1, ← hv]; rfl
  intro k
  induction k with
  | zero =>
    intro i M hi ht hp h32 h33
    have : i = sN ρ := by omega
    subst this
    refine w_X7_takeRead_67 ?_
    rw [ht.2.2.2.2.1]
    exact ⟨fun _ => read152 hv hP hQ (sD ρ) 0 M (by omega) ht hp h32 h33 (fun j hj => absurd hj (by omega)), fun y => absurd (ix_le (by omega) (by omega)) y⟩
  | succ k ih =>
    intro i M hi ht hp h32 h33
    have hin : vp_in (nI i) 8 := ix_in (by omega) (by omega)
    have hlt : i < (M0 13 20 0).toNatClampNeg := by rw [hN, ix_cl (by omega)]; omega
    have r21 : M 13 21 i = ρ 10 i := by rw [ht.2.1 21 (by omega), ← hv]; exact (tr_lt hlt).symm
    have r22 : M 13 22 i = ρ 11 i := by rw [ht.2.1 22 (by omega), ← hv]; exact (tr_lt hlt).symm
    have r23 : M 13 23 i = ρ 12 i := by rw [ht.2.1 23 (by omega), ← hv]; exact (tr_lt hlt).symm
    have r24 : M 13 24 i = ρ 13 i := by rw [ht.2.1 24 (by omega), ← hv]; exact (tr_lt hlt).symm
    have r25 : M 13 25 i = ρ 14 i := by rw [ht.2.1 25 (by omega), ← hv]; exact (tr_lt hlt).symm
    have u : ∀ (M : am_M) (k i k' i' : Nat) (v : Int32), k' ≠ k → am_up M 13 k i v 13 k' i' = M 13 k' i' := fun _ _ _ _ _ _ h => up_k h
    refine w_X7_takeRead_67 ?_
    rw [ht.2.2.2.2.1, nI_1, show (8 : Int32) + nI i = nI (8 + i) from nI_add 8 i, show (16 : Int32) + nI i = nI (16 + i) from nI_add 16 i, show (24 : Int32) + nI i = nI (24 + i) from nI_add 24 i, ix_cl (n := i) (by omega), ix_cl (n := 8 + i) (by omega), ix_cl (n := 16 + i) (by omega), ix_cl (n := 24 + i) (by omega)]
    simp only [u _ 3 _ 22 _ _ (by decide), u _ 3 _ 23 _ _ (by decide), u _ 3 _ 24 _ _ (by decide), u _ 3 _ 25 _ _ (by decide), u _ 11 _ 23 _ _ (by decide), u _ 11 _ 24 _ _ (by decide), u _ 11 _ 25 _ _ (by decide), r21, r22, r23, r24, r25]
    refine ⟨fun y => absurd y (ix_ge (by omega) (by omega)), fun _ => ⟨hin, hin, hin, ix_in (by omega) (by omega), hin, ix_in (by omega) (by omega), hin, ix_in (by omega) (by omega), hin, ix_in (by omega) (by omega), ih (i + 1) _ (by omega) (tb_up (tb_up (tb_up (tb_up (tb_up ht (by omega)) (by omega)) (by omega)) (by omega)) (by omega)) (fun j hj => ?_) ?_ ?_⟩⟩
    · by_cases e : j = i
      · subst e
        refine ⟨?_, ?_, ?_, ?_, up_s⟩
        · rw [u _ 11 _ 3 _ _ (by decide), u _ 11 _ 3 _ _ (by decide), u _ 11 _ 3 _ _ (by decide), u _ 11 _ 3 _ _ (by decide), up_s]
        · rw [up_i (by omega), up_i (by omega), up_i (by omega), up_s]
        · rw [up_i (by omega), up_i (by omega), up_s]
        · rw [up_i (by omega), up_s]
      · have := hp j (by omega)
        refine ⟨?_, ?_, ?_, ?_, ?_⟩
        · rw [u _ 11 _ 3 _ _ (by decide), u _ 11 _ 3 _ _ (by decide), u _ 11 _ 3 _ _ (by decide), u _ 11 _ 3 _ _ (by decide), up_i e]; exact this.1
        · rw [up_i (by omega), up_i (by omega), up_i (by omega), up_i (by omega), u _ 3 _ 11 _ _ (by decide)]; exact this.2.1
        · rw [up_i (by omega), up_i (by omega), up_i (by omega), up_i (by omega), u _ 3 _ 11 _ _ (by decide)]; exact this.2.2.1
        · rw [up_i (by omega), up_i (by omega), up_i (by omega), up_i (by omega), u _ 3 _ 11 _ _ (by decide)]; exact this.2.2.2.1
        · rw [up_i (by omega), up_i (by omega), up_i (by omega), up_i (by omega), u _ 3 _ 11 _ _ (by decide)]; exact this.2.2.2.2
    · rw [up_i (by omega), up_i (by omega), up_i (by omega), up_i (by omega), u _ 3 _ 11 _ _ (by decide)]; exact h32
    · rw [up_i (by omega), up_i (by omega), up_i (by omega), up_i (by omega), u _ 3 _ 11 _ _ (by decide)]; exact h33
theorem read46 {M0 : am_M} (hK : ∀ M', tb ρ M0 M' → M' 13 11 32 = 0 → M' 13 11 33 = 0 → am_WP E (am_WM E d) am_L_X7_takeRead Q 67 [aO 7 13, aI 0] [] M' R) : ∀ (k i : Nat) (M : am_M), i + k = 34 → tb ρ M0 M → (∀ j, j < i → M 13 11 j = 0) → am_WP E (am_WM E d) am_L_X7_takeRead Q 46 [aO 7 13, aI (nI i)] [] M R := by
  intro k
  induction k with
  | zero =>
    intro i M hi ht hz
    have : i = 34 := by omega
    subst this
    exact w_X7_takeRead_46 ⟨fun _ => hK M ht (hz 32 (by omega)) (hz 33 (by omega)), fun y => absurd (by decide) y⟩
  | succ k ih =>
    intro i M hi ht hz
    refine w_X7_takeRead_46 ⟨fun y => absurd y (ix_ge (n := 34) (by omega) (by omega)), fun _ => ⟨ix_in (by omega) (by omega), ?_⟩⟩
    rw [ix_cl (n := i) (by omega), nI_1]
    refine ih (i + 1) _ (by omega) (tb_up ht (by omega)) (fun j hj => ?_)
    by_cases e : j = i
    · rw [e, up_s]
    · rw [up_i e]; exact hz j (by omega)
theorem m_X7_takeRead {M : am_M} (hv : rvM M = ρ) (hP : PW ρ) (hQ : ∀ M', (∀ o, o ≠ 13 → M' o = M o) → (∀ k, 12 ≤ k → M' 13 k = M 13 k) → (∀ σ : Sc, σ 7 0 = M 13 12 0 → vm M' = hoσ ρ σ) → Q none M' R) : am_WM E (d + 1) 119 [aO 7 13] M R Q := by
  have e0 : M 13 19 0 = ρ 0 0 := by rw [← hv]; rfl
  have e1 : M 13 19 1 = ρ 1 0 := by rw [← hv]; rfl
  have hN : M 13 20 0 = nI (sN ρ) := by rw [← hP.1.1.2.1, ← hv]; rfl
  have hD : M 13 26 0 = nI (sD ρ) := by rw [← hP.1.1.2.2.2.1, ← hv]; rfl
  have hC : M 13 29 0 = nI (sC ρ) := by rw [← hP.1.1.2.2.2.2.2.1, ← hv]; rfl
  have h8 := hP.1.1.1
  have h4 := hP.1.1.2.2.1
  have h8C := hP.1.1.2.2.2.2.1
  have u : ∀ (M : am_M) (k i k' i' : Nat) (v : Int32), k' ≠ k → am_up M 13 k i v 13 k' i' = M 13 k' i' := fun _ _ _ _ _ _ h => up_k h
  refine w_X7_takeRead ⟨ix_in (n := 0) (by omega) (by omega), ix_in (n := 1) (by omega) (by omega), ?_⟩
  rw [show Int32.toNatClampNeg 0 = 0 from rfl, show Int32.toNatClampNeg 1 = 1 from rfl]
  simp only [u _ 0 _ 19 _ _ (by decide), u _ 0 _ 20 _ _ (by decide), u _ 1 _ 20 _ _ (by decide), u _ 0 _ 26 _ _ (by decide), u _ 1 _ 26 _ _ (by decide), u _ 2 _ 26 _ _ (by decide), u _ 0 _ 29 _ _ (by decide), u _ 1 _ 29 _ _ (by decide), u _ 2 _ 29 _ _ (by decide), u _ 4 _ 29 _ _ (by decide), e0, e1, hN, hD, hC]
  refine read46 (ρ := ρ) (M0 := M) (fun M1 ht h32 h33 => read67 hv hP (fun M' ht' hp h32' h33' hd hc => hQ M' ht'.1 ht'.2.1 (fun σ h7 => ?_)) (sN ρ) 0 M1 (by omega) ht (fun j hj => absurd hj (by omega)) h32 h33) 34 0 _ (by omega) ⟨fun o ho => ?_, fun k hk => ?_, ?_, ?_, ?_, ?_, up_s⟩ (fun j hj => absurd hj (by omega))
  · obtain ⟨-, t2, t3, t4, t5, t6, t7⟩ := ht'
    have c2 : (M' 13 2 0).toNatClampNeg = sN ρ := by rw [t5, ix_cl (by omega)]
    have c4 : (M' 13 4 0).toNatClampNeg = sD ρ := by rw [t6, ix_cl (by omega)]
    have c7 : (M' 13 7 0).toNatClampNeg = sC ρ := by rw [t7, ix_cl (by omega)]
    have tn : ∀ (f : Nat → Int32) (g : Nat → Int32) (n j : Nat), (∀ q, q < n → f q = tr n g q) → tr n f j = tr n g j := fun f g n j h => by
      by_cases hj : j < n
      · rw [tr_lt hj, h j hj]
      · rw [tr_ge hj, tr_ge hj]
    have cN : (M 13 20 0).toNatClampNeg = sN ρ := by rw [hN, ix_cl (by omega)]
    have cD : (M 13 26 0).toNatClampNeg = sD ρ := by rw [hD, ix_cl (by omega)]
    have cC : (M 13 29 0).toNatClampNeg = sC ρ := by rw [hC, ix_cl (by omega)]
    have fr : ∀ f, 10 ≤ f → f ≤ 14 → ρ f = tr (sN ρ) (mrw M f) := fun f a1 a2 => by
      rcases (by omega : f = 10 ∨ f = 11 ∨ f = 12 ∨ f = 13 ∨ f = 14) with rfl | rfl | rfl | rfl | rfl
      · have : ρ 10 = tr (M 13 20 0).toNatClampNeg (mrw M 10) := by rw [← hv]; rfl
        rw [cN] at this; exact this
      · have : ρ 11 = tr (M 13 20 0).toNatClampNeg (mrw M 11) := by rw [← hv]; rfl
        rw [cN] at this; exact this
      · have : ρ 12 = tr (M 13 20 0).toNatClampNeg (mrw M 12) := by rw [← hv]; rfl
        rw [cN] at this; exact this
      · have : ρ 13 = tr (M 13 20 0).toNatClampNeg (mrw M 13) := by rw [← hv]; rfl
        rw [cN] at this; exact this
      · have : ρ 14 = tr (M 13 20 0).toNatClampNeg (mrw M 14) := by rw [← hv]; rfl
        rw [cN] at this; exact this
    have fd : ∀ f, f = 15 ∨ f = 16 → ρ f = tr (sD ρ) (mrw M f) := fun f a1 => by
      rcases a1 with rfl | rfl
      · have : ρ 15 = tr (M 13 26 0).toNatClampNeg (mrw M 15) := by rw [← hv]; rfl
        rw [cD] at this; exact this
      · have : ρ 16 = tr (M 13 26 0).toNatClampNeg (mrw M 16) := by rw [← hv]; rfl
        rw [cD] at this; exact this
    have fc : ∀ f, f = 17 ∨ f = 18 ∨ f = 19 → ρ f = tr (sC ρ) (mrw M f) := fun f a1 => by
      rcases a1 with rfl | rfl | rfl
      · have : ρ 17 = tr (M 13 29 0).toNatClampNeg (mrw M 17) := by rw [← hv]; rfl
        rw [cC] at this; exact this
      · have : ρ 18 = tr (M 13 29 0).toNatClampNeg (mrw M 18) := by rw [← hv]; rfl
        rw [cC] at this; exact this
      · have : ρ 19 = tr (M 13 29 0).toNatClampNeg (mrw M 19) := by rw [← hv]; rfl
        rw [cC] at this; exact this
    have z5 : ∀ f j, f = 5 ∨ f = 6 ∨ f = 8 ∨ f = 9 → ρ f j = 0 := fun f j a => by rw [← hv]; rcases a with rfl | rfl | rfl | rfl <;> rfl
    have zb : ∀ f j, ρ (f + 21) j = 0 := fun f j => by rw [← hv]; rfl
    have k0 : ∀ f j, f < 5 → ρ f j = ρ f 0 := fun f j a => by rw [← hv]; rcases (by omega : f = 0 ∨ f = 1 ∨ f = 2 ∨ f = 3 ∨ f = 4) with rfl | rfl | rfl | rfl | rfl <;> rfl
    funext f j
    match f with
    | 0 => show M' 13 0 0 = ρ 0 j; rw [k0 0 j (by omega)]; exact t3
    | 1 => show M' 13 1 0 = ρ 1 j; rw [k0 1 j (by omega)]; exact t4
    | 2 => show M' 13 2 0 = ρ 2 j; rw [k0 2 j (by omega), t5]; exact hP.1.1.2.1.symm
    | 3 => show M' 13 4 0 = ρ 3 j; rw [k0 3 j (by omega), t6]; exact hP.1.1.2.2.2.1.symm
    | 4 => show M' 13 7 0 = ρ 4 j; rw [k0 4 j (by omega), t7]; exact hP.1.1.2.2.2.2.2.1.symm
    | 5 => show M' 13 11 33 = ρ 5 j; rw [z5 5 j (by omega)]; exact h33'
    | 6 => show M' 13 11 32 = ρ 6 j; rw [z5 6 j (by omega)]; exact h32'
    | 7 => show M' 13 12 0 = σ 7 0; rw [t2 12 (by omega)]; exact h7.symm
    | 8 => show (0 : Int32) = ρ 8 j; rw [z5 8 j (by omega)]
    | 9 => show (0 : Int32) = ρ 9 j; rw [z5 9 j (by omega)]
    | 10 =>
      show tr (M' 13 2 0).toNatClampNeg (M' 13 3) j = ρ 10 j
      rw [c2, fr 10 (by omega) (by omega)]
      exact tn _ _ _ j (fun q hq => by rw [(hp q hq).1, ← fr 10 (by omega) (by omega)])
    | 11 =>
      show tr (M' 13 2 0).toNatClampNeg (fun j => M' 13 11 j) j = ρ 11 j
      rw [c2, fr 11 (by omega) (by omega)]
      exact tn _ _ _ j (fun q hq => by rw [(hp q hq).2.1, ← fr 11 (by omega) (by omega)])
    | 12 =>
      show tr (M' 13 2 0).toNatClampNeg (fun j => M' 13 11 (8 + j)) j = ρ 12 j
      rw [c2, fr 12 (by omega) (by omega)]
      exact tn _ _ _ j (fun q hq => by rw [(hp q hq).2.2.1, ← fr 12 (by omega) (by omega)])
    | 13 =>
      show tr (M' 13 2 0).toNatClampNeg (fun j => M' 13 11 (16 + j)) j = ρ 13 j
      rw [c2, fr 13 (by omega) (by omega)]
      exact tn _ _ _ j (fun q hq => by rw [(hp q hq).2.2.2.1, ← fr 13 (by omega) (by omega)])
    | 14 =>
      show tr (M' 13 2 0).toNatClampNeg (fun j => M' 13 11 (24 + j)) j = ρ 14 j
      rw [c2, fr 14 (by omega) (by omega)]
      exact tn _ _ _ j (fun q hq => by rw [(hp q hq).2.2.2.2, ← fr 14 (by omega) (by omega)])
    | 15 =>
      show tr (M' 13 4 0).toNatClampNeg (M' 13 5) j = ρ 15 j
      rw [c4, fd 15 (by omega)]
      exact tn _ _ _ j (fun q hq => by rw [(hd q hq).1, ← fd 15 (by omega)])
    | 16 =>
      show tr (M' 13 4 0).toNatClampNeg (M' 13 6) j = ρ 16 j
      rw [c4, fd 16 (by omega)]
      exact tn _ _ _ j (fun q hq => by rw [(hd q hq).2, ← fd 16 (by omega)])
    | 17 =>
      show tr (M' 13 7 0).toNatClampNeg (M' 13 8) j = ρ 17 j
      rw [c7, fc 17 (by omega)]
      exact tn _ _ _ j (fun q hq => by rw [(hc q hq).1, ← fc 17 (by omega)])
    | 18 =>
      show tr (M' 13 7 0).toNatClampNeg (M' 13 9) j = ρ 18 j
      rw [c7, fc 18 (by omega)]
      exact tn _ _ _ j (fun q hq => by rw [(hc q hq).2.1, ← fc 18 (by omega)])
    | 19 =>
      show tr (M' 13 7 0).toNatClampNeg (M' 13 10) j = ρ 19 j
      rw [c7, fc 19 (by omega)]
      exact tn _ _ _ j (fun q hq => by rw [(hc q hq).2.2, ← fc 19 (by omega)])
    | 20 => rfl
    | f + 21 => show (0 : Int32) = ρ (f + 21) j; rw [zb f j]
  · funext k
    rw [am_up_off o k (fun z => ho z.1), am_up_off o k (fun z => ho z.1), am_up_off o k (fun z => ho z.1), am_up_off o k (fun z => ho z.1), am_up_off o k (fun z => ho z.1)]
  · rw [am_up_off 13 k (by omega), am_up_off 13 k (by omega), am_up_off 13 k (by omega), am_up_off 13 k (by omega), am_up_off 13 k (by omega)]
  · rw [u _ 7 _ 0 _ _ (by decide), u _ 4 _ 0 _ _ (by decide), u _ 2 _ 0 _ _ (by decide), u _ 1 _ 0 _ _ (by decide), up_s]
  · rw [u _ 7 _ 1 _ _ (by decide), u _ 4 _ 1 _ _ (by decide), u _ 2 _ 1 _ _ (by decide), up_s]
  · rw [u _ 7 _ 2 _ _ (by decide), u _ 4 _ 2 _ _ (by decide), up_s]
  · rw [u _ 7 _ 4 _ _ (by decide), up_s]
end MHouse
