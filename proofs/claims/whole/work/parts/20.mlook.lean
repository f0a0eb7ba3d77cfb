/-! the reference: helpers, what is on a cell, what a picture looks at -/
section MLook
variable {E : Nat → Nat → Int32} {d : Nat} {Q : am_Q} {M : am_M} {R : am_R}
theorem m_X7_in {a b c : Int64} (h1 : b.toInt ≤ a.toInt ∧ a.toInt ≤ c.toInt → Q (some (aI 1)) M R) (h0 : ¬ (b.toInt ≤ a.toInt ∧ a.toInt ≤ c.toInt) → Q (some (aI 0)) M R) : am_WM E (d + 1) 99 [aL a, aL b, aL c] M R Q := by
  refine w_X7_in ?_
  rw [lg_cmp_lt, lg_cmp_gt, l_lt, l_lt]
  exact ⟨fun q => ret0 (h0 (by omega)), fun q => ⟨fun q2 => ret0 (h0 (by omega)), fun q2 => ret1 (h1 ⟨by omega, by omega⟩)⟩⟩
theorem m_X7_has {s : Int32} {k : Nat} (h1 : bt s k = true → Q (some (aI 1)) M R) (h0 : bt s k = false → Q (some (aI 0)) M R) : am_WM E (d + 1) 100 [aI s, aI (nI k)] M R Q := by
  refine w_X7_has ⟨fun q => ret0 (h0 (decide_eq_false q)), fun q => ret1 (h1 (decide_eq_true q))⟩
theorem m1_and {P : Prop} (h : P) : (1 : Int32) &&& 1 = 1 ∧ P := ⟨by decide, h⟩
theorem m0_and {P : Prop} (h : P) : (0 : Int32) &&& 1 = 0 ∧ P := ⟨by decide, h⟩
theorem m_X7_isPicture {p : Int32} {n : Nat} (hn : M 13 2 0 = nI n) (h8 : n ≤ 8) (h1 : ∀ q, q < n → p = nI q → Q (some (aI 1)) M R) (h0 : (∀ q, q < n → p ≠ nI q) → Q (some (aI 0)) M R) : am_WM E (d + 2) 102 [aO 7 13, aI p] M R Q := by
  refine w_X7_isPicture ?_
  have e1 : (nI n - 1).toInt = (n : Int) - 1 := by rw [i_sub1 (by rw [nI_toInt (by omega)]; omega), nI_toInt (by omega)]
  rw [hn]
  refine m_X7_in (fun q => kv (ret1 ?_)) (fun q => kv (ret0 (h0 fun k hk e => q ?_)))
  · rw [Int32.toInt_toInt64, Int32.toInt_toInt64, e1] at q
    have q0 : (0 : Int) ≤ p.toInt := q.1
    exact h1 p.toInt.toNat (by omega) (i_of (by omega))
  · rw [Int32.toInt_toInt64, Int32.toInt_toInt64, e1, e, nI_toInt (by omega)]
    exact ⟨by show (0 : Int) ≤ _; omega, by omega⟩
theorem m_X7_isThing {t : Int32} (h1 : ∀ q, q < 8 → t = nI q → Q (some (aI 1)) M R) (h0 : (∀ q, q < 8 → t ≠ nI q) → Q (some (aI 0)) M R) : am_WM E (d + 2) 103 [aI t] M R Q := by
  refine w_X7_isThing ?_
  refine m_X7_in (fun q => kv (ret1 ?_)) (fun q => kv (ret0 (h0 fun k hk e => q ?_)))
  · rw [Int32.toInt_toInt64] at q
    have q0 : (0 : Int) ≤ t.toInt := q.1
    have q1 : t.toInt ≤ 7 := q.2
    exact h1 t.toInt.toNat (by omega) (i_of (by omega))
  · rw [Int32.toInt_toInt64, e, nI_toInt (by omega)]
    exact ⟨by show (0 : Int) ≤ _; omega, by show _ ≤ (7 : Int); omega⟩
theorem m_X7_isCell {x y : Int32} {w h' : Nat} (hw : M 13 0 0 = nI w) (hh : M 13 1 0 = nI h') (hw7 : w ≤ 7) (hh7 : h' ≤ 7) (h1 : cellP (vm M) x y → Q (some (aI 1)) M R) (h0 : ¬ cellP (vm M) x y → Q (some (aI 0)) M R) : am_WM E (d + 2) 104 [aO 7 13, aI x, aI y] M R Q := by
  refine w_X7_isCell ?_
  have e1 : (nI w - 1).toInt = (w : Int) - 1 := by rw [i_sub1 (by rw [nI_toInt (by omega)]; omega), nI_toInt (by omega)]
  have e2 : (nI h' - 1).toInt = (h' : Int) - 1 := by rw [i_sub1 (by rw [nI_toInt (by omega)]; omega), nI_toInt (by omega)]
  have f1 : vm M 0 0 = nI w := hw
  have f2 : vm M 1 0 = nI h' := hh
  have z0 : ((0 : Int64)).toInt = 0 := rfl
  have z1 : ((0 : Int32)).toInt = 0 := rfl
  unfold cellP at h1 h0
  rw [f1, f2, i_lt, i_lt, i_le, i_le, nI_toInt (by omega), nI_toInt (by omega), z1] at h1 h0
  rw [hw]
  refine m_X7_in (fun q => k1e ((congrArg (fun z => am_WM E (d + 1) 99 [aL (Int32.toInt64 y), aL 0, aL (Int32.toInt64 (z - 1))] M R _) hh).mpr (m_X7_in (fun q2 => k1e (ret1 (h1 ?_))) (fun q2 => k0e (ret0 (h0 ?_)))))) (fun q => k0e (ret0 (h0 ?_)))
  · rw [Int32.toInt_toInt64, Int32.toInt_toInt64, e1, z0] at q
    rw [Int32.toInt_toInt64, Int32.toInt_toInt64, e2, z0] at q2
    omega
  · rw [Int32.toInt_toInt64, Int32.toInt_toInt64, e2, z0] at q2
    omega
  · rw [Int32.toInt_toInt64, Int32.toInt_toInt64, e1, z0] at q
    omega
theorem onCell_loop2 {x y : Int32} (hd : M 13 4 0 = nI (sD (vm M))) (h4 : sD (vm M) ≤ 4) : ∀ (k i : Nat), i + k = sD (vm M) → Q (some (aI (match sF (fun q => decide (vm M 15 q = x ∧ vm M 16 q = y)) i k with | some q => nI (10 + q) | none => -1))) M R → am_WP E (am_WM E d) am_L_X7_onCell Q 43 [aO 7 13, aI x, aI y, aI (nI i)] [] M R := by
  intro k
  induction k with
  | zero =>
    intro i hi h
    refine w_X7_onCell_43 ?_
    rw [hd]
    exact ⟨fun _ => h, fun q => absurd (ix_le (by omega) (by omega)) q⟩
  | succ k ih =>
    intro i hi h
    refine w_X7_onCell_43 ?_
    rw [hd, ix_cl (by omega), nI_1, show (10 : Int32) + nI i = nI (10 + i) from nI_add 10 i]
    have e1 : vm M 15 i = M 13 5 i := tr_lt (show i < sD (vm M) by omega)
    have e2 : vm M 16 i = M 13 6 i := tr_lt (show i < sD (vm M) by omega)
    refine ⟨fun q => absurd q (ix_ge (by omega) (by omega)), fun _ => ⟨ix_in (by omega) (by omega), fun q => ih (i + 1) (by omega) ?_, fun q => ⟨ix_in (by omega) (by omega), fun q2 => ih (i + 1) (by omega) ?_, fun q2 => ?_⟩⟩⟩
    · simpa [sF, e1, q] using h
    · simpa [sF, e2, q2] using h
    · simpa [sF, e1, e2, q, q2] using h
theorem onCell_loop {x y : Int32} (hn : M 13 2 0 = nI (sN (vm M))) (h8 : sN (vm M) ≤ 8) (hd : M 13 4 0 = nI (sD (vm M))) (h4 : sD (vm M) ≤ 4) : ∀ (k i : Nat), i + k = sN (vm M) → Q (some (aI (match sF (fun p => decide (vm M 11 p = x ∧ vm M 12 p = y)) i k with | some p => nI p | none => match sF (fun q => decide (vm M 15 q = x ∧ vm M 16 q = y)) 0 (sD (vm M)) with | some q => nI (10 + q) | none => -1))) M R → am_WP E (am_WM E d) am_L_X7_onCell Q 2 [aO 7 13, aI x, aI y, aI (nI i)] [] M R := by
  intro k
  induction k with
  | zero =>
    intro i hi h
    refine w_X7_onCell_2 ?_
    rw [hn]
    exact ⟨fun _ => onCell_loop2 hd h4 (sD (vm M)) 0 (by omega) h, fun q => absurd (ix_le (by omega) (by omega)) q⟩
  | succ k ih =>
    intro i hi h
    refine w_X7_onCell_2 ?_
    rw [hn, show (8 : Int32) + nI i = nI (8 + i) from nI_add 8 i, ix_cl (by omega), ix_cl (by omega), nI_1]
    have e1 : vm M 11 i = M 13 11 i := tr_lt (f := fun j => M 13 11 j) (show i < sN (vm M) by omega)
    have e2 : vm M 12 i = M 13 11 (8 + i) := tr_lt (f := fun j => M 13 11 (8 + j)) (show i < sN (vm M) by omega)
    refine ⟨fun q => absurd q (ix_ge (by omega) (by omega)), fun _ => ⟨ix_in (by omega) (by omega), fun q => ih (i + 1) (by omega) ?_, fun q => ⟨ix_in (by omega) (by omega), fun q2 => ih (i + 1) (by omega) ?_, fun q2 => ?_⟩⟩⟩
    · simpa [sF, e1, q] using h
    · simpa [sF, e2, q2] using h
    · simpa [sF, e1, e2, q, q2] using h
theorem m_X7_onCell {x y : Int32} (hn : M 13 2 0 = nI (sN (vm M))) (h8 : sN (vm M) ≤ 8) (hd : M 13 4 0 = nI (sD (vm M))) (h4 : sD (vm M) ≤ 4) (h : Q (some (aI (onF (vm M) x y))) M R) : am_WM E (d + 1) 124 [aO 7 13, aI x, aI y] M R Q := by
  refine w_X7_onCell ?_
  exact onCell_loop hn h8 hd h4 (sN (vm M)) 0 (by omega) h
theorem rem4 {n : Nat} (h : n ≤ 100) : nI n - nI n / 4 * 4 = nI (n % 4) := pk_rem (d := 4) (by omega) (by omega) (by omega)
theorem looksAt_loop {p : Nat} (hF : Wg (vm M)) (hp : p < sN (vm M)) : ∀ (k j w : Nat) (x y : Int32), j + k = 30 → w < 4 → Q (some (aI (walkF (vm M) p k w x y))) M R → am_WP E (am_WM E (d + 2)) am_L_X7_looksAt Q 85 [aO 7 13, aI (nI p), aI (nI w), aI x, aI y, aI (nI j), aU] [] M R := by
  obtain ⟨h8, hn, h4, hd, -, -, ⟨W, hW, eW⟩, ⟨H, hH, eH⟩, -⟩ := hF
  intro k
  induction k with
  | zero =>
    intro j w x y hj hw h
    refine w_X7_looksAt_85 ⟨fun _ => h, fun q => absurd (ix_le (n := 30) (by omega) (by omega)) q⟩
  | succ k ih =>
    intro j w x y hj hw h
    have k160 : ∀ (on x' y' : Int32), (on = -1 → Q (some (aI (walkF (vm M) p k w x' y'))) M R) → (∀ q, q < sN (vm M) → on = nI q → (q = p ∨ bt (vm M 6 0) q = true → Q (some (aI (-1))) M R) ∧ (¬ (q = p ∨ bt (vm M 6 0) q = true) → (vm M 10 q = 5 → Q (some (aI (walkF (vm M) p k ((w + 1) % 4) x' y'))) M R) ∧ (¬ vm M 10 q = 5 → Q (some (aI on)) M R))) → (∀ q, q < sD (vm M) → on = nI (10 + q) → Q (some (aI on)) M R) → (on = -1 ∨ (∃ q, q < sN (vm M) ∧ on = nI q) ∨ ∃ q, q < sD (vm M) ∧ on = nI (10 + q)) → am_WP E (am_WM E (d + 2)) am_L_X7_looksAt Q 160 [aO 7 13, aI (nI p), aI (nI w), aI x', aI y', aI (nI j), aI on] [] M R := by
      intro on x' y' c1 c2 c3 hc
      rcases hc with rfl | ⟨q, hq, rfl⟩ | ⟨q, hq, rfl⟩
      · refine w_X7_looksAt_160 ⟨fun a => absurd a.symm (ix_neg1 (by omega)), fun _ => ⟨fun _ => w_X7_looksAt_195 ⟨fun _ => w_X7_looksAt_221 ⟨fun _ => ?_, fun a => absurd (by decide) a⟩, fun a => absurd (by decide) a⟩, fun a => absurd (by decide) a⟩⟩
        rw [nI_1]
        exact ih (j + 1) w x' y' (by omega) hw (c1 rfl)
      · obtain ⟨c2a, c2b⟩ := c2 q hq rfl
        have e10 : vm M 10 q = M 13 3 q := tr_lt hq
        have hlt : ¬ (10 : Int32) ≤ nI q := nI_ge (b := 10) (by omega) (by omega)
        have hpos : ¬ nI q < 0 := ix_lt (by omega)
        refine w_X7_looksAt_160 ⟨fun a => c2a (Or.inl ((ix_eq (by omega) (by omega)).mp a)), fun a => ⟨fun b => absurd b hpos, fun _ => ⟨fun b => absurd b hlt, fun _ => ⟨ix_in (n := 32) (by omega) (by omega), ?_⟩⟩⟩⟩
        refine m_X7_has (fun b => k1e (c2a (Or.inr b))) (fun b => k0e ?_)
        have hno : ¬ (q = p ∨ bt (vm M 6 0) q = true) := by
          rintro (q1 | q1)
          · exact a (by rw [q1])
          · have b' : bt (vm M 6 0) q = false := b
            rw [b'] at q1; cases q1
        obtain ⟨c2c, c2d⟩ := c2b hno
        rw [e10] at c2c c2d
        refine w_X7_looksAt_195 ⟨fun b => absurd b hpos, fun _ => ⟨fun b => absurd b hlt, fun _ => ⟨ix_in (by omega) (by omega), fun b => ?_, fun b => ?_⟩⟩⟩
        · rw [ix_cl (by omega)] at b
          refine w_X7_looksAt_221 ⟨fun b => absurd b hpos, fun _ => ⟨by decide, ?_⟩⟩
          rw [nI_1, nI_1, rem4 (by omega)]
          exact ih (j + 1) _ x' y' (by omega) (by omega) (c2c b)
        · rw [ix_cl (by omega)] at b
          exact c2d b
      · have hge : (10 : Int32) ≤ nI (10 + q) := nI_le (a := 10) (by omega) (by omega)
        have hpos : ¬ nI (10 + q) < 0 := ix_lt (by omega)
        refine w_X7_looksAt_160 ⟨fun a => absurd ((ix_eq (by omega) (by omega)).mp a) (by omega), fun a => ⟨fun b => absurd b hpos, fun _ => ⟨fun _ => ?_, fun b => absurd hge b⟩⟩⟩
        exact w_X7_looksAt_195 ⟨fun b => absurd b hpos, fun _ => ⟨fun _ => c3 q hq rfl, fun b => absurd hge b⟩⟩
    have k137 : ∀ (x' y' : Int32), x' = x + dxF w → y' = y + dyF w → am_WP E (am_WM E (d + 2)) am_L_X7_looksAt Q 137 [aO 7 13, aI (nI p), aI (nI w), aI x', aI y', aI (nI j), aU] [] M R := by
      intro x' y' ex ey
      unfold walkF at h
      rw [← ex, ← ey] at h
      refine w_X7_looksAt_137 (m_X7_isCell eW eH hW hH (fun hc => k1e (m_X7_onCell hn h8 hd h4 (kv ?_))) (fun hc => k0e ?_))
      · rw [if_pos hc] at h
        refine k160 _ _ _ (fun e => ?_) (fun q hq e => ?_) (fun q hq e => ?_) ?_
        · rw [if_pos e] at h; exact h
        · have hlt : onF (vm M) x' y' < 10 := by rw [e]; exact nI_lt (b := 10) (by omega) (by omega)
          have ecl : (onF (vm M) x' y').toNatClampNeg = q := by rw [e]; exact ix_cl (by omega)
          rw [if_neg (by rw [e]; exact ix_neg1 (by omega)), if_neg (by simpa using hlt), ecl] at h
          have eqv : (onF (vm M) x' y' = nI p ∨ bt (vm M 6 0) q = true) ↔ (q = p ∨ bt (vm M 6 0) q = true) := by rw [e, ix_eq (by omega) (by omega)]
          refine ⟨fun a => ?_, fun a => ⟨fun b => ?_, fun b => ?_⟩⟩
          · rw [if_pos (eqv.mpr a)] at h; exact h
          · rw [if_neg (fun z => a (eqv.mp z)), if_pos b] at h; exact h
          · rw [if_neg (fun z => a (eqv.mp z)), if_neg b] at h; exact h
        · rw [if_neg (by rw [e]; exact ix_neg1 (by omega)), if_pos (by rw [e]; exact nI_nlt (b := 10) (by omega) (by omega))] at h
          exact h
        · rcases onF_cases (vm M) x' y' with e | ⟨q, hq, e, -⟩ | ⟨q, hq, e⟩
          · exact Or.inl e
          · exact Or.inr (Or.inl ⟨q, hq, e⟩)
          · exact Or.inr (Or.inr ⟨q, hq, e⟩)
      · rw [if_neg hc] at h
        exact w_X7_looksAt_160 ⟨fun _ => h, fun a => absurd rfl a⟩
    have k113 : ∀ (x' : Int32), x' = x + dxF w → am_WP E (am_WM E (d + 2)) am_L_X7_looksAt Q 113 [aO 7 13, aI (nI p), aI (nI w), aI x', aI y, aI (nI j), aU] [] M R := by
      intro x' ex
      refine w_X7_looksAt_113 ?_
      have hne : ∀ q : Nat, q ≤ 3 → (¬ nI w = nI q ↔ w ≠ q) := fun q hq => not_congr (ix_eq (by omega) (by omega))
      rcases (by omega : w = 0 ∨ w = 1 ∨ w = 2 ∨ w = 3) with rfl | rfl | rfl | rfl
      · exact ⟨fun _ => ⟨fun _ => k137 _ _ ex rfl, fun a => absurd a (by decide)⟩, fun a => absurd a (by decide)⟩
      · exact ⟨fun a => absurd (by decide) a, fun _ => k137 _ _ ex rfl⟩
      · exact ⟨fun _ => ⟨fun _ => k137 _ _ ex rfl, fun a => absurd a (by decide)⟩, fun a => absurd a (by decide)⟩
      · exact ⟨fun _ => ⟨fun a => absurd (by decide) a, fun _ => k137 _ _ ex rfl⟩, fun a => absurd a (by decide)⟩
    refine w_X7_looksAt_85 ⟨fun q => absurd q (ix_ge (n := 30) (by omega) (by omega)), fun _ => ?_⟩
    rcases (by omega : w = 0 ∨ w = 1 ∨ w = 2 ∨ w = 3) with rfl | rfl | rfl | rfl
    · exact ⟨fun a => absurd (by decide) a, fun _ => k113 _ rfl⟩
    · exact ⟨fun _ => ⟨fun _ => k113 _ rfl, fun a => absurd a (by decide)⟩, fun a => absurd a (by decide)⟩
    · exact ⟨fun _ => ⟨fun a => absurd (by decide) a, fun _ => k113 _ rfl⟩, fun a => absurd a (by decide)⟩
    · exact ⟨fun _ => ⟨fun _ => k113 _ rfl, fun a => absurd a (by decide)⟩, fun a => absurd a (by decide)⟩
def lk (σ : Sc) (p : Nat) : Int32 := lookF σ p (σ 13 p).toNatClampNeg
theorem m_X7_looksAt {p : Nat} (hF : Wg (vm M)) (hp : p < sN (vm M)) (h : Q (some (aI (lk (vm M) p))) M R) : am_WM E (d + 3) 125 [aO 7 13, aI (nI p)] M R Q := by
  have h8 := hF.1
  obtain ⟨w, hw, ew⟩ := hF.2.2.2.2.2.2.2.2 p hp
  unfold lk at h
  rw [ew, ix_cl (by omega)] at h
  refine w_X7_looksAt ⟨ix_in (n := 32) (by omega) (by omega), ?_⟩
  unfold lookF at h
  have e10 : vm M 10 p = M 13 3 p := tr_lt hp
  have e11 : vm M 11 p = M 13 11 p := tr_lt (f := fun j => M 13 11 j) hp
  have e12 : vm M 12 p = M 13 11 (8 + p) := tr_lt (f := fun j => M 13 11 (8 + j)) hp
  have e13 : vm M 13 p = M 13 11 (16 + p) := tr_lt (f := fun j => M 13 11 (16 + j)) hp
  rw [e13] at ew
  refine m_X7_has (fun b => k1n ?_) (fun b => k0n ?_)
  · have b : bt (vm M 6 0) p = true := b
    rw [if_pos (Or.inr b)] at h; exact h
  · have b : bt (vm M 6 0) p = false := b
    rw [show (16 : Int32) + nI p = nI (16 + p) from nI_add 16 p, show (8 : Int32) + nI p = nI (8 + p) from nI_add 8 p, ix_cl (by omega), ix_cl (by omega), ix_cl (by omega), ew]
    refine ⟨ix_in (by omega) (by omega), fun a => ?_, fun a => ⟨ix_in (by omega) (by omega), fun a2 => ⟨ix_in (by omega) (by omega), ix_in (by omega) (by omega), fun a3 => ⟨by decide, ix_in (by omega) (by omega), ix_in (by omega) (by omega), ?_⟩, fun a3 => ⟨by decide, ix_in (by omega) (by omega), ix_in (by omega) (by omega), ?_⟩⟩, fun a2 => ?_⟩⟩
    · rw [if_pos (Or.inl (Or.inl (by rw [e10]; exact a)))] at h; exact h
    · rw [if_neg (by rw [blindP, e10, b]; rintro ((q1 | q1) | q1); exact a q1; exact a2 q1; cases q1), e10, if_neg a3, e11, e12] at h
      rw [show nI w + 0 = nI w from nI_add w 0, rem4 (by omega), Nat.mod_eq_of_lt hw]
      exact looksAt_loop hF hp 30 0 w _ _ (by omega) hw h
    · rw [if_neg (by rw [blindP, e10, b]; rintro ((q1 | q1) | q1); exact a q1; exact a2 q1; cases q1), e10, if_pos a3, e11, e12] at h
      rw [nI_1, rem4 (by omega)]
      exact looksAt_loop hF hp 30 0 _ _ _ (by omega) (by omega) h
    · rw [if_pos (Or.inl (Or.inr (by rw [e10]; exact a2)))] at h; exact h
end MLook
