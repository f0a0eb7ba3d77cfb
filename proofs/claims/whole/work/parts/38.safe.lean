/-! safe and common, on both sides -/
def sfL (x2 : Int32) : Nat → Int64 → Int64
  | 0, y => y
  | k + 1, y => sfL x2 k ((y * (Int32.toInt64 (100 - x2))) / 100)
def sfA (x1 x2 : Int32) : Int32 := if inN x1 61 ∧ inN x2 101 then Int64.toInt32 (sfL x2 x1.toNatClampNeg 1000000000) else -1000000002
def coF (σ : Sc) (s : Int32) : Nat → Nat → Int32 → Int32
  | 0, _, a => a
  | k + 1, i, a => coF σ s k (i + 1) (if bt s i = true then a &&& σ 14 i else a)
def coA (σ : Sc) (s : Int32) : Int32 := if inN s (2 ^ sN σ) then coF σ s (sN σ) 0 255 else -1000000001
theorem inN_or {x : Int32} {n : Nat} (hn : n ≤ 1000) : (∃ q, q < n ∧ x = nI q ∧ inN x n) ∨ ((x < 0 ∨ nI n ≤ x) ∧ ¬ inN x n) := by
  rcases ix_of (x := x) hn with ⟨q, hq, e⟩ | ⟨h, hne⟩
  · exact Or.inl ⟨q, hq, e, by rw [e]; exact inN_mk hq hn⟩
  · exact Or.inr ⟨h, inN_not hne⟩
section Safe
variable {E : Nat → Nat → Int32} {d : Nat} {Q : am_Q} {M : am_M} {R : am_R} {b : Bool}
theorem safe_loop {x2 : Int32} {n : Nat} (hn : n ≤ 60) : ∀ (k i : Nat) (y : Int64), i + k = n → Q (some (aI (Int64.toInt32 (sfL x2 k y)))) M (Rs b) → am_WP E (am_WM E d) am_L_X6_safe Q 30 [aU, aI (nI n), aI x2, aL y, aU, aI (nI i)] [] M (Rs b) := by
  intro k
  induction k with
  | zero =>
    intro i y hi hQ
    exact w_X6_safe_30 ⟨fun _ => hQ, fun q => absurd (ix_le (by omega) (by omega)) q⟩
  | succ k ih =>
    intro i y hi hQ
    refine w_X6_safe_30 ⟨fun q => absurd q (ix_ge (by omega) (by omega)), fun _ => ⟨by decide, ?_⟩⟩
    rw [nI_1]
    exact ih (i + 1) _ (by omega) hQ
theorem msafe_loop {x2 : Int32} {n : Nat} (hn : n ≤ 60) : ∀ (k i : Nat) (y : Int64), i + k = n → Q (some (aI (Int64.toInt32 (sfL x2 k y)))) M R → am_WP E (am_WM E d) am_L_X7_safe Q 34 [aU, aI (nI n), aI x2, aL y, aU, aI (nI i)] [] M R := by
  intro k
  induction k with
  | zero =>
    intro i y hi hQ
    exact w_X7_safe_34 ⟨fun _ => hQ, fun q => absurd (ix_le (by omega) (by omega)) q⟩
  | succ k ih =>
    intro i y hi hQ
    refine w_X7_safe_34 ⟨fun q => absurd q (ix_ge (by omega) (by omega)), fun _ => ⟨by decide, ?_⟩⟩
    rw [nI_1]
    exact ih (i + 1) _ (by omega) hQ
theorem m_X6_safe {x1 x2 : Int32} (hQ : Q (some (aI (sfA x1 x2))) M (Rs b)) : am_WM E (d + 1) 82 [aO 6 0, aI x1, aI x2] M (Rs b) Q := by
  unfold sfA at hQ
  refine w_X6_safe ?_
  rcases inN_or (x := x1) (n := 61) (by omega) with ⟨n, hn, e, hin⟩ | ⟨h, hno⟩
  · subst e
    refine ⟨fun q => absurd q (ix_lt (by omega)), fun _ => ⟨fun q => absurd q (Int32.not_lt.mpr (ix_le (n := n) (q := 60) (by omega) (by omega))), fun _ => ?_⟩⟩
    rcases inN_or (x := x2) (n := 101) (by omega) with ⟨m, hm, e, hin2⟩ | ⟨h, hno⟩
    · rw [if_pos ⟨hin, hin2⟩, ix_cl (by omega)] at hQ
      subst e
      exact ⟨fun q => absurd q (ix_lt (by omega)), fun _ => ⟨fun _ => safe_loop (by omega) n 0 _ (by omega) hQ, fun q => absurd (ix_le (n := m) (q := 100) (by omega) (by omega)) q⟩⟩
    · rw [if_neg (fun z => hno z.2)] at hQ
      exact ⟨fun _ => hQ, fun q => ⟨fun q2 => absurd q2 (fun z => h.elim q (fun y => ix_ge (q := 100) (n := 101) (by omega) (by omega) (Int32.le_trans y z))), fun _ => hQ⟩⟩
  · rw [if_neg (fun z => hno z.1)] at hQ
    exact ⟨fun _ => hQ, fun q => ⟨fun _ => hQ, fun q2 => absurd (Int32.not_lt.mp q2) (fun z => h.elim q (fun y => ix_ge (q := 60) (n := 61) (by omega) (by omega) (Int32.le_trans y z)))⟩⟩
theorem m_X7_safe {x1 x2 : Int32} (hQ : Q (some (aI (sfA x1 x2))) M R) : am_WM E (d + 2) 154 [aO 7 13, aI x1, aI x2] M R Q := by
  unfold sfA at hQ
  refine w_X7_safe (m_X7_in (fun q => k1e (m_X7_in (fun r => kv ⟨fun _ => ?_, fun z => absurd z (by decide)⟩) (fun r => kv ⟨fun z => absurd rfl z, fun _ => ?_⟩))) (fun q => k0e ?_))
  · rw [Int32.toInt_toInt64] at q r
    have q0 : (0 : Int) ≤ x1.toInt := q.1
    have q1 : x1.toInt ≤ 60 := q.2
    have r0 : (0 : Int) ≤ x2.toInt := r.1
    have r1 : x2.toInt ≤ 100 := r.2
    rw [if_pos ⟨⟨q0, by omega⟩, ⟨r0, by omega⟩⟩] at hQ
    obtain ⟨n, e4⟩ : ∃ n : Nat, x1.toInt = n := ⟨x1.toInt.toNat, by omega⟩
    have e4' := i_of e4
    have hn : n < 61 := by omega
    subst e4'
    rw [ix_cl (by omega)] at hQ
    exact msafe_loop (by omega) n 0 _ (by omega) hQ
  · rw [Int32.toInt_toInt64] at r
    rw [if_neg (fun z => r ⟨z.2.1, by show x2.toInt ≤ (100 : Int); have := z.2.2; omega⟩)] at hQ
    exact hQ
  · rw [Int32.toInt_toInt64] at q
    rw [if_neg (fun z => q ⟨z.1.1, by show x1.toInt ≤ (60 : Int); have := z.1.2; omega⟩)] at hQ
    exact hQ
theorem common_loop {s : Int32} (hF : Wf (vc M (pl b) 6)) : ∀ (k i : Nat) (a : Int32), i + k = sN (vc M (pl b) 6) → Q (some (aI (coF (vc M (pl b) 6) s k i a))) M (Rs b) → am_WP E (am_WM E (d + 1)) am_L_X6_common Q 17 [aO 6 0, aI s, aI a, aI (nI i)] [] M (Rs b) := by
  have h8 := hF.1.1
  have hN : M 6 0 0 = nI (sN (vc M (pl b) 6)) := hF.1.2.1
  intro k
  induction k with
  | zero =>
    intro i a hi hQ
    refine w_X6_common_17 ?_
    rw [hN]
    exact ⟨fun _ => hQ, fun q => absurd (ix_le (by omega) (by omega)) q⟩
  | succ k ih =>
    intro i a hi hQ
    refine w_X6_common_17 ?_
    rw [hN, nI_1, ix_cl (n := i) (by omega)]
    unfold coF at hQ
    refine ⟨fun q => absurd q (ix_ge (by omega) (by omega)), fun _ => m_X6_holds (fun hb => k1e ⟨ix_in (by omega) (by omega), ih (i + 1) _ (by omega) ?_⟩) (fun hb => k0e (ih (i + 1) _ (by omega) ?_))⟩
    · rw [if_pos hb, show vc M (pl b) 6 14 i = M 6 8 i from tr_lt (show i < sN (vc M (pl b) 6) by omega)] at hQ
      exact hQ
    · rw [if_neg (by rw [hb]; decide)] at hQ
      exact hQ
theorem m_X6_common {x1 : Int32} (hF : Wf (vc M (pl b) 6)) (hQ : Q (some (aI (coA (vc M (pl b) 6) x1))) M (Rs b)) : am_WM E (d + 2) 81 [aO 6 0, aI x1] M (Rs b) Q := by
  have h8 := hF.1.1
  have hp2 := p2_le h8
  unfold coA at hQ
  refine w_X6_common (m_X6_arePictures hF.1 (fun z hz e => kv ⟨fun _ => ?_, fun q => absurd q (by decide)⟩) (fun a => kv ⟨fun q => absurd rfl q, fun _ => ?_⟩))
  · rw [if_pos (by rw [e]; exact inN_mk hz (by omega))] at hQ
    exact common_loop hF (sN (vc M (pl b) 6)) 0 255 (by omega) hQ
  · rw [if_neg (inN_not a)] at hQ
    exact hQ
theorem mcommon_loop {s : Int32} (hF : Wf (vm M)) : ∀ (k i z : Nat), i + k = sN (vm M) → z < 256 → Q (some (aI (coF (vm M) s k i (nI z)))) M R → am_WP E (am_WM E (d + 1)) am_L_X7_common Q 17 [aO 7 13, aI s, aI (nI z), aI (nI i)] [] M R := by
  have h8 := hF.1.1
  have hN : M 13 2 0 = nI (sN (vm M)) := hF.1.2.1
  intro k
  induction k with
  | zero =>
    intro i z hi hz hQ
    refine w_X7_common_17 ?_
    rw [hN]
    exact ⟨fun _ => hQ, fun q => absurd (ix_le (by omega) (by omega)) q⟩
  | succ k ih =>
    intro i z hi hz hQ
    have e14 : vm M 14 i = M 13 11 (24 + i) := tr_lt (f := fun j => M 13 11 (24 + j)) (show i < sN (vm M) by omega)
    obtain ⟨kk, hkk, ek⟩ := (hF.2.1 i (by omega)).2.2.2
    refine w_X7_common_17 ?_
    rw [hN, nI_1, show (24 : Int32) + nI i = nI (24 + i) from by rw [show (24 : Int32) = nI 24 from rfl, nI_add], ix_cl (n := 24 + i) (by omega)]
    unfold coF at hQ
    refine ⟨fun q => absurd q (ix_ge (by omega) (by omega)), fun _ => m_X7_has (fun hb => k1e ⟨ix_in (by omega) (by omega), ?_⟩) (fun hb => k0e ?_)⟩
    · rw [if_pos hb, ek, nI_and] at hQ
      rw [← e14, ek, nI_and]
      exact ih (i + 1) _ (by omega) (Nat.lt_of_le_of_lt Nat.and_le_left hz) hQ
    · rw [if_neg (by rw [hb]; decide)] at hQ
      rw [show nI z &&& 255 = nI z from by rw [show (255 : Int32) = nI 255 from rfl, nI_and, show z &&& 255 = z from by rw [show (255 : Nat) = 2 ^ 8 - 1 from rfl, Nat.and_two_pow_sub_one_eq_mod]; omega]]
      exact ih (i + 1) z (by omega) hz hQ
theorem m_X7_common {x1 : Int32} (hF : Wf (vm M)) (hQ : Q (some (aI (coA (vm M) x1))) M R) : am_WM E (d + 3) 153 [aO 7 13, aI x1] M R Q := by
  have h8 := hF.1.1
  have hp2 := p2_le h8
  unfold coA at hQ
  refine w_X7_common (m_X7_isSet hF.1 (fun z hz e => kv ⟨fun _ => ?_, fun q => absurd q (by decide)⟩) (fun a => kv ⟨fun q => absurd rfl q, fun _ => ?_⟩))
  · rw [if_pos (by rw [e]; exact inN_mk hz (by omega))] at hQ
    exact mcommon_loop hF (sN (vm M)) 0 255 (by omega) (by omega) hQ
  · rw [if_neg (inN_not a)] at hQ
    exact hQ
end Safe
