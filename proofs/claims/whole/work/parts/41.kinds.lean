/-! kinds, on both sides -/
def kiL (σ : Sc) (p n : Nat) (s : Int32) : Nat → Nat → Int32 → Int32
  | 0, _, a => a
  | k + 1, i, a => kiL σ p n s k (i + 1) (if pN (sup σ 10 p (nI i)) n 14 p = s then a ||| nI (2 ^ i) else a)
def kiA (σ : Sc) (x1 x2 x3 : Int32) : Int32 := if inN x1 (sN σ) then (if inN x2 31 ∧ inN x3 256 then kiL σ x1.toNatClampNeg x2.toNatClampNeg x3 6 0 0 else -1000000002) else -1000000001
theorem sup_sup {σ : Sc} {f i : Nat} {a b : Int32} : sup (sup σ f i a) f i b = sup σ f i b := by
  funext f' j
  unfold sup
  split
  · rfl
  · rfl
theorem kd_wg {σ : Sc} {p : Nat} {v : Int32} (hF : Wg σ) : Wg (sup σ 10 p v) := by
  unfold Wg sN sD sC at hF ⊢
  rw [sup_off (f' := 0) (by decide), sup_off (f' := 1) (by decide), sup_off (f' := 2) (by decide), sup_off (f' := 3) (by decide), sup_off (f' := 4) (by decide), sup_off (f' := 13) (by decide)]
  exact hF
theorem kd_wf {σ : Sc} {p i : Nat} (hF : Wf σ) (hi : i < 6) : Wf (sup σ 10 p (nI i)) := by
  obtain ⟨a1, a2, a3, a4, a5, a6⟩ := hF
  have eN : sN (sup σ 10 p (nI i)) = sN σ := by unfold sN; rw [sup_off (by decide)]
  have eD : sD (sup σ 10 p (nI i)) = sD σ := by unfold sD; rw [sup_off (by decide)]
  have eC : sC (sup σ 10 p (nI i)) = sC σ := by unfold sC; rw [sup_off (by decide)]
  refine ⟨kd_wg a1, ?_, ?_, ?_, ?_, ?_⟩
  · intro q hq
    rw [eN] at hq
    obtain ⟨b1, b2⟩ := a2 q hq
    rw [sup_off (f' := 11) (by decide), sup_off (f' := 12) (by decide), sup_off (f' := 14) (by decide)]
    refine ⟨?_, b2⟩
    by_cases e : q = p
    · subst e; rw [sup_at]; exact ⟨i, hi, rfl⟩
    · rw [sup_ne e]; exact b1
  · rw [eN, sup_off (by decide)]; exact a3
  · rw [sup_off (by decide)]; exact a4
  · rw [sup_off (by decide)]; exact a5
  · intro j hj
    rw [eC] at hj
    rw [eD, sup_off (f' := 17) (by decide), sup_off (f' := 18) (by decide), sup_off (f' := 19) (by decide)]
    exact a6 j hj
theorem vm_up10 {M : am_M} {i : Nat} {v : Int32} (hi : i < sN (vm M)) : vm (am_up M 13 3 i v) = sup (vm M) 10 i v := by
  funext f j
  match f with
  | 0 => rfl
  | 1 => rfl
  | 2 => rfl
  | 3 => rfl
  | 4 => rfl
  | 5 => rfl
  | 6 => rfl
  | 7 => rfl
  | 8 => rfl
  | 9 => rfl
  | 10 =>
    show tr _ (am_up M 13 3 i v 13 3) j = if 10 = 10 ∧ j = i then v else tr (M 13 2 0).toNatClampNeg (M 13 3) j
    by_cases hj : j = i
    · subst hj
      rw [if_pos ⟨rfl, rfl⟩, tr_lt (by exact hi)]
      exact up_s
    · rw [if_neg (fun q => hj q.2)]
      unfold tr
      rw [up_i (o' := 13) (k' := 3) (i' := j) hj]
      rfl
  | 11 => rfl
  | 12 => rfl
  | 13 => rfl
  | 14 => rfl
  | 15 => rfl
  | 16 => rfl
  | 17 => rfl
  | 18 => rfl
  | 19 => rfl
  | f + 20 => rfl
section Kinds
variable {E : Nat → Nat → Int32} {d : Nat} {Q : am_Q} {R : am_R} {b : Bool}
theorem kd6_loop {M0 : am_M} {σ : Sc} {p n h : Nat} {s : Int32} (hE : stepE E) (hF : Wf σ) (h5 : σ 5 0 = nI h) (hh : h ≤ 99000) (hp : p < sN σ) (hn : n ≤ 60) (hQ : ∀ M', eqX (cpS 7) M0 M' → Q (some (aI (kiL σ p n s 6 0 0))) M' (Rs b)) : ∀ (k i : Nat) (a : Int32) (M : am_M), i + k = 6 → eqX (cpS 7) M0 M → (∃ v, vc M (pl b) 7 = sup σ 10 p v) → kiL σ p n s k i a = kiL σ p n s 6 0 0 → am_WP E (am_WM E (d + 4)) am_L_X6_kinds Q 55 [aO 6 0, aI (nI p), aI (nI n), aI s, aI a, aI (nI i)] [] M (Rs b) := by
  have h8 := hF.1.1
  intro k
  induction k with
  | zero =>
    intro i a M hi hX hv ha
    have : i = 6 := by omega
    subst this
    refine w_X6_kinds_55 ⟨fun _ => ?_, fun q => absurd (by decide) q⟩
    rw [show a = kiL σ p n s 6 0 0 from ha]
    exact hQ M hX
  | succ k ih =>
    intro i a M hi hX hv ha
    obtain ⟨v, hv⟩ := hv
    have eN : sN (vc M (pl b) 7) = sN σ := by rw [hv]; unfold sN; rw [sup_off (by decide)]
    have hi6 : i < 6 := by omega
    refine w_X6_kinds_55 ⟨fun q => absurd q (ix_ge (n := 6) (by omega) (by omega)), fun _ => ⟨ix_in (by omega) (by omega), ?_⟩⟩
    rw [ix_cl (n := p) (by omega)]
    have hv1 : vc (am_up M 7 4 p (nI i)) (pl b) 7 = sup σ 10 p (nI i) := by
      rw [vc_up (pl_ne (by omega)) (Or.inl rfl) (by rw [eN]; exact hp), hv]
      exact sup_sup
    have hX1 : eqX (cpS 7) M0 (am_up M 7 4 p (nI i)) := eqX_up hX (by simp [cpS])
    generalize am_up M 7 4 p (nI i) = M1 at hv1 hX1
    refine m_X4_lookAll hE (pl_ne (by omega)) (by rw [hv1]; exact kd_wg hF.1) (fun M2 hX2 hv2 hL2 => ⟨rfl, ?_⟩)
    rw [hv1] at hv2
    have hw := kd_wf (p := p) hF hi6
    have hs5 : sup σ 10 p (nI i) 5 0 = nI h := by rw [sup_off (by decide)]; exact h5
    have hsN : sN (sup σ 10 p (nI i)) = sN σ := by unfold sN; rw [sup_off (by decide)]
    refine m_X4_knownBehind (g := pl b) (c := 7) (h := h) (by rw [hv2]; exact hw) hL2 (by rw [hv2]; exact hs5) hh (by rw [hv2, hsN]; exact hp) (by omega) (kv ?_)
    rw [hv2, sh1 (by omega), nI_1]
    have hX3 : eqX (cpS 7) M0 M2 := eqX_tr hX1 (eqX_sub hX2 (by simp [cpS]))
    refine ⟨fun q => ih (i + 1) _ M2 (by omega) hX3 ⟨_, hv2⟩ ?_, fun q => ih (i + 1) _ M2 (by omega) hX3 ⟨_, hv2⟩ ?_⟩
    · rw [← ha]
      show _ = kiL σ p n s k (i + 1) (if _ then _ else _)
      rw [if_neg q]
    · rw [← ha]
      show _ = kiL σ p n s k (i + 1) (if _ then _ else _)
      rw [if_pos q]
theorem m_X6_kinds {M : am_M} {x1 x2 x3 : Int32} {h : Nat} (hE : stepE E) (hF : Wf (vc M (pl b) 6)) (h5 : vc M (pl b) 6 5 0 = nI h) (hh : h ≤ 99000) (hQ : ∀ M', eqX (cpS 7) M M' → Q (some (aI (kiA (vc M (pl b) 6) x1 x2 x3))) M' (Rs b)) : am_WM E (d + 5) 79 [aO 6 0, aI x1, aI x2, aI x3] M (Rs b) Q := by
  have h8 := hF.1.1
  unfold kiA at hQ
  refine w_X6_kinds (m_X4_has hF.1.2.1 h8 (fun p hp e1 => kv ⟨fun _ => ?_, fun q => absurd q (by decide)⟩) (fun a => kv ⟨fun q => absurd rfl q, fun _ => ?_⟩))
  · subst e1
    rw [if_pos (inN_mk hp (by omega)), ix_cl (n := p) (by omega)] at hQ
    rcases inN_or (x := x2) (n := 31) (by omega) with ⟨n, hn, e, hin⟩ | ⟨hx, hno⟩
    · subst e
      refine ⟨fun q => absurd q (ix_lt (by omega)), fun _ => ⟨fun q => absurd q (Int32.not_lt.mpr (ix_le (n := n) (q := 30) (by omega) (by omega))), fun _ => ?_⟩⟩
      rcases inN_or (x := x3) (n := 256) (by omega) with ⟨m, hm, e, hin2⟩ | ⟨hx, hno⟩
      · rw [if_pos ⟨hin, hin2⟩, ix_cl (n := n) (by omega)] at hQ
        subst e
        refine ⟨fun q => absurd q (ix_lt (by omega)), fun _ => ⟨fun _ => ?_, fun q => absurd (ix_le (n := m) (q := 255) (by omega) (by omega)) q⟩⟩
        refine m_X4_copyFrom (c := 7) (c1 := 6) (by decide) (fun M1 hX1 hC => ⟨rfl, ?_⟩)
        have hg1 : ∀ k, M1 (pl b) k = M (pl b) k := fun k => hX1 (pl b) k (by simp [cpS, pl_ne (b := b) (k := 7) (by omega)])
        have hv1 : vc M1 (pl b) 7 = vc M (pl b) 6 := CpOk_vc hC hg1 h8
        exact kd6_loop hE hF h5 hh hp (by omega) hQ 6 0 0 M1 (by omega) hX1 ⟨vc M (pl b) 6 10 p, by rw [hv1, sup_self rfl]⟩ rfl
      · rw [if_neg (fun z => hno z.2)] at hQ
        exact ⟨fun _ => hQ M eqX_rfl, fun q => ⟨fun q2 => absurd q2 (fun z => hx.elim q (fun y => ix_ge (q := 255) (n := 256) (by omega) (by omega) (Int32.le_trans y z))), fun _ => hQ M eqX_rfl⟩⟩
    · rw [if_neg (fun z => hno z.1)] at hQ
      exact ⟨fun _ => hQ M eqX_rfl, fun q => ⟨fun _ => hQ M eqX_rfl, fun q2 => absurd (Int32.not_lt.mp q2) (fun z => hx.elim q (fun y => ix_ge (q := 30) (n := 31) (by omega) (by omega) (Int32.le_trans y z)))⟩⟩
  · rw [if_neg (inN_not a)] at hQ
    exact hQ M eqX_rfl
def kiS : List (Nat × Nat) := [(13, 3), (13, 11), (13, 34), (13, 35)]
/-- between two trials of kinds -/
def kiI (M0 M : am_M) (p : Nat) : Prop := eqX kiS M0 M ∧ (∀ j, j < 34 → M 13 11 j = M0 13 11 j) ∧ (∀ j, j < 34 → M 13 35 j = M0 13 11 j) ∧ ∀ j, j ≠ p → M 13 3 j = M0 13 3 j
theorem kiI_up {M0 M : am_M} {p : Nat} {v : Int32} (h8 : sN (vm M0) ≤ 8) (hp : p < sN (vm M0)) (h : kiI M0 M p) : vm (am_up M 13 3 p v) = sup (vm M0) 10 p v := by
  have e1 : vm (am_up M 13 3 p v) = vm (am_up M0 13 3 p v) := by
    refine vm_now (fun j hj => ?_) (fun k h1 h2 => ?_) h8
    · rw [up_k (by decide), up_k (by decide)]; exact h.2.1 j hj
    · by_cases e : k = 3
      · subst e
        funext j
        by_cases ej : j = p
        · subst ej; rw [up_s, up_s]
        · rw [up_i ej, up_i ej]; exact h.2.2.2 j ej
      · rw [am_up_off 13 k (by omega), am_up_off 13 k (by omega)]
        exact h.1 13 k (by simp [kiS]; omega)
  rw [e1, vm_up10 hp]
theorem kd7_loop2 {M0 : am_M} {p n h i : Nat} {s a : Int32} (hF : Wf (vm M0)) (h5 : vm M0 5 0 = nI h) (hh : h ≤ 99000) (hp : p < sN (vm M0)) (hn : n ≤ 60) (hi : i < 6)
    (hK : ∀ M', kiI M0 M' p → am_WP E (am_WM E (d + 5)) am_L_X7_kinds Q 56 [aO 7 13, aI (nI p), aI (nI n), aI s, aI (vm M0 10 p), aI (if pN (sup (vm M0) 10 p (nI i)) n 14 p = s then a ||| nI (2 ^ i) else a), aI (nI (i + 1)), aU] [] M' R) : ∀ (k j : Nat) (M : am_M), j + k = n → eqX kiS M0 M → vm M = pN (sup (vm M0) 10 p (nI i)) j → (∀ j, j < 34 → M 13 35 j = M0 13 11 j) → (∀ j, j ≠ p → M 13 3 j = M0 13 3 j) → am_WP E (am_WM E (d + 5)) am_L_X7_kinds Q 74 [aO 7 13, aI (nI p), aI (nI n), aI s, aI (vm M0 10 p), aI a, aI (nI i), aI (nI j)] [] M R := by
  have h8 := hF.1.1
  have hsN : sN (sup (vm M0) 10 p (nI i)) = sN (vm M0) := by unfold sN; rw [sup_off (by decide)]
  have hs5 : sup (vm M0) 10 p (nI i) 5 0 = nI h := by rw [sup_off (by decide)]; exact h5
  have hw := kd_wf (p := p) hF hi
  intro k
  induction k with
  | zero =>
    intro j M hj hX hv h35 h3
    have : j = n := by omega
    subst this
    have e14 : M 13 11 (24 + p) = pN (sup (vm M0) 10 p (nI i)) j 14 p := by
      rw [← hv]
      exact (tr_lt (f := fun j => M 13 11 (24 + j)) (show p < sN (vm M) by rw [hv, pN_sN, hsN]; exact hp)).symm
    refine w_X7_kinds_74 ⟨fun _ => ?_, fun q => absurd (ix_le (by omega) (by omega)) q⟩
    rw [show (24 : Int32) + nI p = nI (24 + p) from nI_add 24 p, ix_cl (n := 24 + p) (by omega), e14, sh1 (by omega), nI_1, Int32.or_zero]
    have hback : ∀ M', eqX [(13, 11)] M M' → (∀ j, j < 34 → M' 13 11 j = M 13 35 j) → kiI M0 M' p := fun M' g1 g2 => ⟨eqX_tr hX (eqX_sub g1 (by simp [kiS])), fun j hj => by rw [g2 j hj, h35 j hj], fun j hj => by rw [g1 13 35 (by simp), h35 j hj], fun j hj => by rw [g1 13 3 (by simp)]; exact h3 j hj⟩
    refine ⟨ix_in (by omega) (by omega), fun q => m_X7_putBack (fun M' g1 g2 => ⟨rfl, ?_⟩), fun q => m_X7_putBack (fun M' g1 g2 => ⟨rfl, ?_⟩)⟩
    · have := hK M' (hback M' g1 g2)
      rw [if_neg q] at this
      exact this
    · have := hK M' (hback M' g1 g2)
      rw [if_pos q] at this
      exact this
  | succ k ih =>
    intro j M hj hX hv h35 h3
    refine w_X7_kinds_74 ⟨fun q => absurd q (ix_ge (by omega) (by omega)), fun _ => m_X7_pass (by rw [hv]; exact (pN_wf hw hs5 j (by omega)).1) (fun M' g1 g2 => ⟨rfl, ?_⟩)⟩
    rw [nI_1]
    exact ih (j + 1) M' (by omega) (eqX_tr hX (eqX_sub g1 (by simp [kiS]))) (by rw [g2, hv]; rfl) (fun j hj => by rw [g1 13 35 (by simp)]; exact h35 j hj) (fun j hj => by rw [g1 13 3 (by simp)]; exact h3 j hj)
theorem kd7_loop {M0 : am_M} {p n h : Nat} {s : Int32} (hF : Wf (vm M0)) (h5 : vm M0 5 0 = nI h) (hh : h ≤ 99000) (hp : p < sN (vm M0)) (hn : n ≤ 60) (hQ : ∀ M', eqX kiS M0 M' → vm M' = vm M0 → Q (some (aI (kiL (vm M0) p n s 6 0 0))) M' R) : ∀ (k i : Nat) (a : Int32) (M : am_M), i + k = 6 → kiI M0 M p → kiL (vm M0) p n s k i a = kiL (vm M0) p n s 6 0 0 → am_WP E (am_WM E (d + 5)) am_L_X7_kinds Q 56 [aO 7 13, aI (nI p), aI (nI n), aI s, aI (vm M0 10 p), aI a, aI (nI i), aU] [] M R := by
  have h8 := hF.1.1
  intro k
  induction k with
  | zero =>
    intro i a M hi hI ha
    have : i = 6 := by omega
    subst this
    refine w_X7_kinds_56 ⟨fun _ => ⟨ix_in (by omega) (by omega), ?_⟩, fun q => absurd (by decide) q⟩
    rw [ix_cl (n := p) (by omega), show a = kiL (vm M0) p n s 6 0 0 from ha]
    refine hQ _ (eqX_up hI.1 (by simp [kiS])) ?_
    rw [kiI_up h8 hp hI, sup_self rfl]
  | succ k ih =>
    intro i a M hi hI ha
    refine w_X7_kinds_56 ⟨fun q => absurd q (ix_ge (n := 6) (by omega) (by omega)), fun _ => ⟨ix_in (by omega) (by omega), ?_⟩⟩
    rw [ix_cl (n := p) (by omega)]
    refine kd7_loop2 hF h5 hh hp hn (by omega) (fun M' hI' => ih (i + 1) _ M' (by omega) hI' ha) n 0 _ (by omega) (eqX_up hI.1 (by simp [kiS])) (kiI_up h8 hp hI) (fun j hj => by rw [up_k (by decide)]; exact hI.2.2.1 j hj) (fun j hj => by rw [up_i hj]; exact hI.2.2.2 j hj)
theorem m_X7_kinds {M : am_M} {x1 x2 x3 : Int32} {h : Nat} (hF : Wf (vm M)) (h5 : vm M 5 0 = nI h) (hh : h ≤ 99000) (hQ : ∀ M', eqX kiS M M' → vm M' = vm M → Q (some (aI (kiA (vm M) x1 x2 x3))) M' R) : am_WM E (d + 6) 152 [aO 7 13, aI x1, aI x2, aI x3] M R Q := by
  have h8 := hF.1.1
  unfold kiA at hQ
  refine w_X7_kinds (m_X7_isPicture hF.1.2.1 h8 (fun p hp e1 => kv ⟨fun _ => m_X7_in (fun q => k1e (m_X7_in (fun r => kv ⟨fun _ => ?_, fun z => absurd z (by decide)⟩) (fun r => kv ⟨fun z => absurd rfl z, fun _ => ?_⟩))) (fun q => k0e ?_), fun q => absurd q (by decide)⟩) (fun a => kv ⟨fun q => absurd rfl q, fun _ => ?_⟩))
  · subst e1
    rw [Int32.toInt_toInt64] at q r
    have q0 : (0 : Int) ≤ x2.toInt := q.1
    have q1 : x2.toInt ≤ 30 := q.2
    have r0 : (0 : Int) ≤ x3.toInt := r.1
    have r1 : x3.toInt ≤ 255 := r.2
    rw [if_pos (inN_mk hp (by omega)), if_pos ⟨⟨q0, by omega⟩, ⟨r0, by omega⟩⟩, ix_cl (n := p) (by omega)] at hQ
    obtain ⟨n, e4⟩ : ∃ n : Nat, x2.toInt = n := ⟨x2.toInt.toNat, by omega⟩
    have e4' := i_of e4
    have hn : n < 31 := by omega
    subst e4'
    rw [ix_cl (n := n) (by omega)] at hQ
    refine m_X7_save (fun M1 hX hw => ⟨rfl, ix_in (by omega) (by omega), ?_⟩)
    rw [ix_cl (n := p) (by omega), hX 13 3 (by simp), ← show vm M 10 p = M 13 3 p from tr_lt hp]
    exact kd7_loop hF h5 hh hp (by omega) hQ 6 0 0 M1 (by omega) ⟨eqX_sub hX (by simp [kiS]), fun j _ => by rw [hX 13 11 (by simp)], hw, fun j _ => by rw [hX 13 3 (by simp)]⟩ rfl
  · rw [Int32.toInt_toInt64] at r
    subst e1
    rw [if_pos (inN_mk hp (by omega)), if_neg (fun z => r ⟨z.2.1, by show x3.toInt ≤ (255 : Int); have := z.2.2; omega⟩)] at hQ
    exact hQ M eqX_rfl rfl
  · rw [Int32.toInt_toInt64] at q
    subst e1
    rw [if_pos (inN_mk hp (by omega)), if_neg (fun z => q ⟨z.1.1, by show x2.toInt ≤ (30 : Int); have := z.1.2; omega⟩)] at hQ
    exact hQ M eqX_rfl rfl
  · rw [if_neg (inN_not a)] at hQ
    exact hQ M eqX_rfl rfl
end Kinds
