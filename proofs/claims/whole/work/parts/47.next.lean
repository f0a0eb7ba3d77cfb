/-! next of the class -/
section Next
variable {E : Nat → Nat → Int32} {d : Nat} {Q : am_Q} {R : am_R} {b : Bool}
theorem fill_loop {M0 : am_M} {o k : Nat} {v : Int32} (hQ : ∀ M', eqX [(o, k)] M0 M' → (∀ j, j < 8 → M' o k j = v) → Q none M' R) : ∀ (m i : Nat) (M : am_M), i + m = 8 → eqX [(o, k)] M0 M → (∀ j, j < i → M o k j = v) → am_WP E (am_WM E d) am_L_J7_fill_53178 Q 5 [aA o k 8, aI v, aI (nI i), aI 8] [] M R := by
  intro m
  induction m with
  | zero =>
    intro i M hi hX hj
    have : i = 8 := by omega
    subst this
    exact w_J7_fill_53178_5 ⟨fun _ => hQ M hX hj, fun y => absurd (by decide) y⟩
  | succ m ih =>
    intro i M hi hX hj
    refine w_J7_fill_53178_5 ⟨fun y => absurd y (ix_ge (n := 8) (by omega) (by omega)), fun _ => ⟨ix_in (by omega) (by omega), ?_⟩⟩
    rw [ix_cl (n := i) (by omega), nI_1]
    refine ih (i + 1) _ (by omega) (eqX_up hX (by simp)) (fun j hj' => ?_)
    by_cases e : j = i
    · rw [e]; exact up_s
    · rw [up_i e]; exact hj j (by omega)
theorem m_fill {M : am_M} {o k : Nat} {v : Int32} (hQ : ∀ M', eqX [(o, k)] M M' → (∀ j, j < 8 → M' o k j = v) → Q none M' R) : am_WM E (d + 1) 166 [aA o k 8, aI v] M R Q := by
  refine w_J7_fill_53178 ?_
  exact fill_loop hQ 8 0 M (by omega) eqX_rfl (fun j hj => absurd hj (by omega))
theorem PtOk_2 {M M' : am_M} {σ : Sc} {t h : Nat} (hX : eqX [(12, 2)] M M') (hP : PtOk M σ t h) : PtOk M' σ t h := by
  refine ⟨?_, ?_, ?_, ?_, ?_, fun j hj => ?_⟩
  · rw [hX 12 3 (by simp)]; exact hP.1
  · rw [hX 12 4 (by simp)]; exact hP.2.1
  · rw [hX 12 5 (by simp)]; exact hP.2.2.1
  · rw [hX 12 6 (by simp)]; exact hP.2.2.2.1
  · rw [hX 12 7 (by simp)]; exact hP.2.2.2.2.1
  · have := hP.2.2.2.2.2 j hj
    unfold PdOk at this ⊢
    rw [hX 12 0 (by simp), hX 12 1 (by simp)]
    exact this
theorem kw_at {σ α : Sc} {t h z q p : Nat} (h4 : sD σ ≤ 4) (hq : q < sD σ) (hw : wyB σ α t h (4 * z + q) = true) (hp : p < sN σ) : kwB σ α t h p (4 * z + q) = (bsN (knB σ t h q z) (sN σ)).testBit p := by
  unfold kwB
  rw [hw, show (4 * z + q) / 4 = z from by omega, show (4 * z + q) % 4 = q from by omega, Bool.true_and, (bsN_ok (f := knB σ t h q z) (sN σ)).2 p hp]
theorem kw_off {σ α : Sc} {t h p k : Nat} (hw : wyB σ α t h k = false) : kwB σ α t h p k = false := by
  unfold kwB
  rw [hw, Bool.false_and]
theorem ck60_loop {M0 : am_M} {σ α : Sc} {t h n z q : Nat} (h8 : sN σ ≤ 8) (h4 : sD σ ≤ 4) (hq : q < sD σ) (hz : z < 61) (hP : PtOk M0 σ t h) (hw : wyB σ α t h (4 * z + q) = true)
    (hK : ∀ M', eqX [(12, 2)] M0 M' → (∀ p, p < sN σ → M' 12 2 p = nI (ctb (kwB σ α t h p) (4 * z + (q + 1)))) → am_WP E (am_WM E (d + 1)) am_L_X1_countKnowingWays Q 23 [aO 1 12, aO 0 10, aI (nI n), aI (nI z), aI (nI (q + 1)), aU, aU] [] M' R) : ∀ (m i : Nat) (M : am_M), i + m = sN σ → eqX [(12, 2)] M0 M → (∀ p, p < sN σ → M 12 2 p = nI (ctb (kwB σ α t h p) (if p < i then 4 * z + (q + 1) else 4 * z + q))) → am_WP E (am_WM E (d + 1)) am_L_X1_countKnowingWays Q 60 [aO 1 12, aO 0 10, aI (nI n), aI (nI z), aI (nI q), aI (nI (bsN (knB σ t h q z) (sN σ))), aI (nI i)] [] M R := by
  intro m
  induction m with
  | zero =>
    intro i M hi hX hr
    refine w_X1_countKnowingWays_60 ?_
    rw [(PtOk_2 hX hP).1, nI_1]
    refine ⟨fun _ => hK M hX (fun p hp => ?_), fun y => absurd (ix_le (by omega) (by omega)) y⟩
    rw [hr p hp, if_pos (by omega)]
  | succ m ih =>
    intro i M hi hX hr
    refine w_X1_countKnowingWays_60 ?_
    rw [(PtOk_2 hX hP).1, nI_1 i, ix_cl (n := i) (by omega), hr i (by omega), if_neg (by omega), bt_v]
    have hin : vp_in (nI i) 8 := ix_in (by omega) (by omega)
    refine ⟨fun y => absurd y (ix_ge (by omega) (by omega)), fun _ => ⟨hin, hin, ?_⟩⟩
    refine ih (i + 1) (am_up M 12 2 i _) (by omega) (eqX_up hX (by simp)) (fun p hp => ?_)
    by_cases e : p = i
    · subst e
      rw [up_s, if_pos (c := p < p + 1) (by omega)]
      have hb := (bsN_ok (f := knB σ t h q z) (sN σ)).1
      have hp2 := p2_le h8
      have hk := kw_at h4 hq hw hp
      rw [bt_nI (by omega) (by omega), ← hk]
      cases hkw : kwB σ α t h p (4 * z + q) with
      | true =>
        rw [if_pos rfl, nI_1, ← ctb_t hkw]
        rfl
      | false =>
        rw [if_neg (by decide), Int32.add_zero, ← ctb_f hkw]
        rfl
    · rw [up_i e, hr p hp]
      by_cases e2 : p < i
      · rw [if_pos e2, if_pos (by omega)]
      · rw [if_neg e2, if_neg (by omega)]
theorem ck_loop {M0 : am_M} {σ α : Sc} {t h N : Nat} (h8 : sN σ ≤ 8) (h4 : sD σ ≤ 4) (ha : aC M0 = α) (hA : WA α N) (hN : N ≤ 8) (hP : PtOk M0 σ t h) (hh : h ≤ 99000) (hQ : ∀ M', eqX [(12, 2)] M0 M' → (∀ p, p < sN σ → M' 12 2 p = nI (ctb (kwB σ α t h p) 244)) → Q (some (aI (nI (ctb (wyB σ α t h) 244)))) M' R) : ∀ (m z q : Nat) (M : am_M), 5 * (61 - z) - q ≤ m → z < min h 61 → q ≤ sD σ → eqX [(12, 2)] M0 M → (∀ p, p < sN σ → M 12 2 p = nI (ctb (kwB σ α t h p) (4 * z + q))) → am_WP E (am_WM E (d + 1)) am_L_X1_countKnowingWays Q 23 [aO 1 12, aO 0 10, aI (nI (ctb (wyB σ α t h) (4 * z + q))), aI (nI z), aI (nI q), aU, aU] [] M R := by
  intro m
  induction m with
  | zero => intro z q M hm hz hq; omega
  | succ m ih =>
    intro z q M hm hz hq hX hr
    have hP' := PtOk_2 hX hP
    have ha' : aC M = α := by rw [← ha]; exact aC_off hX (fun k => by simp)
    refine w_X1_countKnowingWays_23 ?_
    rw [hP'.2.1]
    by_cases e : q = sD σ
    · subst e
      refine ⟨fun _ => w_X1_countKnowingWays_12 ?_, fun y => absurd (ix_le (by omega) (by omega)) y⟩
      rw [hP'.2.2.2.1, nI_1]
      have hsk : ctb (wyB σ α t h) (4 * z + sD σ) = ctb (wyB σ α t h) (4 * (z + 1) + 0) := ctb_to (by omega) (fun i a b => wy_off (Or.inr (by omega)))
      have hsp : ∀ p, ctb (kwB σ α t h p) (4 * z + sD σ) = ctb (kwB σ α t h p) (4 * (z + 1) + 0) := fun p => ctb_to (by omega) (fun i a b => kw_off (wy_off (Or.inr (by omega))))
      rw [hsk]
      by_cases ez : z + 1 < min h 61
      · exact ⟨fun y => absurd y (ix_ge ez (by omega)), fun _ => ih (z + 1) 0 M (by omega) ez (by omega) hX (fun p hp => by rw [hr p hp, hsp])⟩
      · refine ⟨fun _ => ?_, fun y => absurd (ix_le (by omega) (by omega)) y⟩
        rw [ctb_to (k := 4 * (z + 1) + 0) (k' := 244) (by omega) (fun i a b => wy_off (Or.inl (by omega)))]
        refine hQ M hX (fun p hp => ?_)
        rw [hr p hp, hsp, ctb_to (P := kwB σ α t h p) (k := 4 * (z + 1) + 0) (k' := 244) (by omega) (fun i a b => kw_off (wy_off (Or.inl (by omega))))]
    · refine ⟨fun y => absurd y (ix_ge (by omega) (by omega)), fun _ => m_X1_knowersOf h8 h4 hP' (by omega) (by omega) hh (kv ?_)⟩
      rw [hP'.2.2.2.2.1]
      refine m_X0_fit (by rw [ha']; exact hA) hN (fun hf => k1e ?_) (fun hf => k0e ?_)
      · rw [ha'] at hf
        have hwt : wyB σ α t h (4 * z + q) = true := by rw [wy_at h4 (by omega) (by omega)]; exact hf
        rw [nI_1, ← ctb_t hwt]
        refine ck60_loop h8 h4 (by omega) (by omega) hP' hwt (fun M' hX' hr' => ih z (q + 1) M' (by omega) hz (by omega) (eqX_tr hX hX') hr') (sN σ) 0 M (by omega) eqX_rfl (fun p hp => ?_)
        rw [hr p hp, if_neg (by omega)]
      · rw [ha'] at hf
        have hwt : wyB σ α t h (4 * z + q) = false := by rw [wy_at h4 (by omega) (by omega)]; exact hf
        rw [nI_1, ← ctb_f hwt]
        refine ih z (q + 1) M (by omega) hz (by omega) hX (fun p hp => ?_)
        rw [hr p hp]
        exact congrArg nI (ctb_f (kw_off hwt)).symm
theorem m_X1_countKnowingWays {M : am_M} {σ α : Sc} {t h N : Nat} (h8 : sN σ ≤ 8) (h4 : sD σ ≤ 4) (ha : aC M = α) (hA : WA α N) (hN : N ≤ 8) (hP : PtOk M σ t h) (hh : h ≤ 99000) (hQ : ∀ M', eqX [(12, 2)] M M' → (∀ p, p < sN σ → M' 12 2 p = nI (ctb (kwB σ α t h p) 244)) → Q (some (aI (nI (ctb (wyB σ α t h) 244)))) M' R) : am_WM E (d + 2) 11 [aO 1 12, aO 0 10] M R Q := by
  refine w_X1_countKnowingWays (m_fill (fun M1 hX1 hz1 => ⟨rfl, w_X1_countKnowingWays_12 ?_⟩))
  have hP1 := PtOk_2 hX1 hP
  rw [hP1.2.2.2.1]
  by_cases ez : 0 < min h 61
  · exact ⟨fun y => absurd y (ix_ge ez (by omega)), fun _ => ck_loop h8 h4 (by rw [← ha]; exact aC_off hX1 (fun k => by simp)) hA hN hP1 hh (fun M' hX' hr => hQ M' (eqX_tr hX1 hX') hr) 305 0 0 M1 (by omega) ez (by omega) eqX_rfl (fun p hp => hz1 p (by omega))⟩
  · refine ⟨fun _ => ?_, fun y => absurd (ix_le (n := min h 61) (q := 0) (by omega) (by omega)) y⟩
    have e0 : ctb (wyB σ α t h) 0 = ctb (wyB σ α t h) 244 := ctb_to (by omega) (fun i a b => wy_off (Or.inl (by omega)))
    have := hQ M1 hX1 (fun p hp => by
      have e1 : ctb (kwB σ α t h p) 0 = ctb (kwB σ α t h p) 244 := ctb_to (by omega) (fun i a b => kw_off (wy_off (Or.inl (by omega))))
      rw [← e1]
      exact hz1 p (by omega))
    rw [← e0] at this
    exact this
theorem best_loop {M : am_M} {N all : Nat} {kw : Nat → Nat} {v : Int32} (hN : N ≤ 8) (hn : M 12 3 0 = nI N) (hkw : ∀ p, p < N → M 12 2 p = nI (kw p) ∧ kw p ≤ all) (hall : all ≤ 244) (hQ : Q (some (aI v)) M R) : ∀ (m i : Nat) (best : Int32) (l : Nat), i + m = N → l ≤ all → nxL kw all m i best l = v → am_WP E (am_WM E d) am_L_X1_bestToAsk Q 14 [aO 1 12, aU, aI (nI all), aI best, aI (nI l), aI (nI i), aU] [] M R := by
  intro m
  induction m with
  | zero =>
    intro i best l hi hl hv
    refine w_X1_bestToAsk_14 ?_
    rw [hn]
    refine ⟨fun _ => ?_, fun y => absurd (ix_le (by omega) (by omega)) y⟩
    rw [show best = v from hv]; exact hQ
  | succ m ih =>
    intro i best l hi hl hv
    obtain ⟨e, hle⟩ := hkw i (by omega)
    refine w_X1_bestToAsk_14 ?_
    rw [hn, ix_cl (n := i) (by omega), e, nI_1, pk_sub hle]
    have em : (if nI (kw i) < nI (all - kw i) then nI (all - kw i) else nI (kw i)) = nI (max (kw i) (all - kw i)) := by
      by_cases e : kw i < all - kw i
      · rw [if_pos (nI_lt e (by omega)), Nat.max_eq_right (by omega)]
      · rw [if_neg (nI_nlt (by omega) (by omega)), Nat.max_eq_left (by omega)]
    rw [em]
    have hmx : max (kw i) (all - kw i) ≤ all := by omega
    have hin : vp_in (nI i) 8 := ix_in (by omega) (by omega)
    unfold nxL at hv
    refine ⟨fun y => absurd y (ix_ge (by omega) (by omega)), fun _ => ⟨hin, hin, fun y => ?_, fun y => ?_⟩⟩
    · rw [nI_leI (by omega) (by omega)] at y
      rw [if_neg (by omega)] at hv
      exact ih (i + 1) best l (by omega) hl hv
    · rw [nI_leI (by omega) (by omega)] at y
      rw [if_pos (by omega)] at hv
      exact ih (i + 1) (nI i) _ (by omega) hmx hv
theorem ctb_sub {P P' : Nat → Bool} (h : ∀ k, P' k = true → P k = true) : ∀ k, ctb P' k ≤ ctb P k
  | 0 => Nat.le_refl _
  | k + 1 => by
    have := ctb_sub h k
    show ctb P' k + (if P' k = true then 1 else 0) ≤ ctb P k + (if P k = true then 1 else 0)
    by_cases e : P' k = true
    · rw [if_pos e, if_pos (h k e)]; omega
    · rw [if_neg e]; omega
theorem kw_le {σ α : Sc} {t h p k : Nat} : ctb (kwB σ α t h p) k ≤ ctb (wyB σ α t h) k := ctb_sub (fun k e => by
  unfold kwB at e
  exact (Bool.and_eq_true_iff.mp e).1) k
theorem m_X1_bestToAsk {M : am_M} {σ α : Sc} {t h N : Nat} (h8 : sN σ ≤ 8) (h4 : sD σ ≤ 4) (ha : aC M = α) (hA : WA α N) (hN : N ≤ 8) (hP : PtOk M σ t h) (hh : h ≤ 99000) (hQ : ∀ M', eqX [(12, 2)] M M' → Q (some (aI (nxF2 σ α t h))) M' R) : am_WM E (d + 3) 10 [aO 1 12, aO 0 10] M R Q := by
  refine w_X1_bestToAsk (m_X1_countKnowingWays h8 h4 ha hA hN hP hh (fun M' hX hr => kv ?_))
  exact best_loop h8 (PtOk_2 hX hP).1 (fun p hp => ⟨hr p hp, kw_le⟩) (ctb_le 244) (hQ M' hX) (sN σ) 0 (-1) _ (by omega) (Nat.le_refl _) rfl
theorem m_X6_next {M : am_M} {x1 : Int32} {h : Nat} (hF : Wf (vc M (pl b) 6)) (hL : LkOk M (pl b) 6) (h5 : vc M (pl b) 6 5 0 = nI h) (hh : h ≤ 99000) (hA : WA (aC M) (sN (vc M (pl b) 6))) (hQ : ∀ M', eqX psS M M' → Q (some (aI (nxA (vc M (pl b) 6) (aC M) x1))) M' (Rs b)) : am_WM E (d + 4) 85 [aO 6 0, aI x1] M (Rs b) Q := by
  have h8 := hF.1.1
  have h4 := hF.1.2.2.1
  unfold nxA at hQ
  refine w_X6_next (m_X6_isThing (fun t ht e => kv ⟨fun _ => ?_, fun q => absurd q (by decide)⟩) (fun a => kv ⟨fun q => absurd rfl q, fun _ => ?_⟩))
  · subst e
    rw [if_pos (inN_mk ht (by omega)), ix_cl (n := t) (by omega), h5, nI_clamp (by omega)] at hQ
    refine m_X1_goThrough (g := pl b) (c := 6) (pl_ne (by omega)) (by decide) hF hL h5 hh (fun M' hX hP => ⟨rfl, ?_⟩)
    have ea : aC M' = aC M := aC_off hX (fun k => by simp [psS])
    exact m_X1_bestToAsk h8 h4 ea hA h8 hP hh (fun M2 hX2 => kv (hQ M2 (eqX_tr hX (eqX_sub hX2 (by simp [psS])))))
  · rw [if_neg (inN_not a)] at hQ
    exact hQ M eqX_rfl
end Next
