/-! contracts over the state: keep, goBack -/
def kpS (s : St) (x : Int32) : St := if inN x 2 then (s.1, s.2.1, s.2.2.1, s.2.2.2.1, (fun j => if j = x.toNatClampNeg then true else s.2.2.2.2.1 j), (fun j => if j = x.toNatClampNeg then s.1 else s.2.2.2.2.2 j)) else s
def kpA (x : Int32) : Int32 := if inN x 2 then 1 else -1000000001
def gbS (s : St) (x : Int32) : St := if inN x 2 then (if s.2.2.2.2.1 x.toNatClampNeg = true then (s.2.2.2.2.2 x.toNatClampNeg, s.2) else s) else s
def gbA (s : St) (x : Int32) : Int32 := if inN x 2 then (if s.2.2.2.2.1 x.toNatClampNeg = true then 1 else -1000000003) else -1000000001
theorem kp_ok {s : St} {x : Int32} (hS : SOk s) : SOk (kpS s x) := by
  unfold kpS
  split
  · refine ⟨hS.1, hS.2.1, hS.2.2.1, hS.2.2.2.1, fun i hi hk => ?_⟩
    show IOk s.1 (if i = x.toNatClampNeg then s.1 else s.2.2.2.2.2 i)
    by_cases e : i = x.toNatClampNeg
    · rw [if_pos e]
      exact ⟨hS.1, hS.2.1, fun _ _ => rfl⟩
    · rw [if_neg e]
      have hk : (if i = x.toNatClampNeg then true else s.2.2.2.2.1 i) = true := hk
      rw [if_neg e] at hk
      exact hS.2.2.2.2 i hi hk
  · exact hS
theorem gb_ok {s : St} {x : Int32} (hS : SOk s) : SOk (gbS s x) := by
  unfold gbS
  split
  · next h =>
    split
    · next hk =>
      have ha := h.1
      have hb := h.2
      have e := i_of (x := x) (n := x.toInt.toNat) (by omega)
      rw [e, ix_cl (by omega)] at hk ⊢
      obtain ⟨i1, i2, i3⟩ := hS.2.2.2.2 _ (by omega) hk
      exact SOk_6 hS i1 i2 i3
    · exact hS
  · exact hS
theorem vi_mk {M M' : am_M} {i : Nat} (h8 : sN (vm M) ≤ 8) (hv : vm M' = vm M) (h1 : ∀ j, j < 34 → M' 13 46 (35 * i + j) = M 13 11 j) (h2 : M' 13 46 (35 * i + 34) = M 13 12 0) : vi M' i = vm M := by
  have e2 : M' 13 2 0 = M 13 2 0 := congrFun (congrFun hv 2) 0
  have hlt : ∀ j, j < (M 13 2 0).toNatClampNeg → j < 8 := fun j hj => Nat.lt_of_lt_of_le hj h8
  funext f j
  by_cases hf : imF f = true
  · rw [vi_at hf, hv]
  · rcases imF_no hf with rfl | rfl | rfl | rfl | rfl | rfl | rfl
    · exact h1 33 (by omega)
    · exact h1 32 (by omega)
    · exact h2
    · show tr (M' 13 2 0).toNatClampNeg (fun j => M' 13 46 (35 * i + j)) j = tr (M 13 2 0).toNatClampNeg (fun j => M 13 11 j) j
      rw [e2]
      exact congrFun (tr_eq (fun q hq => h1 q (by have := hlt q hq; omega))) j
    · show tr (M' 13 2 0).toNatClampNeg (fun j => M' 13 46 (35 * i + (8 + j))) j = tr (M 13 2 0).toNatClampNeg (fun j => M 13 11 (8 + j)) j
      rw [e2]
      exact congrFun (tr_eq (fun q hq => h1 (8 + q) (by have := hlt q hq; omega))) j
    · show tr (M' 13 2 0).toNatClampNeg (fun j => M' 13 46 (35 * i + (16 + j))) j = tr (M 13 2 0).toNatClampNeg (fun j => M 13 11 (16 + j)) j
      rw [e2]
      exact congrFun (tr_eq (fun q hq => h1 (16 + q) (by have := hlt q hq; omega))) j
    · show tr (M' 13 2 0).toNatClampNeg (fun j => M' 13 46 (35 * i + (24 + j))) j = tr (M 13 2 0).toNatClampNeg (fun j => M 13 11 (24 + j)) j
      rw [e2]
      exact congrFun (tr_eq (fun q hq => h1 (24 + q) (by have := hlt q hq; omega))) j
theorem vi_oth {M M' : am_M} {i : Nat} (h8 : sN (vm M) ≤ 8) (hv : vm M' = vm M) (h1 : ∀ j, j < 35 → M' 13 46 (35 * i + j) = M 13 46 (35 * i + j)) : vi M' i = vi M i := by
  have e2 : M' 13 2 0 = M 13 2 0 := congrFun (congrFun hv 2) 0
  have hlt : ∀ j, j < (M 13 2 0).toNatClampNeg → j < 8 := fun j hj => Nat.lt_of_lt_of_le hj h8
  funext f j
  by_cases hf : imF f = true
  · rw [vi_at hf, vi_at hf, hv]
  · rcases imF_no hf with rfl | rfl | rfl | rfl | rfl | rfl | rfl
    · exact h1 33 (by omega)
    · exact h1 32 (by omega)
    · exact h1 34 (by omega)
    · show tr (M' 13 2 0).toNatClampNeg (fun j => M' 13 46 (35 * i + j)) j = tr (M 13 2 0).toNatClampNeg (fun j => M 13 46 (35 * i + j)) j
      rw [e2]
      exact congrFun (tr_eq (fun q hq => h1 q (by have := hlt q hq; omega))) j
    · show tr (M' 13 2 0).toNatClampNeg (fun j => M' 13 46 (35 * i + (8 + j))) j = tr (M 13 2 0).toNatClampNeg (fun j => M 13 46 (35 * i + (8 + j))) j
      rw [e2]
      exact congrFun (tr_eq (fun q hq => h1 (8 + q) (by have := hlt q hq; omega))) j
    · show tr (M' 13 2 0).toNatClampNeg (fun j => M' 13 46 (35 * i + (16 + j))) j = tr (M 13 2 0).toNatClampNeg (fun j => M 13 46 (35 * i + (16 + j))) j
      rw [e2]
      exact congrFun (tr_eq (fun q hq => h1 (16 + q) (by have := hlt q hq; omega))) j
    · show tr (M' 13 2 0).toNatClampNeg (fun j => M' 13 46 (35 * i + (24 + j))) j = tr (M 13 2 0).toNatClampNeg (fun j => M 13 46 (35 * i + (24 + j))) j
      rw [e2]
      exact congrFun (tr_eq (fun q hq => h1 (24 + q) (by have := hlt q hq; omega))) j
theorem vm_mk {M M' : am_M} {i : Nat} (h8 : sN (vm M) ≤ 8) (hk : ∀ k, k ≤ 10 → M' 13 k = M 13 k) (h1 : ∀ j, j < 34 → M' 13 11 j = M 13 46 (35 * i + j)) (h2 : M' 13 12 0 = M 13 46 (35 * i + 34)) : vm M' = vi M i := by
  have e2 : M' 13 2 0 = M 13 2 0 := by rw [hk 2 (by omega)]
  have hlt : ∀ j, j < (M 13 2 0).toNatClampNeg → j < 8 := fun j hj => Nat.lt_of_lt_of_le hj h8
  funext f j
  match f with
  | 0 => show M' 13 0 0 = M 13 0 0; rw [hk 0 (by omega)]
  | 1 => show M' 13 1 0 = M 13 1 0; rw [hk 1 (by omega)]
  | 2 => exact e2
  | 3 => show M' 13 4 0 = M 13 4 0; rw [hk 4 (by omega)]
  | 4 => show M' 13 7 0 = M 13 7 0; rw [hk 7 (by omega)]
  | 5 => exact h1 33 (by omega)
  | 6 => exact h1 32 (by omega)
  | 7 => exact h2
  | 8 => rfl
  | 9 => rfl
  | 10 => show tr (M' 13 2 0).toNatClampNeg (M' 13 3) j = tr (M 13 2 0).toNatClampNeg (M 13 3) j; rw [e2, hk 3 (by omega)]
  | 11 =>
    show tr (M' 13 2 0).toNatClampNeg (fun j => M' 13 11 j) j = tr (M 13 2 0).toNatClampNeg (fun j => M 13 46 (35 * i + j)) j
    rw [e2]
    exact congrFun (tr_eq (fun q hq => h1 q (by have := hlt q hq; omega))) j
  | 12 =>
    show tr (M' 13 2 0).toNatClampNeg (fun j => M' 13 11 (8 + j)) j = tr (M 13 2 0).toNatClampNeg (fun j => M 13 46 (35 * i + (8 + j))) j
    rw [e2]
    exact congrFun (tr_eq (fun q hq => h1 (8 + q) (by have := hlt q hq; omega))) j
  | 13 =>
    show tr (M' 13 2 0).toNatClampNeg (fun j => M' 13 11 (16 + j)) j = tr (M 13 2 0).toNatClampNeg (fun j => M 13 46 (35 * i + (16 + j))) j
    rw [e2]
    exact congrFun (tr_eq (fun q hq => h1 (16 + q) (by have := hlt q hq; omega))) j
  | 14 =>
    show tr (M' 13 2 0).toNatClampNeg (fun j => M' 13 11 (24 + j)) j = tr (M 13 2 0).toNatClampNeg (fun j => M 13 46 (35 * i + (24 + j))) j
    rw [e2]
    exact congrFun (tr_eq (fun q hq => h1 (24 + q) (by have := hlt q hq; omega))) j
  | 15 => show tr (M' 13 4 0).toNatClampNeg (M' 13 5) j = tr (M 13 4 0).toNatClampNeg (M 13 5) j; rw [hk 4 (by omega), hk 5 (by omega)]
  | 16 => show tr (M' 13 4 0).toNatClampNeg (M' 13 6) j = tr (M 13 4 0).toNatClampNeg (M 13 6) j; rw [hk 4 (by omega), hk 6 (by omega)]
  | 17 => show tr (M' 13 7 0).toNatClampNeg (M' 13 8) j = tr (M 13 7 0).toNatClampNeg (M 13 8) j; rw [hk 7 (by omega), hk 8 (by omega)]
  | 18 => show tr (M' 13 7 0).toNatClampNeg (M' 13 9) j = tr (M 13 7 0).toNatClampNeg (M 13 9) j; rw [hk 7 (by omega), hk 9 (by omega)]
  | 19 => show tr (M' 13 7 0).toNatClampNeg (M' 13 10) j = tr (M 13 7 0).toNatClampNeg (M 13 10) j; rw [hk 7 (by omega), hk 10 (by omega)]
  | f + 20 => rfl
section Images
variable {E : Nat → Nat → Int32} {d : Nat} {Q : am_Q} {R : am_R} {b : Bool} {s : St} {x1 : Int32}
theorem m_X6_image {M : am_M} {i : Nat} (hi : i < 2) (h : Q (some (aO 4 (8 + i))) M (Rs b)) : am_WM E (d + 1) 92 [aO 6 0, aI (nI i)] M (Rs b) Q := by
  refine w_X6_image ?_
  rcases (by omega : i = 0 ∨ i = 1) with rfl | rfl
  · exact ⟨fun y => absurd rfl y, fun _ => h⟩
  · exact ⟨fun _ => h, fun y => absurd y (by decide)⟩
theorem c_keep {M : am_M} (hR : CRel M b s) (hS : SOk s) (hQ : KC M b (kpS s x1) (kpA x1) Q) : am_WM E (d + 2) 90 [aO 6 0, aI x1] M (Rs b) Q := by
  have hF := CR_F hR hS
  unfold kpA at hQ
  refine w_X6_keep ?_
  rcases inN_or (x := x1) (n := 2) (by omega) with ⟨i, hi, e, hin⟩ | ⟨hx, hno⟩
  · have es : kpS s x1 = (s.1, s.2.1, s.2.2.1, s.2.2.2.1, (fun j => if j = i then true else s.2.2.2.2.1 j), (fun j => if j = i then s.1 else s.2.2.2.2.2 j)) := by unfold kpS; rw [if_pos hin, e, ix_cl (by omega)]
    rw [if_pos hin, es] at hQ
    subst e
    refine ⟨fun q => absurd q (ix_lt (by omega)), fun _ => ⟨fun _ => m_X6_image hi ⟨8 + i, rfl, m_X4_copyFrom (c := 8 + i) (c1 := 6) (by omega) (fun M4 hX4 hC4 => ⟨rfl, ?_⟩)⟩, fun q => absurd (nI_lt (b := 2) hi (by omega)) q⟩⟩
    obtain ⟨c1, c2, c3, c4, c5, ⟨m, hm, em, hmb⟩, c7⟩ := hR
    have e4 : M4 0 7 0 = nI m := by rw [hX4 0 7 (by simp [cpS]; omega)]; exact em
    rw [e4, sh1 (by omega), nI_or]
    have h : ∀ o, o ≠ 0 → o ≠ 8 + i → (am_up M4 0 7 0 (nI (m ||| 2 ^ i))) o = M o := fun o a1 a2 => by
      funext k
      rw [am_up_off o k (fun z => a1 z.1), hX4 o k (by simp [cpS]; omega)]
    have hpl0 : pl b ≠ 0 := by cases b <;> decide
    have hpl : (am_up M4 0 7 0 (nI (m ||| 2 ^ i))) (pl b) = M (pl b) := h _ hpl0 (pl_ne (by omega))
    have hv2 : ∀ c, c ≠ 0 → c ≠ 8 + i → vc (am_up M4 0 7 0 (nI (m ||| 2 ^ i))) (pl b) c = vc M (pl b) c := fun c a1 a2 => vc_same (fun k => by rw [hpl]) (fun k _ => by rw [h c a1 a2])
    have h8i : (am_up M4 0 7 0 (nI (m ||| 2 ^ i))) (8 + i) = M4 (8 + i) := by
      funext k
      rw [am_up_off (8 + i) k (fun z => absurd z.1 (by omega))]
    have hC' : CpOk M (am_up M4 0 7 0 (nI (m ||| 2 ^ i))) (8 + i) 6 := ⟨fun k hk => by rw [h8i]; exact hC4.1 k hk, fun k j a1 a2 a3 => by rw [h8i]; exact hC4.2 k j a1 a2 a3⟩
    refine hQ _ ?_ ⟨(hv2 6 (by decide) (by omega)).trans c1, LkOk_of c2 (hv2 6 (by decide) (by omega)) (by rw [h 6 (by decide) (by omega)]), ?_, ?_, ?_, ⟨m ||| 2 ^ i, ?_, up_s, fun j hj => ?_⟩, fun j hj hk => ?_⟩
    · exact h 13 (by decide) (by omega)
    · show aC (am_up M4 0 7 0 (nI (m ||| 2 ^ i))) = s.2.1
      rw [← c3]; unfold aC; rw [h 10 (by decide) (by omega)]
    · show tC (am_up M4 0 7 0 (nI (m ||| 2 ^ i))) = s.2.2.1
      rw [← c4]; exact tC_off (fun k => by rw [h 1 (by decide) (by omega)])
    · show am_up M4 0 7 0 (nI (m ||| 2 ^ i)) 0 8 0 = s.2.2.2.1
      rw [up_k (by decide), hX4 0 8 (by simp [cpS]; omega)]; exact c5
    · exact Nat.or_lt_two_pow (n := 2) hm (Nat.pow_lt_pow_right (by decide) hi)
    · show _ = if j = i then true else s.2.2.2.2.1 j
      rw [testBit_or_pow, hmb j hj]
      by_cases ej : j = i
      · rw [if_pos ej, decide_eq_true ej.symm, Bool.or_true]
      · rw [if_neg ej, decide_eq_false (fun z => ej z.symm), Bool.or_false]
    · show vc (am_up M4 0 7 0 (nI (m ||| 2 ^ i))) (pl b) (8 + j) = (if j = i then s.1 else s.2.2.2.2.2 j) ∧ LkOk (am_up M4 0 7 0 (nI (m ||| 2 ^ i))) (pl b) (8 + j)
      by_cases ej : j = i
      · subst ej
        rw [if_pos rfl]
        exact ⟨(CpOk_vc hC' (fun k => by rw [hpl]) hF.1.1).trans c1, CpOk_lk hC' (fun k => by rw [hpl]) hF.1.1 c2⟩
      · rw [if_neg ej]
        have hk : (if j = i then true else s.2.2.2.2.1 j) = true := hk
        rw [if_neg ej] at hk
        exact ⟨(hv2 (8 + j) (by omega) (by omega)).trans (c7 j hj hk).1, LkOk_of (c7 j hj hk).2 (hv2 (8 + j) (by omega) (by omega)) (by rw [h (8 + j) (by omega) (by omega)])⟩
  · have es : kpS s x1 = s := by unfold kpS; rw [if_neg hno]
    rw [if_neg hno, es] at hQ
    exact ⟨fun _ => hQ M rfl hR, fun q => ⟨fun y => absurd y (Int32.not_lt.mpr (hx.resolve_left q)), fun _ => hQ M rfl hR⟩⟩
theorem keep_loop {M0 : am_M} {i : Nat} (hi : i < 2) (hQ : ∀ M', eqX [(13, 46), (13, 47)] M0 M' → (∀ j, j < 34 → M' 13 46 (35 * i + j) = M0 13 11 j) → M' 13 46 (35 * i + 34) = M0 13 12 0 → (∀ j, j < 35 * i ∨ 35 * i + 34 < j → M' 13 46 j = M0 13 46 j) → M' 13 47 i = 1 → (∀ j, j ≠ i → M' 13 47 j = M0 13 47 j) → Q (some (aI 1)) M' R) : ∀ (k j : Nat) (M : am_M), j + k = 34 → eqX [(13, 46)] M0 M → (∀ t, t < j → M 13 46 (35 * i + t) = M0 13 11 t) → (∀ t, t < 35 * i ∨ 35 * i + 34 < t → M 13 46 t = M0 13 46 t) → am_WP E (am_WM E d) am_L_X7_keep Q 15 [aO 7 13, aI (nI i), aI (nI j)] [] M R := by
  intro k
  induction k with
  | zero =>
    intro j M hj hX h1 h2
    have : j = 34 := by omega
    subst this
    refine w_X7_keep_15 ⟨fun _ => ?_, fun y => absurd (by decide) y⟩
    rw [show (35 : Int32) * nI i = nI (35 * i) from pk_mul 35 i, show nI (35 * i) + 34 = nI (35 * i + 34) from nI_add _ 34, ix_cl (n := 35 * i + 34) (by omega), ix_cl (n := i) (by omega)]
    refine ⟨ix_in (by omega) (by omega), ix_in hi (by omega), by decide, ?_⟩
    rw [hX 13 12 (by simp)]
    refine hQ _ (eqX_up (eqX_up (eqX_sub hX (by simp)) (by simp)) (by simp)) (fun t ht => ?_) ?_ (fun t ht => ?_) up_s (fun t ht => ?_)
    · rw [up_k (by decide), up_i (by omega)]; exact h1 t (by omega)
    · rw [up_k (by decide), up_s]
    · rw [up_k (by decide), up_i (by omega)]; exact h2 t ht
    · rw [up_i ht, up_k (by decide), hX 13 47 (by simp)]
  | succ k ih =>
    intro j M hj hX h1 h2
    refine w_X7_keep_15 ⟨fun y => absurd y (ix_ge (n := 34) (by omega) (by omega)), fun _ => ?_⟩
    rw [show (35 : Int32) * nI i = nI (35 * i) from pk_mul 35 i, nI_add, ix_cl (n := 35 * i + j) (by omega), ix_cl (n := j) (by omega), nI_1, hX 13 11 (by simp)]
    refine ⟨ix_in (by omega) (by omega), ix_in (by omega) (by omega), ih (j + 1) _ (by omega) (eqX_up hX (by simp)) (fun t ht => ?_) (fun t ht => ?_)⟩
    · by_cases e : t = j
      · rw [e, up_s]
      · rw [up_i (by omega)]; exact h1 t (by omega)
    · rw [up_i (by omega)]; exact h2 t ht
theorem r_keep {M : am_M} (hR : MRel M s) (hS : SOk s) (hQ : KM M R (kpS s x1) (kpA x1) Q) : am_WM E (d + 2) 164 [aO 7 13, aI x1] M R Q := by
  have hF := MR_F hR hS
  have h8 := hF.1.1
  unfold kpA at hQ
  refine w_X7_keep (m_X7_in (fun q => kv ⟨fun _ => ?_, fun z => absurd z (by decide)⟩) (fun q => kv ⟨fun z => absurd rfl z, fun _ => ?_⟩))
  · rw [Int32.toInt_toInt64] at q
    have q0 : (0 : Int) ≤ x1.toInt := q.1
    have q1 : x1.toInt ≤ 1 := q.2
    have hin : inN x1 2 := ⟨q0, by omega⟩
    obtain ⟨i, e4⟩ : ∃ n : Nat, x1.toInt = n := ⟨x1.toInt.toNat, by omega⟩
    have e := i_of e4
    have hi : i < 2 := by omega
    have es : kpS s x1 = (s.1, s.2.1, s.2.2.1, s.2.2.2.1, (fun j => if j = i then true else s.2.2.2.2.1 j), (fun j => if j = i then s.1 else s.2.2.2.2.2 j)) := by unfold kpS; rw [if_pos hin, e, ix_cl (by omega)]
    rw [if_pos hin, es] at hQ
    subst e
    refine keep_loop hi (fun M' hX h1 h2 h3 h4 h5 => ?_) 34 0 M (by omega) eqX_rfl (fun t ht => absurd ht (by omega)) (fun _ _ => rfl)
    have evm : vm M' = vm M := vm_off hX (fun k hk => by simp; omega)
    obtain ⟨c1, c2, c3, c4, c5, c6⟩ := hR
    refine hQ M' (eqo hX (fun o k h => by simp at h; omega)) ⟨evm.trans c1, ?_, ?_, ?_, fun j hj => ?_, fun j hj hk => ?_⟩
    · show aM M' = s.2.1
      rw [← c2]; exact aM_off hX (fun k a1 a2 a3 => by simp; omega)
    · show tM M' = s.2.2.1
      rw [← c3]; exact tM_off (fun k hk => hX 13 k (by simp; omega))
    · show M' 13 15 0 = s.2.2.2.1
      rw [hX 13 15 (by simp)]; exact c4
    · show M' 13 47 j = if (if j = i then true else s.2.2.2.2.1 j) = true then 1 else 0
      by_cases ej : j = i
      · rw [if_pos ej, if_pos rfl, ej, h4]
      · rw [if_neg ej, h5 j ej]; exact c5 j hj
    · show vi M' j = if j = i then s.1 else s.2.2.2.2.2 j
      by_cases ej : j = i
      · rw [if_pos ej, ej, vi_mk h8 evm h1 h2]; exact c1
      · rw [if_neg ej]
        have hk : (if j = i then true else s.2.2.2.2.1 j) = true := hk
        rw [if_neg ej] at hk
        rw [← c6 j hj hk]
        exact vi_oth h8 evm (fun t ht => h3 _ (by omega))
  · rw [Int32.toInt_toInt64] at q
    have hno : ¬ inN x1 2 := fun z => q ⟨z.1, by show x1.toInt ≤ (1 : Int); have := z.2; omega⟩
    have es : kpS s x1 = s := by unfold kpS; rw [if_neg hno]
    rw [if_neg hno, es] at hQ
    exact hQ M (fun _ _ => rfl) hR
theorem c_goBack {M : am_M} (hR : CRel M b s) (hS : SOk s) (hQ : KC M b (gbS s x1) (gbA s x1) Q) : am_WM E (d + 2) 91 [aO 6 0, aI x1] M (Rs b) Q := by
  refine w_X6_goBack ?_
  rcases inN_or (x := x1) (n := 2) (by omega) with ⟨i, hi, e, hin⟩ | ⟨hx, hno⟩
  · obtain ⟨m, hm, em, hmb⟩ := hR.2.2.2.2.2.1
    have ebt : bt (M 0 7 0) i = s.2.2.2.2.1 i := by rw [em, bt_nI (by omega) (by omega), hmb i hi]
    unfold gbS gbA at hQ
    rw [if_pos hin, if_pos hin, e, ix_cl (by omega)] at hQ
    subst e
    refine ⟨fun q => absurd q (ix_lt (by omega)), fun _ => ⟨fun _ => m_X6_holds (fun hb => kv ⟨fun _ => m_X6_image hi ⟨8 + i, rfl, m_X4_copyFrom (c := 6) (c1 := 8 + i) (by omega) (fun M4 hX4 hC4 => ⟨rfl, ?_⟩)⟩, fun q => absurd q (by decide)⟩) (fun hb => kv ⟨fun q => absurd rfl q, fun _ => ?_⟩), fun q => absurd (nI_lt (b := 2) hi (by omega)) q⟩⟩
    · rw [ebt] at hb
      rw [if_pos hb, if_pos hb] at hQ
      obtain ⟨i1, i2⟩ := hR.2.2.2.2.2.2 i hi hb
      have h8 : sN (vc M (pl b) (8 + i)) ≤ 8 := by rw [i1]; exact (hS.2.2.2.2 i hi hb).1.1.1
      have hg : ∀ k, M4 (pl b) k = M (pl b) k := fun k => hX4 (pl b) k (by simp [cpS, pl_ne (b := b) (k := 6) (by omega)])
      refine hQ M4 (eq13 hX4 (by simp [cpS])) (CRel_6 hX4 (fun o k h => by simp [cpS] at h; omega) hR ?_ (CpOk_lk hC4 hg h8 i2))
      rw [CpOk_vc hC4 hg h8, i1]
    · rw [ebt] at hb
      rw [if_neg (by rw [hb]; decide), if_neg (by rw [hb]; decide)] at hQ
      exact hQ M rfl hR
  · have es : gbS s x1 = s := by unfold gbS; rw [if_neg hno]
    have ea : gbA s x1 = -1000000001 := by unfold gbA; rw [if_neg hno]
    rw [ea, es] at hQ
    exact ⟨fun _ => hQ M rfl hR, fun q => ⟨fun y => absurd y (Int32.not_lt.mpr (hx.resolve_left q)), fun _ => hQ M rfl hR⟩⟩
theorem goBack_loop {M0 : am_M} {i : Nat} (hi : i < 2) (hQ : ∀ M', eqX [(13, 11), (13, 12)] M0 M' → (∀ j, j < 34 → M' 13 11 j = M0 13 46 (35 * i + j)) → M' 13 12 0 = M0 13 46 (35 * i + 34) → Q (some (aI 1)) M' R) : ∀ (k j : Nat) (M : am_M), j + k = 34 → eqX [(13, 11)] M0 M → (∀ t, t < j → M 13 11 t = M0 13 46 (35 * i + t)) → am_WP E (am_WM E d) am_L_X7_goBack Q 27 [aO 7 13, aI (nI i), aI (nI j)] [] M R := by
  intro k
  induction k with
  | zero =>
    intro j M hj hX h1
    have : j = 34 := by omega
    subst this
    refine w_X7_goBack_27 ⟨fun _ => ?_, fun y => absurd (by decide) y⟩
    rw [show (35 : Int32) * nI i = nI (35 * i) from pk_mul 35 i, show nI (35 * i) + 34 = nI (35 * i + 34) from nI_add _ 34, ix_cl (n := 35 * i + 34) (by omega), hX 13 46 (by simp)]
    refine ⟨ix_in (by omega) (by omega), hQ _ (eqX_up (eqX_sub hX (by simp)) (by simp)) (fun t ht => ?_) up_s⟩
    rw [up_k (by decide)]; exact h1 t ht
  | succ k ih =>
    intro j M hj hX h1
    refine w_X7_goBack_27 ⟨fun y => absurd y (ix_ge (n := 34) (by omega) (by omega)), fun _ => ?_⟩
    rw [show (35 : Int32) * nI i = nI (35 * i) from pk_mul 35 i, nI_add, ix_cl (n := 35 * i + j) (by omega), ix_cl (n := j) (by omega), nI_1, hX 13 46 (by simp)]
    refine ⟨ix_in (by omega) (by omega), ix_in (by omega) (by omega), ih (j + 1) _ (by omega) (eqX_up hX (by simp)) (fun t ht => ?_)⟩
    by_cases e : t = j
    · rw [e, up_s]
    · rw [up_i e]; exact h1 t (by omega)
theorem r_goBack {M : am_M} (hR : MRel M s) (hS : SOk s) (hQ : KM M R (gbS s x1) (gbA s x1) Q) : am_WM E (d + 2) 165 [aO 7 13, aI x1] M R Q := by
  have hF := MR_F hR hS
  have h8 := hF.1.1
  refine w_X7_goBack (m_X7_in (fun q => kv ⟨fun _ => ?_, fun z => absurd z (by decide)⟩) (fun q => kv ⟨fun z => absurd rfl z, fun _ => ?_⟩))
  · rw [Int32.toInt_toInt64] at q
    have q0 : (0 : Int) ≤ x1.toInt := q.1
    have q1 : x1.toInt ≤ 1 := q.2
    have hin : inN x1 2 := ⟨q0, by omega⟩
    obtain ⟨i, e4⟩ : ∃ n : Nat, x1.toInt = n := ⟨x1.toInt.toNat, by omega⟩
    have e := i_of e4
    have hi : i < 2 := by omega
    unfold gbS gbA at hQ
    rw [if_pos hin, if_pos hin, e, ix_cl (by omega)] at hQ
    subst e
    rw [ix_cl (n := i) (by omega), hR.2.2.2.2.1 i hi]
    refine ⟨ix_in hi (by omega), fun y => ?_, fun y => ?_⟩
    · have hb : s.2.2.2.2.1 i = true := by
        cases hb : s.2.2.2.2.1 i with
        | true => rfl
        | false => rw [hb] at y; exact absurd rfl y
      rw [if_pos hb, if_pos hb] at hQ
      refine goBack_loop hi (fun M' hX h1 h2 => ?_) 34 0 M (by omega) eqX_rfl (fun t ht => absurd ht (by omega))
      refine hQ M' (eqo hX (fun o k h => by simp at h; omega)) (MRel_6 hX (fun o k h => by simp at h; rcases h with ⟨rfl, rfl⟩ | ⟨rfl, rfl⟩ <;> exact ⟨rfl, rfl⟩) hR ?_ (hS.2.2.2.2 i hi hb).2.2)
      rw [vm_mk h8 (fun k hk => hX 13 k (by simp; omega)) h1 h2]
      exact hR.2.2.2.2.2 i hi hb
    · have hb : ¬ s.2.2.2.2.1 i = true := fun hb => by
        rw [if_pos hb] at y; exact absurd y (by decide)
      rw [if_neg hb, if_neg hb] at hQ
      exact hQ M (fun _ _ => rfl) hR
  · rw [Int32.toInt_toInt64] at q
    have hno : ¬ inN x1 2 := fun z => q ⟨z.1, by show x1.toInt ≤ (1 : Int); have := z.2; omega⟩
    have es : gbS s x1 = s := by unfold gbS; rw [if_neg hno]
    have ea : gbA s x1 = -1000000001 := by unfold gbA; rw [if_neg hno]
    rw [ea, es] at hQ
    exact hQ M (fun _ _ => rfl) hR
end Images
