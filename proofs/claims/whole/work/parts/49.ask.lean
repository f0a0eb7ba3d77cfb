/-! ask, write, tear, judge, on both sides -/
def askS (α : Sc) (x1 x2 x3 : Int32) : Sc := fun f j => match f with
  | 0 => nI (nA α + 1)
  | 1 => if j = nA α then x1 else α 1 j
  | 2 => if j = nA α then x2 else α 2 j
  | 3 => if j = nA α then x3 else α 3 j
  | f => α f j
def wrtS (α : Sc) (x1 x2 : Int32) : Sc := fun f j => match f with
  | 4 => nI (nB α + 1)
  | 5 => if j = nB α then x1 else α 5 j
  | 6 => if j = nB α then x2 else α 6 j
  | f => α f j
def asA (σ α : Sc) (x1 x2 : Int32) : Int32 := if inN x1 (sN σ) ∧ inN x2 8 then (if nA α = 8 then -1000000004 else nI (nA α + 1)) else -1000000001
def asS (σ α : Sc) (x1 x2 x3 : Int32) : Sc := if inN x1 (sN σ) ∧ inN x2 8 then (if nA α = 8 then α else askS α x1 x2 x3) else α
def wrA (σ α : Sc) (x1 x2 : Int32) : Int32 := if inN x1 (sN σ) then (if inN x2 256 then (if nB α = 15 then -1000000004 else nI (nB α + 1)) else -1000000002) else -1000000001
def wrS (σ α : Sc) (x1 x2 : Int32) : Sc := if inN x1 (sN σ) then (if inN x2 256 then (if nB α = 15 then α else wrtS α x1 x2) else α) else α
def juA (σ α : Sc) : Int32 := match sF (fun k => decide (¬ σ 14 (α 5 k).toNatClampNeg = α 6 k)) 0 (nB α) with | some k => nI k | none => -1
theorem asS_wa {σ α : Sc} {x1 x2 x3 : Int32} (h8 : sN σ ≤ 8) (hx : x3 = 0 ∨ x3 = 1) (h : WA α (sN σ)) : WA (asS σ α x1 x2 x3) (sN σ) := by
  unfold asS
  split
  · next hi =>
    split
    · exact h
    · next hn =>
      have h1 := h.1
      have eA : nA (askS α x1 x2 x3) = nA α + 1 := ix_cl (n := nA α + 1) (by omega)
      refine ⟨by rw [eA]; omega, by rw [eA]; rfl, h.2.2.1, h.2.2.2.1, fun j hj => ?_, h.2.2.2.2.2⟩
      rw [eA] at hj
      show (∃ p, p < sN σ ∧ (if j = nA α then x1 else α 1 j) = nI p) ∧ (∃ t, t < 8 ∧ (if j = nA α then x2 else α 2 j) = nI t) ∧ ((if j = nA α then x3 else α 3 j) = 0 ∨ (if j = nA α then x3 else α 3 j) = 1)
      by_cases e : j = nA α
      · rw [if_pos e, if_pos e, if_pos e]
        have ha := hi.1.1
        have hb := hi.1.2
        have hc := hi.2.1
        have hd := hi.2.2
        exact ⟨⟨x1.toInt.toNat, by omega, i_of (by omega)⟩, ⟨x2.toInt.toNat, by omega, i_of (by omega)⟩, hx⟩
      · rw [if_neg e, if_neg e, if_neg e]
        exact h.2.2.2.2.1 j (by omega)
  · exact h
theorem wrS_wa {σ α : Sc} {x1 x2 : Int32} (h8 : sN σ ≤ 8) (h : WA α (sN σ)) : WA (wrS σ α x1 x2) (sN σ) := by
  unfold wrS
  split
  · next hi =>
    split
    · split
      · exact h
      · next hn =>
        have h1 := h.2.2.1
        have eB : nB (wrtS α x1 x2) = nB α + 1 := ix_cl (n := nB α + 1) (by omega)
        refine ⟨h.1, h.2.1, by rw [eB]; omega, by rw [eB]; rfl, h.2.2.2.2.1, fun j hj => ?_⟩
        rw [eB] at hj
        show ∃ p, p < sN σ ∧ (if j = nB α then x1 else α 5 j) = nI p
        by_cases e : j = nB α
        · rw [if_pos e]
          have ha := hi.1
          have hb := hi.2
          exact ⟨x1.toInt.toNat, by omega, i_of (by omega)⟩
        · rw [if_neg e]
          exact h.2.2.2.2.2 j (by omega)
    · exact h
  · exact h
theorem te_wa {N : Nat} : WA (fun _ _ => 0) N := ⟨by decide, rfl, by decide, rfl, fun j hj => absurd hj (by show ¬ j < 0; omega), fun j hj => absurd hj (by show ¬ j < 0; omega)⟩
theorem tr_push {n : Nat} {f f' : Nat → Int32} {v : Int32} (h1 : f' n = v) (h2 : ∀ j, j ≠ n → f' j = f j) (j : Nat) : tr (n + 1) f' j = if j = n then v else tr n f j := by
  unfold tr
  by_cases e : j = n
  · rw [if_pos e, if_pos (by omega), e]; exact h1
  · rw [if_neg e, h2 j e]
    by_cases e2 : j < n
    · rw [if_pos e2, if_pos (by omega)]
    · rw [if_neg e2, if_neg (by omega)]
theorem aC_ask {M : am_M} {n : Nat} {x1 x2 x3 : Int32} (hn : M 10 0 0 = nI n) (h8 : n < 8) : aC (am_up (am_up (am_up (am_up M 10 2 n x1) 10 3 n x2) 10 4 n x3) 10 0 0 (nI (n + 1))) = askS (aC M) x1 x2 x3 := by
  have e0 : nA (aC M) = n := by show (M 10 0 0).toNatClampNeg = n; rw [hn, ix_cl (by omega)]
  funext f j
  unfold askS
  rw [e0]
  unfold aC
  rw [up_s, ix_cl (n := n + 1) (by omega)]
  have e1 : ∀ k, k ≠ 0 → k ≠ 2 → k ≠ 3 → k ≠ 4 → am_up (am_up (am_up (am_up M 10 2 n x1) 10 3 n x2) 10 4 n x3) 10 0 0 (nI (n + 1)) 10 k = M 10 k := fun k a b c d => by
    rw [am_up_off 10 k (by omega), am_up_off 10 k (by omega), am_up_off 10 k (by omega), am_up_off 10 k (by omega)]
  have r2 : am_up (am_up (am_up (am_up M 10 2 n x1) 10 3 n x2) 10 4 n x3) 10 0 0 (nI (n + 1)) 10 2 = am_up M 10 2 n x1 10 2 := by
    rw [am_up_off 10 2 (by omega), am_up_off 10 2 (by omega), am_up_off 10 2 (by omega)]
  have r3 : am_up (am_up (am_up (am_up M 10 2 n x1) 10 3 n x2) 10 4 n x3) 10 0 0 (nI (n + 1)) 10 3 = am_up (am_up M 10 2 n x1) 10 3 n x2 10 3 := by
    rw [am_up_off 10 3 (by omega), am_up_off 10 3 (by omega)]
  have r4 : am_up (am_up (am_up (am_up M 10 2 n x1) 10 3 n x2) 10 4 n x3) 10 0 0 (nI (n + 1)) 10 4 = am_up (am_up (am_up M 10 2 n x1) 10 3 n x2) 10 4 n x3 10 4 := by
    rw [am_up_off 10 4 (by omega)]
  rw [e1 1 (by decide) (by decide) (by decide) (by decide), e1 5 (by decide) (by decide) (by decide) (by decide), e1 6 (by decide) (by decide) (by decide) (by decide), r2, r3, r4, tr_push (f := M 10 2) (v := x1) up_s (fun j hj => up_i hj) j, tr_push (f := M 10 3) (v := x2) up_s (fun j hj => by rw [up_i hj, up_k (by decide)]) j, tr_push (f := M 10 4) (v := x3) up_s (fun j hj => by rw [up_i hj, up_k (by decide), up_k (by decide)]) j]
  rw [hn, ix_cl (n := n) (by omega)]
  match f with
  | 0 => rfl
  | 1 => rfl
  | 2 => rfl
  | 3 => rfl
  | 4 => rfl
  | 5 => rfl
  | 6 => rfl
  | f + 7 => rfl
theorem aM_ask {M : am_M} {n : Nat} {x1 x2 x3 : Int32} (hn : M 13 38 0 = nI n) (h8 : n < 8) : aM (am_up (am_up (am_up (am_up M 13 39 n x1) 13 40 n x2) 13 41 n x3) 13 38 0 (nI (n + 1))) = askS (aM M) x1 x2 x3 := by
  have e0 : nA (aM M) = n := by show (M 13 38 0).toNatClampNeg = n; rw [hn, ix_cl (by omega)]
  funext f j
  unfold askS
  rw [e0]
  unfold aM
  rw [up_s, ix_cl (n := n + 1) (by omega)]
  have e1 : ∀ k, k ≠ 38 → k ≠ 39 → k ≠ 40 → k ≠ 41 → am_up (am_up (am_up (am_up M 13 39 n x1) 13 40 n x2) 13 41 n x3) 13 38 0 (nI (n + 1)) 13 k = M 13 k := fun k a b c d => by
    rw [am_up_off 13 k (by omega), am_up_off 13 k (by omega), am_up_off 13 k (by omega), am_up_off 13 k (by omega)]
  have r2 : am_up (am_up (am_up (am_up M 13 39 n x1) 13 40 n x2) 13 41 n x3) 13 38 0 (nI (n + 1)) 13 39 = am_up M 13 39 n x1 13 39 := by
    rw [am_up_off 13 39 (by omega), am_up_off 13 39 (by omega), am_up_off 13 39 (by omega)]
  have r3 : am_up (am_up (am_up (am_up M 13 39 n x1) 13 40 n x2) 13 41 n x3) 13 38 0 (nI (n + 1)) 13 40 = am_up (am_up M 13 39 n x1) 13 40 n x2 13 40 := by
    rw [am_up_off 13 40 (by omega), am_up_off 13 40 (by omega)]
  have r4 : am_up (am_up (am_up (am_up M 13 39 n x1) 13 40 n x2) 13 41 n x3) 13 38 0 (nI (n + 1)) 13 41 = am_up (am_up (am_up M 13 39 n x1) 13 40 n x2) 13 41 n x3 13 41 := by
    rw [am_up_off 13 41 (by omega)]
  rw [e1 43 (by decide) (by decide) (by decide) (by decide), e1 44 (by decide) (by decide) (by decide) (by decide), e1 45 (by decide) (by decide) (by decide) (by decide), r2, r3, r4, tr_push (f := M 13 39) (v := x1) up_s (fun j hj => up_i hj) j, tr_push (f := M 13 40) (v := x2) up_s (fun j hj => by rw [up_i hj, up_k (by decide)]) j, tr_push (f := M 13 41) (v := x3) up_s (fun j hj => by rw [up_i hj, up_k (by decide), up_k (by decide)]) j]
  rw [hn, ix_cl (n := n) (by omega)]
  match f with
  | 0 => rfl
  | 1 => rfl
  | 2 => rfl
  | 3 => rfl
  | 4 => rfl
  | 5 => rfl
  | 6 => rfl
  | f + 7 => rfl
theorem aC_wrt {M : am_M} {n : Nat} {x1 x2 : Int32} (hn : M 10 1 0 = nI n) (h8 : n < 15) : aC (am_up (am_up (am_up M 10 5 n x1) 10 6 n x2) 10 1 0 (nI (n + 1))) = wrtS (aC M) x1 x2 := by
  have e0 : nB (aC M) = n := by show (M 10 1 0).toNatClampNeg = n; rw [hn, ix_cl (by omega)]
  funext f j
  unfold wrtS
  rw [e0]
  unfold aC
  rw [up_s, ix_cl (n := n + 1) (by omega)]
  have e1 : ∀ k, k ≠ 1 → k ≠ 5 → k ≠ 6 → am_up (am_up (am_up M 10 5 n x1) 10 6 n x2) 10 1 0 (nI (n + 1)) 10 k = M 10 k := fun k a b c => by
    rw [am_up_off 10 k (by omega), am_up_off 10 k (by omega), am_up_off 10 k (by omega)]
  have r2 : am_up (am_up (am_up M 10 5 n x1) 10 6 n x2) 10 1 0 (nI (n + 1)) 10 5 = am_up M 10 5 n x1 10 5 := by
    rw [am_up_off 10 5 (by omega), am_up_off 10 5 (by omega)]
  have r3 : am_up (am_up (am_up M 10 5 n x1) 10 6 n x2) 10 1 0 (nI (n + 1)) 10 6 = am_up (am_up M 10 5 n x1) 10 6 n x2 10 6 := by
    rw [am_up_off 10 6 (by omega)]
  rw [e1 0 (by decide) (by decide) (by decide), e1 2 (by decide) (by decide) (by decide), e1 3 (by decide) (by decide) (by decide), e1 4 (by decide) (by decide) (by decide), r2, r3, tr_push (f := M 10 5) (v := x1) up_s (fun j hj => up_i hj) j, tr_push (f := M 10 6) (v := x2) up_s (fun j hj => by rw [up_i hj, up_k (by decide)]) j]
  rw [hn, ix_cl (n := n) (by omega)]
  match f with
  | 0 => rfl
  | 1 => rfl
  | 2 => rfl
  | 3 => rfl
  | 4 => rfl
  | 5 => rfl
  | 6 => rfl
  | f + 7 => rfl
theorem aM_wrt {M : am_M} {n : Nat} {x1 x2 : Int32} (hn : M 13 43 0 = nI n) (h8 : n < 15) : aM (am_up (am_up (am_up M 13 44 n x1) 13 45 n x2) 13 43 0 (nI (n + 1))) = wrtS (aM M) x1 x2 := by
  have e0 : nB (aM M) = n := by show (M 13 43 0).toNatClampNeg = n; rw [hn, ix_cl (by omega)]
  funext f j
  unfold wrtS
  rw [e0]
  unfold aM
  rw [up_s, ix_cl (n := n + 1) (by omega)]
  have e1 : ∀ k, k ≠ 43 → k ≠ 44 → k ≠ 45 → am_up (am_up (am_up M 13 44 n x1) 13 45 n x2) 13 43 0 (nI (n + 1)) 13 k = M 13 k := fun k a b c => by
    rw [am_up_off 13 k (by omega), am_up_off 13 k (by omega), am_up_off 13 k (by omega)]
  have r2 : am_up (am_up (am_up M 13 44 n x1) 13 45 n x2) 13 43 0 (nI (n + 1)) 13 44 = am_up M 13 44 n x1 13 44 := by
    rw [am_up_off 13 44 (by omega), am_up_off 13 44 (by omega)]
  have r3 : am_up (am_up (am_up M 13 44 n x1) 13 45 n x2) 13 43 0 (nI (n + 1)) 13 45 = am_up (am_up M 13 44 n x1) 13 45 n x2 13 45 := by
    rw [am_up_off 13 45 (by omega)]
  rw [e1 38 (by decide) (by decide) (by decide), e1 39 (by decide) (by decide) (by decide), e1 40 (by decide) (by decide) (by decide), e1 41 (by decide) (by decide) (by decide), r2, r3, tr_push (f := M 13 44) (v := x1) up_s (fun j hj => up_i hj) j, tr_push (f := M 13 45) (v := x2) up_s (fun j hj => by rw [up_i hj, up_k (by decide)]) j]
  rw [hn, ix_cl (n := n) (by omega)]
  match f with
  | 0 => rfl
  | 1 => rfl
  | 2 => rfl
  | 3 => rfl
  | 4 => rfl
  | 5 => rfl
  | 6 => rfl
  | f + 7 => rfl
theorem aC_te {M : am_M} : aC (am_up (am_up M 10 0 0 0) 10 1 0 0) = fun _ _ => 0 := by
  funext f j
  unfold aC
  rw [up_k (o' := 10) (k' := 0) (i' := 0) (by decide), up_s, up_s]
  match f with
  | 0 => rfl
  | 1 => rfl
  | 2 => rfl
  | 3 => rfl
  | 4 => rfl
  | 5 => rfl
  | 6 => rfl
  | f + 7 => rfl
theorem aM_te {M : am_M} : aM (am_up (am_up M 13 38 0 0) 13 43 0 0) = fun _ _ => 0 := by
  funext f j
  unfold aM
  rw [up_k (o' := 13) (k' := 38) (i' := 0) (by decide), up_s, up_s]
  match f with
  | 0 => rfl
  | 1 => rfl
  | 2 => rfl
  | 3 => rfl
  | 4 => rfl
  | 5 => rfl
  | 6 => rfl
  | f + 7 => rfl
section Ask
variable {E : Nat → Nat → Int32} {d : Nat} {Q : am_Q} {R : am_R} {b : Bool}
def ntS : List (Nat × Nat) := [(10, 0), (10, 1), (10, 2), (10, 3), (10, 4), (10, 5), (10, 6)]
def mnS : List (Nat × Nat) := [(13, 38), (13, 39), (13, 40), (13, 41), (13, 43), (13, 44), (13, 45)]
theorem m_X6_ask {M : am_M} {x1 x2 x3 : Int32} (hF : Wg (vc M (pl b) 6)) (hA : WA (aC M) (sN (vc M (pl b) 6))) (hx : x3 = 0 ∨ x3 = 1) (hQ : ∀ M', eqX ntS M M' → aC M' = asS (vc M (pl b) 6) (aC M) x1 x2 x3 → Q (some (aI (asA (vc M (pl b) 6) (aC M) x1 x2))) M' (Rs b)) : am_WM E (d + 2) 83 [aO 6 0, aI x1, aI x2, aI x3] M (Rs b) Q := by
  have h8 := hF.1
  unfold asA asS at hQ
  refine w_X6_ask (m_X4_has hF.2.1 h8 (fun p hp e1 => k1e (m_X6_isThing (fun t ht e2 => kv ⟨fun _ => ?_, fun q => absurd q (by decide)⟩) (fun a => kv ⟨fun q => absurd rfl q, fun _ => ?_⟩))) (fun a => k0e ?_))
  · have hi : inN x1 (sN (vc M (pl b) 6)) ∧ inN x2 8 := ⟨by rw [e1]; exact inN_mk hp (by omega), by rw [e2]; exact inN_mk ht (by omega)⟩
    rw [if_pos hi, if_pos hi] at hQ
    have hn : M 10 0 0 = nI (nA (aC M)) := hA.2.1
    have hn8 := hA.1
    have u : ∀ (M : am_M) (k i : Nat) (v : Int32), k ≠ 0 → am_up M 10 k i v 10 0 0 = M 10 0 0 := fun _ _ _ _ h => up_k (fun e => h e.symm)
    show am_WM E (d + 1) 1 [aO 0 10, aI x1, aI x2, aI x3] M (Rs b) _
    refine w_X0_addAsked ?_
    rw [up_s, up_s]
    simp only [u _ 2 _ _ (by decide), u _ 3 _ _ (by decide), u _ 4 _ _ (by decide), hn]
    rw [ix_cl (n := nA (aC M)) (by omega), nI_1]
    by_cases e : nA (aC M) = 8
    · rw [if_pos e, if_pos e] at hQ
      refine ⟨fun y => absurd y (nI_nlt (b := 8) (by omega) (by omega)), fun _ => ⟨_, rfl, hQ M eqX_rfl rfl⟩⟩
    · rw [if_neg e, if_neg e] at hQ
      have hin : vp_in (nI (nA (aC M))) 8 := ix_in (by omega) (by omega)
      have hX : ∀ v, eqX ntS M (am_up (am_up (am_up (am_up M 10 2 (nA (aC M)) x1) 10 3 (nA (aC M)) x2) 10 4 (nA (aC M)) v) 10 0 0 (nI (nA (aC M) + 1))) := fun v => eqX_up (eqX_up (eqX_up (eqX_up eqX_rfl (by simp [ntS])) (by simp [ntS])) (by simp [ntS])) (by simp [ntS])
      refine ⟨fun _ => ⟨hin, hin, fun z => ⟨hin, _, rfl, ?_⟩, fun z => ⟨hin, _, rfl, ?_⟩⟩, fun y => absurd (nI_lt (b := 8) (by omega) (by omega)) y⟩
      · refine hQ _ (hX 0) ?_
        rw [z]
        exact aC_ask hn (by omega)
      · refine hQ _ (hX 1) ?_
        rw [hx.resolve_left z]
        exact aC_ask hn (by omega)
  · rw [if_neg (fun z => inN_not a z.2), if_neg (fun z => inN_not a z.2)] at hQ
    exact hQ M eqX_rfl rfl
  · rw [if_neg (fun z => inN_not a z.1), if_neg (fun z => inN_not a z.1)] at hQ
    exact hQ M eqX_rfl rfl
theorem m_X7_ask {M : am_M} {x1 x2 x3 : Int32} (hF : Wg (vm M)) (hA : WA (aM M) (sN (vm M))) (hx : x3 = 0 ∨ x3 = 1) (hQ : ∀ M', eqX mnS M M' → aM M' = asS (vm M) (aM M) x1 x2 x3 → Q (some (aI (asA (vm M) (aM M) x1 x2))) M' R) : am_WM E (d + 3) 155 [aO 7 13, aI x1, aI x2, aI x3] M R Q := by
  have h8 := hF.1
  unfold asA asS at hQ
  refine w_X7_ask (m_X7_isPicture hF.2.1 h8 (fun p hp e1 => k1e (m_X7_isThing (fun t ht e2 => kv ⟨fun _ => ?_, fun q => absurd q (by decide)⟩) (fun a => kv ⟨fun q => absurd rfl q, fun _ => ?_⟩))) (fun a => k0e ?_))
  · have hi : inN x1 (sN (vm M)) ∧ inN x2 8 := ⟨by rw [e1]; exact inN_mk hp (by omega), by rw [e2]; exact inN_mk ht (by omega)⟩
    rw [if_pos hi, if_pos hi] at hQ
    have hn : M 13 38 0 = nI (nA (aM M)) := hA.2.1
    have hn8 := hA.1
    have u : ∀ (M : am_M) (k i : Nat) (v : Int32), k ≠ 38 → am_up M 13 k i v 13 38 0 = M 13 38 0 := fun _ _ _ _ h => up_k (fun e => h e.symm)
    rw [up_s]
    simp only [u _ 39 _ _ (by decide), u _ 40 _ _ (by decide), u _ 41 _ _ (by decide), hn]
    rw [ix_cl (n := nA (aM M)) (by omega), nI_1]
    have h3 : x3 &&& 1 = x3 := by rcases hx with rfl | rfl <;> decide
    by_cases e : nA (aM M) = 8
    · rw [if_pos e, if_pos e] at hQ
      refine ⟨fun y => absurd (by rw [e]; rfl) y, fun _ => hQ M eqX_rfl rfl⟩
    · rw [if_neg e, if_neg e] at hQ
      have hin : vp_in (nI (nA (aM M))) 8 := ix_in (by omega) (by omega)
      refine ⟨fun _ => ⟨hin, hin, hin, h3, hQ _ (eqX_up (eqX_up (eqX_up (eqX_up eqX_rfl (by simp [mnS])) (by simp [mnS])) (by simp [mnS])) (by simp [mnS])) (aM_ask hn (by omega))⟩, fun y => absurd ?_ e⟩
      have y' : nI (nA (aM M)) = nI 8 := y
      rw [ix_eq (by omega) (by omega)] at y'
      exact y'
  · rw [if_neg (fun z => inN_not a z.2), if_neg (fun z => inN_not a z.2)] at hQ
    exact hQ M eqX_rfl rfl
  · rw [if_neg (fun z => inN_not a z.1), if_neg (fun z => inN_not a z.1)] at hQ
    exact hQ M eqX_rfl rfl
theorem m_X6_write {M : am_M} {x1 x2 : Int32} (hF : Wg (vc M (pl b) 6)) (hA : WA (aC M) (sN (vc M (pl b) 6))) (hQ : ∀ M', eqX ntS M M' → aC M' = wrS (vc M (pl b) 6) (aC M) x1 x2 → Q (some (aI (wrA (vc M (pl b) 6) (aC M) x1 x2))) M' (Rs b)) : am_WM E (d + 2) 86 [aO 6 0, aI x1, aI x2] M (Rs b) Q := by
  have h8 := hF.1
  unfold wrA wrS at hQ
  refine w_X6_write (m_X4_has hF.2.1 h8 (fun p hp e1 => kv ⟨fun _ => ?_, fun q => absurd q (by decide)⟩) (fun a => kv ⟨fun q => absurd rfl q, fun _ => ?_⟩))
  · have hi : inN x1 (sN (vc M (pl b) 6)) := by rw [e1]; exact inN_mk hp (by omega)
    rw [if_pos hi, if_pos hi] at hQ
    rcases inN_or (x := x2) (n := 256) (by omega) with ⟨m, hm, e, hin2⟩ | ⟨hx, hno⟩
    · rw [if_pos hin2, if_pos hin2] at hQ
      rw [e]
      refine ⟨fun q => absurd q (ix_lt (by omega)), fun _ => ⟨fun _ => ?_, fun q => absurd (ix_le (n := m) (q := 255) (by omega) (by omega)) q⟩⟩
      rw [← e]
      have hn : M 10 1 0 = nI (nB (aC M)) := hA.2.2.2.1
      have hn8 := hA.2.2.1
      have u : ∀ (M : am_M) (k i : Nat) (v : Int32), k ≠ 1 → am_up M 10 k i v 10 1 0 = M 10 1 0 := fun _ _ _ _ h => up_k (fun e => h e.symm)
      show am_WM E (d + 1) 2 [aO 0 10, aI x1, aI x2] M (Rs b) _
      refine w_X0_addEntry ?_
      rw [up_s]
      simp only [u _ 5 _ _ (by decide), u _ 6 _ _ (by decide), hn]
      rw [ix_cl (n := nB (aC M)) (by omega), nI_1]
      by_cases e : nB (aC M) = 15
      · rw [if_pos e, if_pos e] at hQ
        refine ⟨fun y => absurd y (nI_nlt (b := 15) (by omega) (by omega)), fun _ => ⟨_, rfl, hQ M eqX_rfl rfl⟩⟩
      · rw [if_neg e, if_neg e] at hQ
        have hin : vp_in (nI (nB (aC M))) 15 := ix_in (by omega) (by omega)
        exact ⟨fun _ => ⟨hin, hin, _, rfl, hQ _ (eqX_up (eqX_up (eqX_up eqX_rfl (by simp [ntS])) (by simp [ntS])) (by simp [ntS])) (aC_wrt hn (by omega))⟩, fun y => absurd (nI_lt (b := 15) (by omega) (by omega)) y⟩
    · rw [if_neg hno, if_neg hno] at hQ
      exact ⟨fun _ => hQ M eqX_rfl rfl, fun q => ⟨fun q2 => absurd q2 (fun z => hx.elim q (fun y => ix_ge (q := 255) (n := 256) (by omega) (by omega) (Int32.le_trans y z))), fun _ => hQ M eqX_rfl rfl⟩⟩
  · rw [if_neg (inN_not a), if_neg (inN_not a)] at hQ
    exact hQ M eqX_rfl rfl
theorem m_X7_write {M : am_M} {x1 x2 : Int32} (hF : Wg (vm M)) (hA : WA (aM M) (sN (vm M))) (hQ : ∀ M', eqX mnS M M' → aM M' = wrS (vm M) (aM M) x1 x2 → Q (some (aI (wrA (vm M) (aM M) x1 x2))) M' R) : am_WM E (d + 3) 160 [aO 7 13, aI x1, aI x2] M R Q := by
  have h8 := hF.1
  unfold wrA wrS at hQ
  refine w_X7_write (m_X7_isPicture hF.2.1 h8 (fun p hp e1 => kv ⟨fun _ => m_X7_in (fun q => kv ⟨fun _ => ?_, fun z => absurd z (by decide)⟩) (fun q => kv ⟨fun z => absurd rfl z, fun _ => ?_⟩), fun q => absurd q (by decide)⟩) (fun a => kv ⟨fun q => absurd rfl q, fun _ => ?_⟩))
  · rw [Int32.toInt_toInt64] at q
    have q0 : (0 : Int) ≤ x2.toInt := q.1
    have q1 : x2.toInt ≤ 255 := q.2
    have hi : inN x1 (sN (vm M)) := by rw [e1]; exact inN_mk hp (by omega)
    have hi2 : inN x2 256 := ⟨q0, by omega⟩
    rw [if_pos hi, if_pos hi, if_pos hi2, if_pos hi2] at hQ
    have hn : M 13 43 0 = nI (nB (aM M)) := hA.2.2.2.1
    have hn8 := hA.2.2.1
    have u : ∀ (M : am_M) (k i : Nat) (v : Int32), k ≠ 43 → am_up M 13 k i v 13 43 0 = M 13 43 0 := fun _ _ _ _ h => up_k (fun e => h e.symm)
    rw [up_s]
    simp only [u _ 44 _ _ (by decide), u _ 45 _ _ (by decide), hn]
    rw [ix_cl (n := nB (aM M)) (by omega), nI_1]
    by_cases e : nB (aM M) = 15
    · rw [if_pos e, if_pos e] at hQ
      exact ⟨fun y => absurd (by rw [e]; rfl) y, fun _ => hQ M eqX_rfl rfl⟩
    · rw [if_neg e, if_neg e] at hQ
      have hin : vp_in (nI (nB (aM M))) 15 := ix_in (by omega) (by omega)
      refine ⟨fun _ => ⟨hin, hin, hQ _ (eqX_up (eqX_up (eqX_up eqX_rfl (by simp [mnS])) (by simp [mnS])) (by simp [mnS])) (aM_wrt hn (by omega))⟩, fun y => absurd ?_ e⟩
      have y' : nI (nB (aM M)) = nI 15 := y
      rw [ix_eq (by omega) (by omega)] at y'
      exact y'
  · rw [Int32.toInt_toInt64] at q
    have hi : inN x1 (sN (vm M)) := by rw [e1]; exact inN_mk hp (by omega)
    have hi2 : ¬ inN x2 256 := fun z => q ⟨z.1, by show x2.toInt ≤ (255 : Int); have := z.2; omega⟩
    rw [if_pos hi, if_pos hi, if_neg hi2, if_neg hi2] at hQ
    exact hQ M eqX_rfl rfl
  · rw [if_neg (inN_not a), if_neg (inN_not a)] at hQ
    exact hQ M eqX_rfl rfl
theorem m_X6_tear {M : am_M} (hQ : ∀ M', eqX ntS M M' → aC M' = (fun _ _ => 0) → Q (some (aI (aC M 0 0 + aC M 4 0))) M' (Rs b)) : am_WM E (d + 2) 87 [aO 6 0] M (Rs b) Q := by
  refine w_X6_tear (w_X0_empty ⟨rfl, ?_⟩)
  exact hQ _ (eqX_up (eqX_up eqX_rfl (by simp [ntS])) (by simp [ntS])) aC_te
theorem m_X7_tear {M : am_M} (hQ : ∀ M', eqX mnS M M' → aM M' = (fun _ _ => 0) → Q (some (aI (aM M 0 0 + aM M 4 0))) M' R) : am_WM E (d + 1) 161 [aO 7 13] M R Q := by
  refine w_X7_tear ?_
  exact hQ _ (eqX_up (eqX_up eqX_rfl (by simp [mnS])) (by simp [mnS])) aM_te
theorem jud6_loop {M : am_M} (hF : Wg (vc M (pl b) 6)) (hA : WA (aC M) (sN (vc M (pl b) 6))) : ∀ (k i : Nat), i + k = nB (aC M) → Q (some (aI (match sF (fun k => decide (¬ vc M (pl b) 6 14 (aC M 5 k).toNatClampNeg = aC M 6 k)) i k with | some k => nI k | none => -1))) M R → am_WP E (am_WM E (d + 1)) am_L_X0_firstWrong Q 2 [aO 0 10, aO 4 6, aI (nI i), aU] [] M R := by
  have h8 := hF.1
  have hn : M 10 1 0 = nI (nB (aC M)) := hA.2.2.2.1
  have hb := hA.2.2.1
  intro k
  induction k with
  | zero =>
    intro i hi hQ
    refine w_X0_firstWrong_2 ?_
    rw [hn]
    exact ⟨fun _ => hQ, fun q => absurd (ix_le (by omega) (by omega)) q⟩
  | succ k ih =>
    intro i hi hQ
    have hi2 : i < nB (aC M) := by omega
    have e5 : aC M 5 i = M 10 5 i := tr_lt hi2
    have e6 : aC M 6 i = M 10 6 i := tr_lt hi2
    obtain ⟨p, hp, ep⟩ := hA.2.2.2.2.2 i hi2
    have e14 : vc M (pl b) 6 14 p = M 6 8 p := tr_lt hp
    refine w_X0_firstWrong_2 ?_
    rw [hn, ix_cl (n := i) (by omega), ← e5, ep, nI_1]
    have hin : vp_in (nI i) 15 := ix_in (by omega) (by omega)
    refine ⟨fun q => absurd q (ix_ge (by omega) (by omega)), fun _ => ⟨hin, m_X4_has (g := pl b) hF.2.1 h8 (fun p2 hp2 e => k1e ⟨ix_in (by omega) (by omega), hin, ?_⟩) (fun hne => absurd rfl (hne p hp))⟩⟩
    rw [ix_cl (n := p) (by omega), ← e14, ← e6]
    unfold sF at hQ
    rw [ep, ix_cl (n := p) (by omega)] at hQ
    refine ⟨fun y => ih (i + 1) (by omega) ?_, fun y => ?_⟩
    · rw [if_neg (by rw [decide_eq_true_iff]; exact fun z => z y)] at hQ
      exact hQ
    · rw [if_pos (decide_eq_true y)] at hQ
      exact hQ
theorem m_X6_judge {M : am_M} (hF : Wg (vc M (pl b) 6)) (hA : WA (aC M) (sN (vc M (pl b) 6))) (hQ : Q (some (aI (juA (vc M (pl b) 6) (aC M)))) M (Rs b)) : am_WM E (d + 3) 88 [aO 6 0] M (Rs b) Q := by
  refine w_X6_judge (w_X0_firstWrong ?_)
  exact jud6_loop hF hA (nB (aC M)) 0 (by omega) ⟨_, rfl, hQ⟩
theorem jud7_loop {M : am_M} (hF : Wg (vm M)) (hA : WA (aM M) (sN (vm M))) : ∀ (k i : Nat), i + k = nB (aM M) → Q (some (aI (match sF (fun k => decide (¬ vm M 14 (aM M 5 k).toNatClampNeg = aM M 6 k)) i k with | some k => nI k | none => -1))) M R → am_WP E (am_WM E d) am_L_X7_judge Q 2 [aO 7 13, aI (nI i)] [] M R := by
  have h8 := hF.1
  have hn : M 13 43 0 = nI (nB (aM M)) := hA.2.2.2.1
  have hb := hA.2.2.1
  intro k
  induction k with
  | zero =>
    intro i hi hQ
    refine w_X7_judge_2 ?_
    rw [hn]
    exact ⟨fun _ => hQ, fun q => absurd (ix_le (by omega) (by omega)) q⟩
  | succ k ih =>
    intro i hi hQ
    have hi2 : i < nB (aM M) := by omega
    have e5 : aM M 5 i = M 13 44 i := tr_lt hi2
    have e6 : aM M 6 i = M 13 45 i := tr_lt hi2
    obtain ⟨p, hp, ep⟩ := hA.2.2.2.2.2 i hi2
    have e14 : vm M 14 p = M 13 11 (24 + p) := tr_lt (f := fun j => M 13 11 (24 + j)) hp
    refine w_X7_judge_2 ?_
    rw [hn, ix_cl (n := i) (by omega), ← e5, ← e6, ep, nI_1, show (24 : Int32) + nI p = nI (24 + p) from nI_add 24 p, ix_cl (n := 24 + p) (by omega), ← e14]
    have hin : vp_in (nI i) 15 := ix_in (by omega) (by omega)
    unfold sF at hQ
    rw [ep, ix_cl (n := p) (by omega)] at hQ
    refine ⟨fun q => absurd q (ix_ge (by omega) (by omega)), fun _ => ⟨hin, ix_in (by omega) (by omega), hin, fun y => ih (i + 1) (by omega) ?_, fun y => ?_⟩⟩
    · rw [if_neg (by rw [decide_eq_true_iff]; exact fun z => z y)] at hQ
      exact hQ
    · rw [if_pos (decide_eq_true y)] at hQ
      exact hQ
theorem m_X7_judge {M : am_M} (hF : Wg (vm M)) (hA : WA (aM M) (sN (vm M))) (hQ : Q (some (aI (juA (vm M) (aM M)))) M R) : am_WM E (d + 1) 162 [aO 7 13] M R Q := by
  refine w_X7_judge ?_
  exact jud7_loop hF hA (nB (aM M)) 0 (by omega) hQ
end Ask
