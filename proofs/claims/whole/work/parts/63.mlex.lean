/-! the reference's reader: letters, numbers, cells -/
def RdM (M : am_M) (n : Nat) (L : Nat → Int32) (a : Nat) : Prop := M 13 14 0 = nI n ∧ (∀ j, j < n → M 13 13 j = L j) ∧ M 13 16 0 = nI a
theorem RdM_at {M M' : am_M} {n a a' : Nat} {L : Nat → Int32} (h : RdM M n L a) (h13 : M' 13 13 = M 13 13) (h14 : M' 13 14 = M 13 14) (ha : M' 13 16 0 = nI a') : RdM M' n L a' :=
  ⟨by rw [h14]; exact h.1, fun j hj => by rw [h13]; exact h.2.1 j hj, ha⟩
section MLex
variable {E : Nat → Nat → Int32} {d : Nat} {Q : am_Q} {R : am_R} {n a : Nat} {L : Nat → Int32}
theorem here_loop (hn : n ≤ 240) {M0 : am_M} : ∀ (k a : Nat) (M : am_M), a + k = n → RdM M n L a → eqX [(13, 16)] M0 M → (∀ M', eqX [(13, 16)] M0 M' → M' 13 16 0 = nI (skp n L a) → Q (some (aI (ltF n L (skp n L a)))) M' R) → am_WP E (am_WM E d) am_L_X7_here Q 0 [aO 7 13] [] M R := by
  intro k
  induction k with
  | zero =>
    intro a M ha hR hX hQ
    refine w_X7_here_0 ?_
    rw [hR.1, hR.2.2]
    rw [skp_end (by omega)] at hQ
    have hq := hQ M hX hR.2.2
    unfold ltF at hq
    rw [if_neg (by omega)] at hq
    exact ⟨fun _ => ⟨fun _ => hq, fun y => absurd (ix_le (by omega) (by omega)) y⟩, fun y => absurd (ix_le (by omega) (by omega)) y⟩
  | succ k ih =>
    intro a M ha hR hX hQ
    refine w_X7_here_0 ?_
    rw [hR.1, hR.2.2, ix_cl (n := a) (by omega), hR.2.1 a (by omega), nI_1]
    have hin : vp_in (nI a) 240 := ix_in (by omega) (by omega)
    refine ⟨fun y => absurd y (ix_ge (by omega) (by omega)), fun _ => ⟨hin, fun y => ⟨fun z => absurd z (ix_ge (by omega) (by omega)), fun _ => ⟨hin, ?_⟩⟩, fun y => ?_⟩⟩
    · rw [skp_stop (by omega) y] at hQ
      have hq := hQ M hX hR.2.2
      unfold ltF at hq
      rw [if_pos (by omega)] at hq
      exact hq
    · rw [skp_step (by omega) y] at hQ
      exact ih (a + 1) _ (by omega) (RdM_at hR (am_up_off 13 13 (by decide)) (am_up_off 13 14 (by decide)) up_s) (eqX_up hX (by simp)) hQ
theorem m_X7_here {M : am_M} (hn : n ≤ 240) (hR : RdM M n L a) (ha : a ≤ n) (hQ : ∀ M', eqX [(13, 16)] M M' → M' 13 16 0 = nI (skp n L a) → Q (some (aI (ltF n L (skp n L a)))) M' R) : am_WM E (d + 1) 107 [aO 7 13] M R Q := by
  refine w_X7_here ?_
  rw [hR.1, hR.2.2]
  by_cases e : n ≤ a
  · rw [skp_end e] at hQ
    have hq := hQ M eqX_rfl hR.2.2
    unfold ltF at hq
    rw [if_neg (by omega)] at hq
    exact ⟨fun _ => ⟨fun _ => hq, fun y => absurd (ix_le (by omega) (by omega)) y⟩, fun y => absurd (ix_le (by omega) (by omega)) y⟩
  · rw [ix_cl (n := a) (by omega), hR.2.1 a (by omega), nI_1]
    have hin : vp_in (nI a) 240 := ix_in (by omega) (by omega)
    refine ⟨fun y => absurd y (ix_ge (by omega) (by omega)), fun _ => ⟨hin, fun y => ⟨fun z => absurd z (ix_ge (by omega) (by omega)), fun _ => ⟨hin, ?_⟩⟩, fun y => ?_⟩⟩
    · rw [skp_stop (by omega) y] at hQ
      have hq := hQ M eqX_rfl hR.2.2
      unfold ltF at hq
      rw [if_pos (by omega)] at hq
      exact hq
    · rw [skp_step (by omega) y] at hQ
      exact here_loop hn (n - (a + 1)) (a + 1) _ (by omega) (RdM_at hR (am_up_off 13 13 (by decide)) (am_up_off 13 14 (by decide)) up_s) (eqX_up eqX_rfl (by simp)) hQ
theorem m_X7_fails {M : am_M} {x1 x2 : Int32} (hQ : ∀ M', eqX [(13, 15)] M M' → M' 13 15 0 = x2 → Q (some (aI x1)) M' R) : am_WM E (d + 1) 108 [aO 7 13, aI x1, aI x2] M R Q :=
  w_X7_fails (hQ _ (eqX_up eqX_rfl (by simp)) up_s)
theorem fig_in {x : Int32} : figB x = true ↔ ((48 : Int64).toInt ≤ (Int32.toInt64 x).toInt ∧ (Int32.toInt64 x).toInt ≤ (57 : Int64).toInt) := by
  unfold figB
  rw [decide_eq_true_iff, Int32.toInt_toInt64, Int32.not_lt, Int32.not_lt, i_le, i_le]
  exact Iff.rfl
def tnS3 : List (Nat × Nat) := [(13, 16), (13, 17), (13, 18)]
def tnS4 : List (Nat × Nat) := [(13, 15), (13, 16), (13, 17), (13, 18)]
theorem tnum_loop {M0 : am_M} {lo hi : Int32} {s : Nat} (hn : n ≤ 240) (hs : s ≤ n)
    (hF : (3 < (fgF L (n - s) s 0 0).2.2 ∨ nI (fgF L (n - s) s 0 0).2.1 < lo ∨ ¬ nI (fgF L (n - s) s 0 0).2.1 ≤ hi) → ∀ M', eqX tnS4 M0 M' → M' 13 15 0 = nI s → Q (some (aI 2)) M' R)
    (hK : ¬ (3 < (fgF L (n - s) s 0 0).2.2 ∨ nI (fgF L (n - s) s 0 0).2.1 < lo ∨ ¬ nI (fgF L (n - s) s 0 0).2.1 ≤ hi) → ∀ M', eqX tnS3 M0 M' → RdM M' n L (fgF L (n - s) s 0 0).1 → M' 13 17 0 = nI (fgF L (n - s) s 0 0).2.1 → M' 13 18 0 = nI s → Q (some (aI 0)) M' R) :
    ∀ (k a v c : Nat) (M : am_M), a + k = n → s ≤ a → c = a - s → v < 10 ^ min c 3 → fgF L k a v c = fgF L (n - s) s 0 0 → RdM M n L a → M 13 18 0 = nI s → (c ≤ 3 → M 13 17 0 = nI v) → eqX tnS3 M0 M → am_WP E (am_WM E (d + 1)) am_L_X7_takeNumber Q 42 [aO 7 13, aI lo, aI hi, aU] [] M R := by
  have hend : ∀ (a v c : Nat) (M : am_M), (a, v, c) = fgF L (n - s) s 0 0 → s ≤ a → a ≤ n → c = a - s → v < 1000 → RdM M n L a → M 13 18 0 = nI s → (c ≤ 3 → M 13 17 0 = nI v) → eqX tnS3 M0 M → (((3 : Int32) < ((M 13 16 0) - (M 13 18 0)) → am_WM E (d + 1) 108 [aO 7 13, aI 2, aI (M 13 18 0)] M R (fun r M1 R2 => ∃ a3 : Int32, r = some (aI a3) ∧ Q (some (aI a3)) M1 R2)) ∧ (¬ (3 : Int32) < ((M 13 16 0) - (M 13 18 0)) → am_WM E (d + 1) 99 [aL (Int32.toInt64 (M 13 17 0)), aL (Int32.toInt64 lo), aL (Int32.toInt64 hi)] M R (fun r M4 R5 => ∃ a6 : Int32, r = some (aI a6) ∧ ((¬ (a6 : Int32) = 0 → Q (some (aI 0)) M4 R5) ∧ ((a6 : Int32) = 0 → am_WM E (d + 1) 108 [aO 7 13, aI 2, aI (M4 13 18 0)] M4 R5 (fun r M7 R8 => ∃ a9 : Int32, r = some (aI a9) ∧ Q (some (aI a9)) M7 R8)))))) := by
    intro a v c M e hsa han hc hv hR h18 h17 hX
    rw [← e] at hF hK
    rw [hR.2.2, h18, pk_sub hsa, ← hc]
    have e3 : (3 : Int32) < nI c ↔ 3 < c := nI_ltI (a := 3) (by omega) (by omega)
    rw [e3]
    have hf : (3 < c ∨ nI v < lo ∨ ¬ nI v ≤ hi) → am_WM E (d + 1) 108 [aO 7 13, aI 2, aI (nI s)] M R (fun r M1 R2 => ∃ a3 : Int32, r = some (aI a3) ∧ Q (some (aI a3)) M1 R2) := fun hb =>
      m_X7_fails (fun M' hX' e15 => kv (hF hb M' (eqX_tr (eqX_sub hX (by simp [tnS3, tnS4])) (eqX_sub hX' (by simp [tnS4]))) e15))
    refine ⟨fun y => hf (Or.inl y), fun y => ?_⟩
    rw [h17 (by omega)]
    refine m_X7_in (fun q => kv ⟨fun _ => hK (fun z => ?_) M hX hR (h17 (by omega)) h18, fun z => absurd z (by decide)⟩) (fun q => kv ⟨fun z => absurd rfl z, fun _ => ?_⟩)
    · rw [Int32.toInt_toInt64, Int32.toInt_toInt64, Int32.toInt_toInt64] at q
      rcases z with z | z | z
      · exact y z
      · have z : nI v < lo := z
        rw [i_lt] at z; omega
      · have z : ¬ nI v ≤ hi := z
        rw [i_le] at z; omega
    · rw [Int32.toInt_toInt64, Int32.toInt_toInt64, Int32.toInt_toInt64] at q
      rw [h18]
      refine hf ?_
      by_cases z : nI v < lo
      · exact Or.inr (Or.inl z)
      · refine Or.inr (Or.inr (fun z2 => q ?_))
        rw [Int32.not_lt, i_le] at z
        rw [i_le] at z2
        exact ⟨z, z2⟩
  have h10 : ∀ c v, v < 10 ^ min c 3 → v < 1000 := fun c v h => by
    have h2 : (10 : Nat) ^ min c 3 ≤ 10 ^ 3 := Nat.pow_le_pow_right (by decide) (by omega)
    omega
  intro k
  induction k with
  | zero =>
    intro a v c M ha hsa hc hv he hR h18 h17 hX
    refine w_X7_takeNumber_42 ⟨fun _ => hend a v c M he hsa (by omega) hc (h10 c v hv) hR h18 h17 hX, fun y => absurd ?_ y⟩
    rw [hR.1, hR.2.2]
    exact ix_le (by omega) (by omega)
  | succ k ih =>
    intro a v c M ha hsa hc hv he hR h18 h17 hX
    have he : (if figB (L a) = true then fgF L k (a + 1) (if c < 3 then v * 10 + ((L a).toNatClampNeg - 48) else v) (c + 1) else (a, v, c)) = fgF L (n - s) s 0 0 := he
    refine w_X7_takeNumber_42 ⟨fun y => absurd y ?_, fun _ => ⟨by rw [hR.2.2]; exact ix_in (by omega) (by omega), ?_⟩⟩
    · rw [hR.1, hR.2.2]
      exact ix_ge (by omega) (by omega)
    rw [show M 13 13 (Int32.toNatClampNeg (M 13 16 0)) = L a from by rw [hR.2.2, ix_cl (n := a) (by omega)]; exact hR.2.1 a (by omega)]
    refine m_X7_in (fun q => k1e ?_) (fun q => k0e ?_)
    · have hfig := fig_in.mpr q
      rw [if_pos hfig] at he
      obtain ⟨g, hg, eg, eg2⟩ := fig_nI hfig
      rw [eg2] at he
      have hv' : (if c < 3 then v * 10 + g else v) < 10 ^ min (c + 1) 3 := by
        by_cases hc3 : c < 3
        · rw [if_pos hc3, show min (c + 1) 3 = min c 3 + 1 from by omega, Nat.pow_succ]
          omega
        · rw [if_neg hc3, show min (c + 1) 3 = min c 3 from by omega]
          exact hv
      have hgo : ∀ w, (c < 3 → w = nI (v * 10 + g)) → am_WP E (am_WM E (d + 1)) am_L_X7_takeNumber Q 42 [aO 7 13, aI lo, aI hi, aU] [] (am_up (am_up M 13 17 0 w) 13 16 0 ((am_up M 13 17 0 w 13 16 0) + 1)) R := fun w hw => by
        rw [up_k (o' := 13) (k' := 16) (i' := 0) (by decide), hR.2.2, nI_1]
        refine ih (a + 1) (if c < 3 then v * 10 + g else v) (c + 1) _ (by omega) (by omega) (by omega) hv' he ?_ ?_ (fun hc4 => ?_) (eqX_up (eqX_up hX (by simp [tnS3])) (by simp [tnS3]))
        · exact RdM_at hR (by rw [am_up_off 13 13 (by decide), am_up_off 13 13 (by decide)]) (by rw [am_up_off 13 14 (by decide), am_up_off 13 14 (by decide)]) up_s
        · rw [up_k (by decide), up_k (by decide)]; exact h18
        · rw [up_k (by decide), up_s, if_pos (by omega)]
          exact hw (by omega)
      have hv9 := h10 c v hv
      refine ⟨fun y => ⟨by rw [hR.2.2]; exact ix_in (by omega) (by omega), hgo _ (fun hc3 => ?_)⟩, fun y => hgo _ (fun hc3 => ?_)⟩
      · rw [h17 (by omega), show M 13 13 (Int32.toNatClampNeg (M 13 16 0)) = L a from by rw [hR.2.2, ix_cl (n := a) (by omega)]; exact hR.2.1 a (by omega), eg, show (10 : Int32) * nI v = nI (10 * v) from pk_mul 10 v, nI_add, show nI (10 * v + (48 + g)) - 48 = nI (10 * v + (48 + g) - 48) from pk_sub (b := 48) (by omega)]
        congr 1
        omega
      · rw [h17 (by omega)] at y
        exact absurd (nI_le (b := 10000) (by omega) (by omega)) y
    · have hfig : ¬ figB (L a) = true := fun z => q (fig_in.mp z)
      rw [if_neg hfig] at he
      exact hend a v c M he hsa (by omega) hc (h10 c v hv) hR h18 h17 hX
theorem m_X7_takeNumber {M : am_M} {lo hi : Int32} (hn : n ≤ 240) (hR : RdM M n L a) (ha : a ≤ n)
    (hF : ∀ f p, NU n L lo hi a = Sum.inl (f, p) → ∀ M', eqX tnS4 M M' → M' 13 15 0 = nI p → Q (some (aI (nI f))) M' R)
    (hK : ∀ v s e, NU n L lo hi a = Sum.inr (v, s, e) → ∀ M', eqX tnS3 M M' → RdM M' n L e → M' 13 17 0 = nI v → M' 13 18 0 = nI s → Q (some (aI 0)) M' R) : am_WM E (d + 2) 109 [aO 7 13, aI lo, aI hi] M R Q := by
  have hs := skp_le (L := L) ha
  refine w_X7_takeNumber (m_X7_here hn hR ha (fun M1 hX1 e1 => kv (m_X7_in (fun q => kv ⟨fun _ => ?_, fun z => absurd z (by decide)⟩) (fun q => kv ⟨fun z => absurd rfl z, fun _ => ?_⟩))))
  · have hf := fig_in.mpr q
    rw [e1]
    have hX2 : eqX tnS3 M (am_up (am_up M1 13 18 0 (nI (skp n L a))) 13 17 0 0) := eqX_up (eqX_up (eqX_sub hX1 (by simp [tnS3])) (by simp [tnS3])) (by simp [tnS3])
    refine tnum_loop (M0 := M) (s := skp n L a) hn hs.2 (fun hb M' hX e15 => hF 2 (skp n L a) ?_ M' hX e15) (fun hb M' hX hR' h17 h18 => hK _ _ _ ?_ M' hX hR' h17 h18) (n - skp n L a) (skp n L a) 0 0 _ (by omega) (Nat.le_refl _) (by omega) (by decide) rfl ?_ ?_ (fun _ => up_s) hX2
    · unfold NU; rw [if_pos hf, if_pos hb]
    · unfold NU; rw [if_pos hf, if_neg hb]
    · exact RdM_at hR (hX2 13 13 (by simp [tnS3])) (hX2 13 14 (by simp [tnS3])) (by rw [up_k (by decide), up_k (by decide)]; exact e1)
    · rw [up_k (by decide), up_s]
  · have hf : ¬ figB (ltF n L (skp n L a)) = true := fun z => q (fig_in.mp z)
    rw [e1]
    refine m_X7_fails (fun M' hX' e15 => kv (hF 1 (skp n L a) ?_ M' (eqX_tr (eqX_sub hX1 (by simp [tnS4])) (eqX_sub hX' (by simp [tnS4]))) e15))
    unfold NU; rw [if_neg hf]
theorem m_X7_into {M : am_M} {lo hi : Int32} {k1 n1 i : Nat} (hn : n ≤ 240) (hR : RdM M n L a) (ha : a ≤ n) (hk : 19 ≤ k1) (hi1 : i < n1) (hn1 : n1 ≤ 8)
    (hF : ∀ f p, NU n L lo hi a = Sum.inl (f, p) → ∀ M', eqX ((13, k1) :: tnS4) M M' → M' 13 15 0 = nI p → Q (some (aI (nI f))) M' R)
    (hK : ∀ v s e, NU n L lo hi a = Sum.inr (v, s, e) → ∀ M', eqX ((13, k1) :: tnS3) M M' → RdM M' n L e → M' 13 18 0 = nI s → M' 13 k1 i = nI v → (∀ j, j ≠ i → M' 13 k1 j = M 13 k1 j) → Q (some (aI 0)) M' R) : am_WM E (d + 3) 110 [aO 7 13, aA 13 k1 n1, aI (nI i), aI lo, aI hi] M R Q := by
  refine w_X7_into (m_X7_takeNumber hn hR ha (fun f p e M1 hX1 e15 => kv ⟨ix_in hi1 (by omega), ?_⟩) (fun v s e en M1 hX1 hR1 h17 h18 => kv ⟨ix_in hi1 (by omega), ?_⟩))
  · rw [ix_cl (n := i) (by omega)]
    refine hF f p e _ (eqX_up (eqX_sub hX1 (fun q hq => List.mem_cons_of_mem _ hq)) List.mem_cons_self) ?_
    rw [up_k (by omega)]; exact e15
  · rw [ix_cl (n := i) (by omega), h17]
    refine hK v s e en _ (eqX_up (eqX_sub hX1 (fun q hq => List.mem_cons_of_mem _ hq)) List.mem_cons_self) ?_ ?_ up_s (fun j hj => ?_)
    · exact RdM_at hR1 (am_up_off 13 13 (by omega)) (am_up_off 13 14 (by omega)) (by rw [up_k (by omega)]; exact hR1.2.2)
    · rw [up_k (by omega)]; exact h18
    · rw [up_i hj, hX1 13 k1 (by simp [tnS3]; omega)]
end MLex
