/-! walled, on both sides -/
def waR (v x4 : Int32) : Int32 := if v < 0 then v else if x4 = 1 then v else nI (bc v.toNatClampNeg)
def waA (σ : Sc) (x1 x2 x3 x4 : Int32) : Int32 := if inN x1 (sN σ) ∧ inN x2 8 then (if inN x3 31 ∧ inN x4 2 then waR (waF σ x1.toNatClampNeg x2.toNatClampNeg x3.toNatClampNeg) x4 else -1000000002) else -1000000001
section Walled
variable {E : Nat → Nat → Int32} {d : Nat} {Q : am_Q} {R : am_R} {b : Bool}
theorem m_X6_staysAwayBy {M : am_M} {q p t n h : Nat} (hE : stepE E) (hF : Wf (vc M (pl b) 6)) (h5 : vc M (pl b) 6 5 0 = nI h) (hh : h ≤ 99000) (hq : q < sN (vc M (pl b) 6)) (hp : p < sN (vc M (pl b) 6)) (ht : t < 8) (hn : n ≤ 1000) (h1 : kn (wlQ (vc M (pl b) 6) (2 ^ q)) t n p = false → ∀ M', eqX (cpS 7) M M' → Q (some (aI 1)) M' (Rs b)) (h0 : kn (wlQ (vc M (pl b) 6) (2 ^ q)) t n p = true → ∀ M', eqX (cpS 7) M M' → Q (some (aI 0)) M' (Rs b)) : am_WM E (d + 5) 95 [aO 6 0, aI (nI q), aI (nI p), aI (nI t), aI (nI n)] M (Rs b) Q := by
  have h8 := hF.1.1
  refine w_X6_staysAwayBy (m_X4_copyFrom (c := 7) (c1 := 6) (by decide) (fun M1 hX1 hC => ⟨rfl, ?_⟩))
  have hg1 : ∀ k, M1 (pl b) k = M (pl b) k := fun k => hX1 (pl b) k (by simp [cpS, pl_ne (b := b) (k := 7) (by omega)])
  have hv1 : vc M1 (pl b) 7 = vc M (pl b) 6 := CpOk_vc hC hg1 h8
  refine m_X4_turnToWall (g := pl b) (c := 7) (is := true) (pl_ne (by omega)) (by omega) (fun M2 hX2 hv2 => ⟨rfl, ?_⟩)
  have hv2' : vc M2 (pl b) 7 = wlQ (vc M (pl b) 6) (2 ^ q) := by rw [hv2, hv1]; rfl
  have hw := wlQ_wf hF (s := 2 ^ q) (Nat.pow_lt_pow_right (by decide) hq)
  refine m_X4_lookAll (g := pl b) (c := 7) hE (pl_ne (by omega)) (by rw [hv2']; exact hw.1) (fun M3 hX3 hv3 hL3 => ⟨rfl, ?_⟩)
  rw [hv2'] at hv3
  have hs5 : wlQ (vc M (pl b) 6) (2 ^ q) 5 0 = nI h := by rw [wlQ_off (by decide)]; exact h5
  have hpp : p < sN (wlQ (vc M (pl b) 6) (2 ^ q)) := by rw [wlQ_sN]; exact hp
  have hX : eqX (cpS 7) M M3 := eqX_tr hX1 (eqX_tr (eqX_sub hX2 (by simp [cpS])) (eqX_sub hX3 (by simp [cpS])))
  refine m_X4_hoursUntil (g := pl b) (c := 7) (h := h) (by rw [hv3]; exact hw) hL3 (by rw [hv3]; exact hs5) (by omega) ht (by rw [hv3]; exact hpp) (kv ?_)
  rw [hv3]
  have key := hu_le hw hs5 (t := t) (k := n) (p := p) ht hpp (by omega) hn
  rw [Int32.not_lt] at key
  exact ⟨fun z => ret0 (h0 (key.mpr z) M3 hX), fun z => ret1 (h1 (Bool.eq_false_iff.mpr (fun y => z (key.mp y))) M3 hX)⟩
theorem wal6_loop {M0 : am_M} {p t n h : Nat} {x4 : Int32} (hE : stepE E) (hF : Wf (vc M0 (pl b) 6)) (h5 : vc M0 (pl b) 6 5 0 = nI h) (hh : h ≤ 99000) (hp : p < sN (vc M0 (pl b) 6)) (ht : t < 8) (hn : n ≤ 1000) (hx4 : x4 = 0 ∨ x4 = 1) : ∀ (k i : Nat) (M : am_M), i + k = sN (vc M0 (pl b) 6) → eqX (cpS 7) M0 M → (∀ M', eqX (cpS 7) M0 M' → Q (some (aI (waR (match sF (w1B (vc M0 (pl b) 6) p t n) i k with | some q => nI (2 ^ q) | none => -1) x4))) M' (Rs b)) → am_WP E (am_WM E (d + 5)) am_L_X6_walled Q 67 [aO 6 0, aI (nI p), aI (nI t), aI (nI n), aI x4, aI (nI i)] [] M (Rs b) := by
  have h8 := hF.1.1
  have hN : ∀ {M : am_M}, eqX (cpS 7) M0 M → M 6 0 0 = nI (sN (vc M0 (pl b) 6)) := fun {M} hX => by
    rw [hX 6 0 (by simp [cpS])]
    exact hF.1.2.1
  have hV : ∀ {M : am_M}, eqX (cpS 7) M0 M → vc M (pl b) 6 = vc M0 (pl b) 6 := fun {M} hX => vc_same (fun k => hX (pl b) k (by simp [cpS, pl_ne (b := b) (k := 7) (by omega)])) (fun k _ => hX 6 k (by simp [cpS]))
  intro k
  induction k with
  | zero =>
    intro i M hi hX hQ
    refine w_X6_walled_67 ?_
    rw [hN hX]
    exact ⟨fun _ => hQ M hX, fun q => absurd (ix_le (by omega) (by omega)) q⟩
  | succ k ih =>
    intro i M hi hX hQ
    have hv := hV hX
    have hno : w1B (vc M0 (pl b) 6) p t n i = false → ∀ M', eqX (cpS 7) M0 M' → am_WP E (am_WM E (d + 5)) am_L_X6_walled Q 67 [aO 6 0, aI (nI p), aI (nI t), aI (nI n), aI x4, aI (nI (i + 1))] [] M' (Rs b) := fun hf M' hX' => by
      refine ih (i + 1) M' (by omega) hX' (fun M2 hX2 => ?_)
      have := hQ M2 hX2
      unfold sF at this
      rw [hf] at this
      exact this
    refine w_X6_walled_67 ?_
    rw [hN hX, ix_eq (by omega) (by omega), nI_1]
    refine ⟨fun q => absurd q (ix_ge (by omega) (by omega)), fun _ => ⟨fun e => hno ?_ M hX, fun e => m_X4_isTurnedToWall (g := pl b) (fun hb => k1n (hno ?_ M hX)) (fun hb => k0n ?_)⟩⟩
    · unfold w1B; rw [decide_eq_false (fun z => z e), Bool.false_and, Bool.false_and]
    · rw [hv] at hb
      unfold w1B; rw [hb, Bool.not_true, Bool.and_false, Bool.false_and]
    · rw [hv] at hb
      have e' : decide (i ≠ p) = true := decide_eq_true e
      refine m_X6_staysAwayBy hE (by rw [hv]; exact hF) (by rw [hv]; exact h5) hh (by rw [hv]; omega) (by rw [hv]; exact hp) ht hn (fun hk M' hX' => k1e ?_) (fun hk M' hX' => k0e (hno ?_ M' (eqX_tr hX hX')))
      · rw [hv] at hk
        have hw : w1B (vc M0 (pl b) 6) p t n i = true := by unfold w1B; rw [hk, hb, e']; rfl
        have := hQ M' (eqX_tr hX hX')
        unfold sF at this
        rw [if_pos hw] at this
        dsimp only at this
        unfold waR at this
        rw [if_neg (ix_lt (by have := Nat.pow_lt_pow_right (a := 2) (m := i) (n := 8) (by decide) (by omega); omega)), ix_cl (by have := Nat.pow_lt_pow_right (a := 2) (m := i) (n := 8) (by decide) (by omega); omega), bc_pow (by omega)] at this
        rw [sh1 (by omega)]
        refine ⟨fun z => ?_, fun z => ?_⟩
        · rw [if_pos (hx4.resolve_left z)] at this; exact this
        · rw [if_neg (by rw [z]; decide)] at this; exact this
      · rw [hv] at hk
        unfold w1B; rw [hk, Bool.not_true, Bool.and_false]
theorem m_X6_walled {M : am_M} {x1 x2 x3 x4 : Int32} {h : Nat} (hE : stepE E) (hF : Wf (vc M (pl b) 6)) (hL : LkOk M (pl b) 6) (h5 : vc M (pl b) 6 5 0 = nI h) (hh : h ≤ 99000) (hQ : ∀ M', eqX (cpS 7) M M' → Q (some (aI (waA (vc M (pl b) 6) x1 x2 x3 x4))) M' (Rs b)) : am_WM E (d + 6) 78 [aO 6 0, aI x1, aI x2, aI x3, aI x4] M (Rs b) Q := by
  have h8 := hF.1.1
  unfold waA at hQ
  refine w_X6_walled (m_X4_has hF.1.2.1 h8 (fun p hp e1 => k1e (m_X6_isThing (fun t ht e2 => kv ⟨fun _ => ?_, fun q => absurd q (by decide)⟩) (fun a => kv ⟨fun q => absurd rfl q, fun _ => ?_⟩))) (fun a => k0e ?_))
  · subst e1; subst e2
    rw [if_pos ⟨inN_mk hp (by omega), inN_mk ht (by omega)⟩, ix_cl (n := p) (by omega), ix_cl (n := t) (by omega)] at hQ
    rcases inN_or (x := x3) (n := 31) (by omega) with ⟨n, hn, e, hin⟩ | ⟨hx, hno⟩
    · subst e
      refine ⟨fun q => absurd q (ix_lt (by omega)), fun _ => ⟨fun q => absurd q (Int32.not_lt.mpr (ix_le (n := n) (q := 30) (by omega) (by omega))), fun _ => ?_⟩⟩
      rcases inN_or (x := x4) (n := 2) (by omega) with ⟨m, hm, e, hin2⟩ | ⟨hx, hno⟩
      · rw [if_pos ⟨hin, hin2⟩, ix_cl (n := n) (by omega)] at hQ
        subst e
        refine ⟨fun q => absurd q (ix_lt (by omega)), fun _ => ⟨fun _ => ?_, fun q => absurd (ix_le (n := m) (q := 1) (by omega) (by omega)) q⟩⟩
        have key := hu_le hF h5 (t := t) (k := n) (p := p) ht hp (by omega) (by omega)
        rw [Int32.not_lt] at key
        refine m_X4_hoursUntil (g := pl b) (c := 6) hF hL h5 (by omega) ht hp (kv ⟨fun z => ?_, fun z => ?_⟩)
        · unfold waF at hQ
          rw [if_pos (key.mpr z)] at hQ
          exact wal6_loop hE hF h5 hh hp ht (by omega) (by rcases (by omega : m = 0 ∨ m = 1) with rfl | rfl; exact Or.inl rfl; exact Or.inr rfl) (sN (vc M (pl b) 6)) 0 M (by omega) eqX_rfl hQ
        · unfold waF at hQ
          rw [if_neg (fun y => z (key.mp y))] at hQ
          have hr : waR 0 (nI m) = 0 := by
            unfold waR
            rw [if_neg (by decide)]
            split
            · rfl
            · rw [show Int32.toNatClampNeg 0 = 0 from rfl, bc_0]; rfl
          rw [hr] at hQ
          exact hQ M eqX_rfl
      · rw [if_neg (fun z => hno z.2)] at hQ
        exact ⟨fun _ => hQ M eqX_rfl, fun q => ⟨fun q2 => absurd q2 (fun z => hx.elim q (fun y => ix_ge (q := 1) (n := 2) (by omega) (by omega) (Int32.le_trans y z))), fun _ => hQ M eqX_rfl⟩⟩
    · rw [if_neg (fun z => hno z.1)] at hQ
      exact ⟨fun _ => hQ M eqX_rfl, fun q => ⟨fun _ => hQ M eqX_rfl, fun q2 => absurd (Int32.not_lt.mp q2) (fun z => hx.elim q (fun y => ix_ge (q := 30) (n := 31) (by omega) (by omega) (Int32.le_trans y z)))⟩⟩
  · rw [if_neg (fun z => inN_not a z.2)] at hQ
    exact hQ M eqX_rfl
  · rw [if_neg (fun z => inN_not a z.1)] at hQ
    exact hQ M eqX_rfl
theorem bits_loop {M : am_M} {z : Nat} (hz : z < 256) (hQ : Q (some (aI (nI (bc z)))) M R) : ∀ (k i a : Nat), i + k = 12 → bcN z k i a = bc z → am_WP E (am_WM E d) am_L_X7_bits Q 4 [aI (nI z), aI (nI a), aI (nI i)] [] M R := by
  intro k
  induction k with
  | zero =>
    intro i a hi ha
    have : i = 12 := by omega
    subst this
    refine w_X7_bits_4 ⟨fun _ => ?_, fun q => absurd (by decide) q⟩
    rw [show a = bc z from ha]
    exact hQ
  | succ k ih =>
    intro i a hi ha
    refine w_X7_bits_4 ⟨fun q => absurd q (ix_ge (n := 12) (by omega) (by omega)), fun _ => ?_⟩
    rw [nI_1, pk_shrN (n := z) (by omega) (nI i &&& 31) i (smod32 i (by omega)), show nI (z / 2 ^ i) &&& 1 = nI (z / 2 ^ i % 2 ^ 1) from pk_andN (by have : z / 2 ^ i ≤ z := Nat.div_le_self _ _; omega) 1 rfl, nI_add]
    exact ih (i + 1) _ (by omega) ha
theorem m_X7_bits {M : am_M} {z : Nat} (hz : z < 256) (hQ : Q (some (aI (nI (bc z)))) M R) : am_WM E (d + 1) 101 [aI (nI z)] M R Q := by
  refine w_X7_bits ?_
  exact bits_loop hz hQ 12 0 0 (by omega) rfl
theorem vm_up6 {M : am_M} {v : Int32} (h8 : sN (vm M) ≤ 8) : vm (am_up M 13 11 32 v) = sus (vm M) 6 v := by
  have hn : ∀ j, j < (M 13 2 0).toNatClampNeg → j < 8 := fun j hj => Nat.lt_of_lt_of_le hj h8
  funext f j
  match f with
  | 0 => rfl
  | 1 => rfl
  | 2 => rfl
  | 3 => rfl
  | 4 => rfl
  | 5 => rfl
  | 6 => rfl
  | 7 => rfl
  | 8 => rfl
  | 9 => rfl
  | 10 => rfl
  | 11 =>
    show tr _ (fun j => am_up M 13 11 32 v 13 11 j) j = tr _ (fun j => M 13 11 j) j
    exact congrFun (tr_eq (fun q hq => up_i (by have := hn q hq; omega))) j
  | 12 =>
    show tr _ (fun j => am_up M 13 11 32 v 13 11 (8 + j)) j = tr _ (fun j => M 13 11 (8 + j)) j
    exact congrFun (tr_eq (fun q hq => up_i (by have := hn q hq; omega))) j
  | 13 =>
    show tr _ (fun j => am_up M 13 11 32 v 13 11 (16 + j)) j = tr _ (fun j => M 13 11 (16 + j)) j
    exact congrFun (tr_eq (fun q hq => up_i (by have := hn q hq; omega))) j
  | 14 =>
    show tr _ (fun j => am_up M 13 11 32 v 13 11 (24 + j)) j = tr _ (fun j => M 13 11 (24 + j)) j
    exact congrFun (tr_eq (fun q hq => up_i (by have := hn q hq; omega))) j
  | 15 => rfl
  | 16 => rfl
  | 17 => rfl
  | 18 => rfl
  | 19 => rfl
  | f + 20 => rfl
theorem wal7_loop {M0 : am_M} {p t n h : Nat} {x4 : Int32} (hF : Wf (vm M0)) (h5 : vm M0 5 0 = nI h) (hh : h ≤ 99000) (hp : p < sN (vm M0)) (ht : t < 8) (hn : n ≤ 60) (hQ : ∀ M', ftI M0 M' → Q (some (aI (waR (waF (vm M0) p t n) x4))) M' R) : ∀ (k i : Nat) (best : Int32) (M : am_M), i + k = 2 ^ sN (vm M0) → ftI M0 M → wbI (vm M0) p t n i best → am_WP E (am_WM E (d + 6)) am_L_X7_walled Q 54 [aO 7 13, aI (nI p), aI (nI t), aI (nI n), aI x4, aI best, aI (nI i), aU] [] M R := by
  have h8 := hF.1.1
  have hp2 := p2_le h8
  have hN : ∀ {M : am_M}, ftI M0 M → (1 : Int32) <<< (M 13 2 0 &&& 31) = nI (2 ^ sN (vm M0)) := fun {M} h => by
    rw [h.1 13 2 (by simp [ftS]), show M0 13 2 0 = nI (sN (vm M0)) from hF.1.2.1, sh1 (by omega)]
  intro k
  induction k with
  | zero =>
    intro i best M hi hI hb
    have : i = 2 ^ sN (vm M0) := by omega
    subst this
    have hend := wb_end hF h5 hh hp ht (by omega) (fun _ => rfl) hb
    have hq := hQ M hI
    rw [← hend] at hq
    unfold waR at hq
    refine w_X7_walled_54 ?_
    rw [hN hI]
    refine ⟨fun _ => ⟨fun z => ?_, fun z => ⟨fun y => ?_, fun y => ?_⟩⟩, fun q => absurd (ix_le (by omega) (by omega)) q⟩
    · rw [if_pos z] at hq; exact hq
    · rw [if_neg z, if_neg y] at hq
      rcases hb with ⟨e, -⟩ | ⟨s0, hs0, e, -⟩
      · rw [e] at z; exact absurd (by decide) z
      · rw [e, ix_cl (by omega)] at hq
        rw [e]
        exact m_X7_bits (by omega) (kv hq)
    · rw [if_neg z, if_pos y] at hq; exact hq
  | succ k ih =>
    intro i best M hi hI hb
    have hi2 : i < 2 ^ sN (vm M0) := by omega
    have hw32 : M 13 35 32 = vm M0 6 0 := hI.2.2 32 (by omega)
    have hvM : vm M = vm M0 := ftI_vm h8 hI
    have hskip : wkB (vm M0) p t n i = false → ∀ M', ftI M0 M' → am_WP E (am_WM E (d + 6)) am_L_X7_walled Q 54 [aO 7 13, aI (nI p), aI (nI t), aI (nI n), aI x4, aI best, aI (nI (i + 1)), aU] [] M' R := fun hf M' hI' => by
      refine ih (i + 1) best M' (by omega) hI' ?_
      rcases hb with ⟨e, hall⟩ | ⟨s0, hs0, e, hw, hmin⟩
      · refine Or.inl ⟨e, fun s hs => ?_⟩
        by_cases es : s = i
        · rw [es]; exact hf
        · exact hall s (by omega)
      · refine Or.inr ⟨s0, by omega, e, hw, fun s hs hws => ?_⟩
        by_cases es : s = i
        · rw [es, hf] at hws; cases hws
        · exact hmin s (by omega) hws
    have htry : i.testBit p = false → nI i &&& vm M0 6 0 = 0 → ((best = -1 ∧ ∀ s, s < i → wkB (vm M0) p t n s = false) ∨ ∃ s0, s0 < i ∧ best = nI s0 ∧ bc i < bc s0 ∧ ∀ s, s < i → wkB (vm M0) p t n s = true → bc s0 ≤ bc s) → am_WM E (d + 6) 147 [aO 7 13, aI (nI p), aI (nI t), aI 0, aI (nI n)] (am_up M 13 11 32 (vm M0 6 0 ||| nI i)) R (fun r M7 R8 => ∃ a9 : Int32, r = some (aI a9) ∧ am_WM E (d + 6) 141 [aO 7 13] M7 R8 (fun r M10 R11 => r = none ∧ (((a9 : Int32) = 0 → am_WP E (am_WM E (d + 6)) am_L_X7_walled Q 54 [aO 7 13, aI (nI p), aI (nI t), aI (nI n), aI x4, aI (nI i), aI (nI (i + 1)), aU] [] M10 R11) ∧ (¬ (a9 : Int32) = 0 → am_WP E (am_WM E (d + 6)) am_L_X7_walled Q 54 [aO 7 13, aI (nI p), aI (nI t), aI (nI n), aI x4, aI best, aI (nI (i + 1)), aU] [] M10 R11)))) := by
      intro hip hiw hbest
      have hv : vm (am_up M 13 11 32 (vm M0 6 0 ||| nI i)) = wlQ (vm M0) i := by
        rw [vm_up6 (by rw [hvM]; exact h8), hvM]
        rfl
      have hX1 : eqX [(13, 11)] M (am_up M 13 11 32 (vm M0 6 0 ||| nI i)) := eqX_up eqX_rfl (by simp)
      have hso : soP (wlQ (vm M0) i) p t 0 n ↔ kn (wlQ (vm M0) i) t n p = true := by
        unfold soP
        refine ⟨fun z => z.1, fun z => ⟨z, fun q hq hbq => ?_⟩⟩
        rw [wlQ_sN] at hq
        rw [bt_0 (by omega)] at hbq
        cases hbq
      refine m_X7_isSo (d := d) (by rw [hv]; exact wlQ_wf hF hi2) (by rw [hv, wlQ_sN]; exact hp) hn (fun M2 hX2 hs => kv (m_X7_putBack (fun M3 hX3 h4 => ⟨rfl, fun q => absurd q (by decide), fun _ => ?_⟩))) (fun M2 hX2 hs => kv (m_X7_putBack (fun M3 hX3 h4 => ⟨rfl, fun _ => ?_, fun q => absurd rfl q⟩)))
      · obtain ⟨hI3, -, -⟩ := ftI_back hI hX1 hX2 hX3 h4
        rw [hv, hso] at hs
        refine hskip ?_ M3 hI3
        unfold wkB
        rw [hs, Bool.not_true, Bool.and_false]
      · obtain ⟨hI3, -, -⟩ := ftI_back hI hX1 hX2 hX3 h4
        rw [hv, hso] at hs
        have hw : wkB (vm M0) p t n i = true := by
          unfold wkB
          rw [Bool.eq_false_iff.mpr hs, hip, decide_eq_true hiw]
          rfl
        refine ih (i + 1) (nI i) M3 (by omega) hI3 (Or.inr ⟨i, by omega, rfl, hw, fun s hs hws => ?_⟩)
        by_cases es : s = i
        · rw [es]; exact ⟨Nat.le_refl _, fun _ => Nat.le_refl _⟩
        · rcases hbest with ⟨-, hall⟩ | ⟨s0, hs0, e, hlt, hmin⟩
          · rw [hall s (by omega)] at hws; cases hws
          · have := hmin s (by omega) hws
            exact ⟨by omega, fun z => by omega⟩
    refine w_X7_walled_54 ?_
    rw [hN hI]
    refine ⟨fun q => absurd q (ix_ge hi2 (by omega)), fun _ => m_X7_has (fun hbt => k1n ?_) (fun hbt => k0n ⟨ix_in (n := 32) (by omega) (by omega), ?_⟩)⟩
    · rw [nI_1]
      rw [bt_nI (by omega) (by omega)] at hbt
      refine hskip ?_ M hI
      unfold wkB
      rw [hbt, Bool.not_true, Bool.false_and, Bool.false_and]
    · rw [bt_nI (by omega) (by omega)] at hbt
      rw [show Int32.toNatClampNeg 32 = 32 from rfl, hw32, nI_1]
      refine ⟨fun z => hskip ?_ M hI, fun z => ⟨fun y => ⟨ix_in (n := 32) (by omega) (by omega), ix_in (n := 32) (by omega) (by omega), htry hbt z ?_⟩, fun y => ?_⟩⟩
      · unfold wkB
        rw [decide_eq_false z, Bool.and_false, Bool.false_and]
      · rcases hb with ⟨e, hall⟩ | ⟨s0, hs0, e, hw, hmin⟩
        · exact Or.inl ⟨e, hall⟩
        · rw [e] at y; exact absurd y (ix_lt (by omega))
      · rcases hb with ⟨e, hall⟩ | ⟨s0, hs0, e, hw, hmin⟩
        · rw [e] at y; exact absurd (by decide) y
        · have hb0 := (bc_facts (show s0 < 256 by omega)).1
          have hbi := (bc_facts (show i < 256 by omega)).1
          refine m_X7_bits (by omega) (kv ?_)
          rw [e]
          refine m_X7_bits (by omega) (kv ?_)
          rw [← e]
          refine ⟨fun x => ?_, fun x => ⟨ix_in (n := 32) (by omega) (by omega), ix_in (n := 32) (by omega) (by omega), ?_⟩⟩
          · rw [nI_leI (by omega) (by omega)] at x
            refine ih (i + 1) best M (by omega) hI (Or.inr ⟨s0, by omega, e, hw, fun s hs hws => ?_⟩)
            by_cases es : s = i
            · rw [es]; exact ⟨x, fun _ => by omega⟩
            · exact hmin s (by omega) hws
          · rw [nI_leI (by omega) (by omega)] at x
            rw [hw32]
            exact htry hbt z (Or.inr ⟨s0, hs0, e, by omega, fun s hs hws => (hmin s hs hws).1⟩)
theorem m_X7_walled {M : am_M} {x1 x2 x3 x4 : Int32} {h : Nat} (hF : Wf (vm M)) (h5 : vm M 5 0 = nI h) (hh : h ≤ 99000) (hQ : ∀ M', eqX ftS M M' → (∀ j, j < 34 → M' 13 11 j = M 13 11 j) → Q (some (aI (waA (vm M) x1 x2 x3 x4))) M' R) : am_WM E (d + 7) 151 [aO 7 13, aI x1, aI x2, aI x3, aI x4] M R Q := by
  have h8 := hF.1.1
  unfold waA at hQ
  refine w_X7_walled (m_X7_isPicture hF.1.2.1 h8 (fun p hp e1 => k1e (m_X7_isThing (fun t ht e2 => kv ⟨fun _ => m_X7_in (fun q => k1e (m_X7_in (fun r => kv ⟨fun _ => ?_, fun z => absurd z (by decide)⟩) (fun r => kv ⟨fun z => absurd rfl z, fun _ => ?_⟩))) (fun q => k0e ?_), fun q => absurd q (by decide)⟩) (fun a => kv ⟨fun q => absurd rfl q, fun _ => ?_⟩))) (fun a => k0e ?_))
  · subst e1; subst e2
    rw [Int32.toInt_toInt64] at q r
    have q0 : (0 : Int) ≤ x3.toInt := q.1
    have q1 : x3.toInt ≤ 30 := q.2
    have r0 : (0 : Int) ≤ x4.toInt := r.1
    have r1 : x4.toInt ≤ 1 := r.2
    rw [if_pos ⟨inN_mk hp (by omega), inN_mk ht (by omega)⟩, if_pos ⟨⟨q0, by omega⟩, ⟨r0, by omega⟩⟩, ix_cl (n := p) (by omega), ix_cl (n := t) (by omega)] at hQ
    obtain ⟨n, e4⟩ : ∃ n : Nat, x3.toInt = n := ⟨x3.toInt.toNat, by omega⟩
    have e4' := i_of e4
    have hn : n < 31 := by omega
    subst e4'
    rw [ix_cl (n := n) (by omega)] at hQ
    refine m_X7_save (fun M1 hX hw => ⟨rfl, ?_⟩)
    exact wal7_loop hF h5 hh hp ht (by omega) (fun M' hI => hQ M' hI.1 hI.2.1) (2 ^ sN (vm M)) 0 (-1) M1 (by omega) ⟨eqX_sub hX (by simp [ftS]), fun j _ => by rw [hX 13 11 (by simp)], hw⟩ (Or.inl ⟨rfl, fun s hs => absurd hs (by omega)⟩)
  · rw [Int32.toInt_toInt64] at r
    subst e1; subst e2
    rw [if_pos ⟨inN_mk hp (by omega), inN_mk ht (by omega)⟩, if_neg (fun z => r ⟨z.2.1, by show x4.toInt ≤ (1 : Int); have := z.2.2; omega⟩)] at hQ
    exact hQ M eqX_rfl (fun _ _ => rfl)
  · rw [Int32.toInt_toInt64] at q
    subst e1; subst e2
    rw [if_pos ⟨inN_mk hp (by omega), inN_mk ht (by omega)⟩, if_neg (fun z => q ⟨z.1.1, by show x3.toInt ≤ (30 : Int); have := z.1.2; omega⟩)] at hQ
    exact hQ M eqX_rfl (fun _ _ => rfl)
  · rw [if_neg (fun z => inN_not a z.2)] at hQ
    exact hQ M eqX_rfl (fun _ _ => rfl)
  · rw [if_neg (fun z => inN_not a z.1)] at hQ
    exact hQ M eqX_rfl (fun _ _ => rfl)
end Walled
