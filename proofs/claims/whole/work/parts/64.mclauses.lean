/-! the reference's reader: cells, clauses -/
def frM (M M' : am_M) : Prop := (∀ o, o ≠ 13 → M' o = M o) ∧ ∀ k, k < 15 ∨ 33 < k → M' 13 k = M 13 k
theorem frM_tr {M1 M2 M3 : am_M} (h1 : frM M1 M2) (h2 : frM M2 M3) : frM M1 M3 := ⟨fun o a => (h2.1 o a).trans (h1.1 o a), fun k a => (h2.2 k a).trans (h1.2 k a)⟩
theorem frM_of {S : List (Nat × Nat)} {M M' : am_M} (hX : eqX S M M') (hS : ∀ o k, (o, k) ∈ S → o = 13 ∧ 15 ≤ k ∧ k ≤ 33) : frM M M' := ⟨fun o a => by
  funext k
  exact hX o k (fun z => a (hS o k z).1), fun k a => hX 13 k (fun z => by have := (hS 13 k z).2; omega)⟩
theorem frM_up {M M' : am_M} {k i : Nat} {v : Int32} (h : frM M M') (hk : 15 ≤ k ∧ k ≤ 33) : frM M (am_up M' 13 k i v) := ⟨fun o a => by
  funext q
  rw [am_up_off o q (fun z => a z.1), h.1 o a], fun q a => by rw [am_up_off 13 q (by omega), h.2 q a]⟩
abbrev RF (M : am_M) (o : Out) (Q : am_Q) (R : am_R) : Prop := ∀ f p, o = Sum.inl (f, p) → ∀ M', frM M M' → M' 13 15 0 = nI p → Q (some (aI (nI f))) M' R
abbrev RK (M : am_M) (n : Nat) (L : Nat → Int32) (o : Out) (Q : am_Q) (R : am_R) : Prop := ∀ ρ' e, o = Sum.inr (ρ', e) → ∀ M', frM M M' → M' 13 15 0 = M 13 15 0 → RdM M' n L e → rvM M' = ρ' → Q (some (aI 0)) M' R
def pC (n : Nat) (L : Nat → Int32) (ρ : Sc) (a : Nat) : Flt ⊕ (Nat × Nat × Nat) := match NU n L 0 (ρ 0 0 - 1) a with
  | Sum.inl x => Sum.inl x
  | Sum.inr (x, _, e2) => match NU n L 0 (ρ 1 0 - 1) e2 with
    | Sum.inl x => Sum.inl x
    | Sum.inr (y, s, e3) => if onF ρ (nI x) (nI y) = -1 then Sum.inr (x, y, e3) else Sum.inl (4, s)
def prW (n : Nat) (L : Nat → Int32) (ρ : Sc) (a : Nat) : Out := match NU n L 1 7 a with
  | Sum.inl x => Sum.inl x
  | Sum.inr (w, _, e1) => match NU n L 1 7 e1 with
    | Sum.inl x => Sum.inl x
    | Sum.inr (h, _, e2) => Sum.inr (rwS ρ w h, e2)
def prP (n : Nat) (L : Nat → Int32) (ρ : Sc) (a : Nat) : Out := match NU n L 0 5 a with
  | Sum.inl x => Sum.inl x
  | Sum.inr (k, _, e1) => match pC n L ρ e1 with
    | Sum.inl x => Sum.inl x
    | Sum.inr (x, y, e3) => match NU n L 0 3 e3 with
      | Sum.inl x => Sum.inl x
      | Sum.inr (w, _, e4) => Sum.inr (rpS ρ k x y w, e4)
def prD (n : Nat) (L : Nat → Int32) (ρ : Sc) (a : Nat) : Out := match pC n L ρ a with
  | Sum.inl x => Sum.inl x
  | Sum.inr (x, y, e3) => Sum.inr (rdS ρ x y, e3)
def prE (n : Nat) (L : Nat → Int32) (ρ : Sc) (a : Nat) : Out := match NU n L 0 30 a with
  | Sum.inl x => Sum.inl x
  | Sum.inr (h, _, e2) => match NU n L 0 (ρ 3 0 - 1) e2 with
    | Sum.inl x => Sum.inl x
    | Sum.inr (q, _, e3) => match NU n L 0 7 e3 with
      | Sum.inl x => Sum.inl x
      | Sum.inr (t, _, e4) => Sum.inr (reS ρ h q t, e4)
def prS (n : Nat) (L : Nat → Int32) (ρ : Sc) (a : Nat) : Out := match NU n L 0 (ρ 2 0 - 1) a with
  | Sum.inl x => Sum.inl x
  | Sum.inr (p, s, e2) => if blindP ρ p then Sum.inl (4, s) else match NU n L 0 7 e2 with
    | Sum.inl x => Sum.inl x
    | Sum.inr (t, s2, e3) => if bt (ρ 14 p) t = true then Sum.inl (4, s2) else Sum.inr (rsS ρ p t, e3)
def bnd (n : Nat) (L : Nat → Int32) (o : Out) : Out := match o with
  | Sum.inl x => Sum.inl x
  | Sum.inr (ρ, e) => fin n L ρ e
theorem clW_pr {n : Nat} {L : Nat → Int32} {ρ : Sc} {a : Nat} : clW n L ρ a = bnd n L (prW n L ρ a) := by
  unfold clW prW
  cases NU n L 1 7 a with
  | inl x => rfl
  | inr x =>
    obtain ⟨w, s, e⟩ := x
    dsimp only
    cases NU n L 1 7 e with
    | inl x => rfl
    | inr x => rfl
theorem clP_pr {n : Nat} {L : Nat → Int32} {ρ : Sc} {a : Nat} : clP n L ρ a = bnd n L (prP n L ρ a) := by
  unfold clP prP pC
  cases NU n L 0 5 a with
  | inl x => rfl
  | inr x =>
    obtain ⟨k, s, e⟩ := x
    dsimp only
    cases NU n L 0 (ρ 0 0 - 1) e with
    | inl x => rfl
    | inr x =>
      obtain ⟨x, s, e⟩ := x
      dsimp only
      cases NU n L 0 (ρ 1 0 - 1) e with
      | inl x => rfl
      | inr z =>
        obtain ⟨y, s, e⟩ := z
        dsimp only
        by_cases h : onF ρ (nI x) (nI y) = -1
        · rw [if_pos h, if_pos h]
          dsimp only
          cases NU n L 0 3 e with
          | inl x => rfl
          | inr x => rfl
        · rw [if_neg h, if_neg h]
          rfl
theorem clD_pr {n : Nat} {L : Nat → Int32} {ρ : Sc} {a : Nat} : clD n L ρ a = bnd n L (prD n L ρ a) := by
  unfold clD prD pC
  cases NU n L 0 (ρ 0 0 - 1) a with
  | inl x => rfl
  | inr x =>
    obtain ⟨x, s, e⟩ := x
    dsimp only
    cases NU n L 0 (ρ 1 0 - 1) e with
    | inl x => rfl
    | inr z =>
      obtain ⟨y, s, e⟩ := z
      dsimp only
      by_cases h : onF ρ (nI x) (nI y) = -1
      · rw [if_pos h, if_pos h]
        rfl
      · rw [if_neg h, if_neg h]
        rfl
theorem clE_pr {n : Nat} {L : Nat → Int32} {ρ : Sc} {a : Nat} : clE n L ρ a = bnd n L (prE n L ρ a) := by
  unfold clE prE
  cases NU n L 0 30 a with
  | inl x => rfl
  | inr x =>
    obtain ⟨k, s, e⟩ := x
    dsimp only
    cases NU n L 0 (ρ 3 0 - 1) e with
    | inl x => rfl
    | inr x =>
      obtain ⟨x, s, e⟩ := x
      dsimp only
      cases NU n L 0 7 e with
      | inl x => rfl
      | inr z => rfl
theorem clS_pr {n : Nat} {L : Nat → Int32} {ρ : Sc} {a : Nat} : clS n L ρ a = bnd n L (prS n L ρ a) := by
  unfold clS prS
  cases NU n L 0 (ρ 2 0 - 1) a with
  | inl x => rfl
  | inr x =>
    obtain ⟨p, s, e⟩ := x
    dsimp only
    by_cases h : blindP ρ p
    · rw [if_pos h, if_pos h]; rfl
    · rw [if_neg h, if_neg h]
      cases NU n L 0 7 e with
      | inl x => rfl
      | inr x =>
        obtain ⟨t, s2, e3⟩ := x
        dsimp only
        by_cases h2 : bt (ρ 14 p) t = true
        · rw [if_pos h2, if_pos h2]; rfl
        · rw [if_neg h2, if_neg h2]; rfl
theorem on_iff {ρ : Sc} {x y : Int32} (h8 : sN ρ ≤ 8) (h4 : sD ρ ≤ 4) : onF ρ x y = -1 ↔ ((∀ p, p < sN ρ → ¬ (ρ 11 p = x ∧ ρ 12 p = y)) ∧ ∀ q, q < sD ρ → ¬ (ρ 15 q = x ∧ ρ 16 q = y)) := by
  unfold onF
  cases h1 : sF (fun p => decide (ρ 11 p = x ∧ ρ 12 p = y)) 0 (sN ρ) with
  | some p =>
    obtain ⟨-, b, c, -⟩ := sF_some h1
    exact ⟨fun z => absurd z (ix_neg1 (by omega)), fun z => absurd (of_decide_eq_true c) (z.1 p (by omega))⟩
  | none =>
    dsimp only
    cases h2 : sF (fun q => decide (ρ 15 q = x ∧ ρ 16 q = y)) 0 (sD ρ) with
    | some q =>
      obtain ⟨-, b, c, -⟩ := sF_some h2
      exact ⟨fun z => absurd z (ix_neg1 (by omega)), fun z => absurd (of_decide_eq_true c) (z.2 q (by omega))⟩
    | none =>
      refine ⟨fun _ => ⟨fun p hp z => ?_, fun q hq z => ?_⟩, fun _ => rfl⟩
      · have := sF_none h1 p (Nat.zero_le _) (by omega)
        rw [decide_eq_true z] at this; cases this
      · have := sF_none h2 q (Nat.zero_le _) (by omega)
        rw [decide_eq_true z] at this; cases this
theorem rvM_same {M M' : am_M} {ρ : Sc} (hv : rvM M = ρ) (hs : M' 13 19 0 = M 13 19 0 ∧ M' 13 19 1 = M 13 19 1) (h0 : ∀ k, k = 20 ∨ k = 26 ∨ k = 29 ∨ k = 33 → M' 13 k 0 = M 13 k 0) (hp : ∀ k j, 21 ≤ k → k ≤ 25 → j < sN ρ → M' 13 k j = M 13 k j) (hd : ∀ k j, k = 27 ∨ k = 28 → j < sD ρ → M' 13 k j = M 13 k j) (hc : ∀ k j, 30 ≤ k → k ≤ 32 → j < sC ρ → M' 13 k j = M 13 k j) : rvM M' = ρ := by
  have eN : sN ρ = (M 13 20 0).toNatClampNeg := by rw [← hv]; rfl
  have eD : sD ρ = (M 13 26 0).toNatClampNeg := by rw [← hv]; rfl
  have eC : sC ρ = (M 13 29 0).toNatClampNeg := by rw [← hv]; rfl
  rw [eN] at hp
  rw [eD] at hd
  rw [eC] at hc
  rw [← hv]
  have es : msc M' = msc M := by
    funext f
    unfold msc
    rw [hs.1, hs.2, h0 20 (by omega), h0 26 (by omega), h0 29 (by omega), h0 33 (by omega)]
  unfold rvM
  rw [es]
  funext f j
  match f with
  | 0 => rfl
  | 1 => rfl
  | 2 => rfl
  | 3 => rfl
  | 4 => rfl
  | 5 => rfl
  | 6 => rfl
  | 7 => rfl
  | 8 => rfl
  | 9 => rfl
  | 10 => exact congrFun (tr_eq (fun q hq => hp 21 q (by omega) (by omega) hq)) j
  | 11 => exact congrFun (tr_eq (fun q hq => hp 22 q (by omega) (by omega) hq)) j
  | 12 => exact congrFun (tr_eq (fun q hq => hp 23 q (by omega) (by omega) hq)) j
  | 13 => exact congrFun (tr_eq (fun q hq => hp 24 q (by omega) (by omega) hq)) j
  | 14 => exact congrFun (tr_eq (fun q hq => hp 25 q (by omega) (by omega) hq)) j
  | 15 => exact congrFun (tr_eq (fun q hq => hd 27 q (by omega) hq)) j
  | 16 => exact congrFun (tr_eq (fun q hq => hd 28 q (by omega) hq)) j
  | 17 => exact congrFun (tr_eq (fun q hq => hc 30 q (by omega) (by omega) hq)) j
  | 18 => exact congrFun (tr_eq (fun q hq => hc 31 q (by omega) (by omega) hq)) j
  | 19 => exact congrFun (tr_eq (fun q hq => hc 32 q (by omega) (by omega) hq)) j
  | 20 => rfl
  | f + 21 => rfl
section MClauses
variable {E : Nat → Nat → Int32} {d : Nat} {Q : am_Q} {R : am_R} {n a : Nat} {L : Nat → Int32} {ρ : Sc}
theorem taken55 {M : am_M} {x y : Int32} (hv : rvM M = ρ) (hP : PW ρ) (h1 : ¬ onF ρ x y = -1 → Q (some (aI 1)) M R) (h0 : onF ρ x y = -1 → Q (some (aI 0)) M R) : ∀ (k i : Nat) (b : Int32), i + k = sD ρ → ((b = 1 ∧ ¬ onF ρ x y = -1) ∨ (b = 0 ∧ (∀ p, p < sN ρ → ¬ (ρ 11 p = x ∧ ρ 12 p = y)) ∧ ∀ q, q < i → ¬ (ρ 15 q = x ∧ ρ 16 q = y))) → am_WP E (am_WM E d) am_L_X7_isTaken Q 55 [aO 7 13, aI x, aI y, aI b, aI (nI i)] [] M R := by
  have h8 := hP.1.1.1
  have h4 := hP.1.1.2.2.1
  have hD : M 13 26 0 = nI (sD ρ) := by rw [← hP.1.1.2.2.2.1, ← hv]; rfl
  intro k
  induction k with
  | zero =>
    intro i b hi hb
    refine w_X7_isTaken_55 ?_
    rw [hD]
    refine ⟨fun _ => ?_, fun z => absurd (ix_le (by omega) (by omega)) z⟩
    rcases hb with ⟨rfl, hb⟩ | ⟨rfl, b1, b2⟩
    · exact ret1 (h1 hb)
    · exact ret0 (h0 ((on_iff h8 h4).mpr ⟨b1, fun q hq => b2 q (by omega)⟩))
  | succ k ih =>
    intro i b hi hb
    have hi2 : i < sD ρ := by omega
    have e15 : ρ 15 i = M 13 27 i := by
      rw [← hv]
      exact tr_lt (show i < (M 13 26 0).toNatClampNeg by rw [hD, ix_cl (by omega)]; exact hi2)
    have e16 : ρ 16 i = M 13 28 i := by
      rw [← hv]
      exact tr_lt (show i < (M 13 26 0).toNatClampNeg by rw [hD, ix_cl (by omega)]; exact hi2)
    have hin : vp_in (nI i) 4 := ix_in (by omega) (by omega)
    refine w_X7_isTaken_55 ?_
    rw [hD, ix_cl (n := i) (by omega), ← e15, ← e16, nI_1]
    refine ⟨fun z => absurd z (ix_ge (by omega) (by omega)), fun _ => ⟨fun z => ?_, fun z => ?_⟩⟩
    · rcases hb with ⟨rfl, hb⟩ | ⟨rfl, b1, b2⟩
      · exact ih (i + 1) 1 (by omega) (Or.inl ⟨rfl, hb⟩)
      · exact absurd rfl z
    · rcases hb with ⟨rfl, hb⟩ | ⟨rfl, b1, b2⟩
      · exact absurd z (by decide)
      · have hno : ¬ (ρ 15 i = x ∧ ρ 16 i = y) → am_WP E (am_WM E d) am_L_X7_isTaken Q 55 [aO 7 13, aI x, aI y, aI 0, aI (nI (i + 1))] [] M R := fun hh => ih (i + 1) 0 (by omega) (Or.inr ⟨rfl, b1, fun q hq => by
          by_cases e : q = i
          · rw [e]; exact hh
          · exact b2 q (by omega)⟩)
        exact ⟨hin, fun w => hno (fun u => w u.1), fun w => ⟨hin, fun v => hno (fun u => v u.2), fun v => ih (i + 1) 1 (by omega) (Or.inl ⟨rfl, fun u => ((on_iff h8 h4).mp u).2 i hi2 ⟨w, v⟩⟩)⟩⟩
theorem taken5 {M : am_M} {x y : Int32} (hv : rvM M = ρ) (hP : PW ρ) (h1 : ¬ onF ρ x y = -1 → Q (some (aI 1)) M R) (h0 : onF ρ x y = -1 → Q (some (aI 0)) M R) : ∀ (k i : Nat) (b : Int32), i + k = sN ρ → ((b = 1 ∧ ¬ onF ρ x y = -1) ∨ (b = 0 ∧ ∀ p, p < i → ¬ (ρ 11 p = x ∧ ρ 12 p = y))) → am_WP E (am_WM E d) am_L_X7_isTaken Q 5 [aO 7 13, aI x, aI y, aI b, aI (nI i)] [] M R := by
  have h8 := hP.1.1.1
  have h4 := hP.1.1.2.2.1
  have hN : M 13 20 0 = nI (sN ρ) := by rw [← hP.1.1.2.1, ← hv]; rfl
  intro k
  induction k with
  | zero =>
    intro i b hi hb
    refine w_X7_isTaken_5 ?_
    rw [hN]
    refine ⟨fun _ => ?_, fun z => absurd (ix_le (by omega) (by omega)) z⟩
    rcases hb with ⟨rfl, hb⟩ | ⟨rfl, b1⟩
    · exact taken55 hv hP h1 h0 (sD ρ) 0 1 (by omega) (Or.inl ⟨rfl, hb⟩)
    · exact taken55 hv hP h1 h0 (sD ρ) 0 0 (by omega) (Or.inr ⟨rfl, fun p hp => b1 p (by omega), fun q hq => absurd hq (by omega)⟩)
  | succ k ih =>
    intro i b hi hb
    have hi2 : i < sN ρ := by omega
    have e11 : ρ 11 i = M 13 22 i := by
      rw [← hv]
      exact tr_lt (show i < (M 13 20 0).toNatClampNeg by rw [hN, ix_cl (by omega)]; exact hi2)
    have e12 : ρ 12 i = M 13 23 i := by
      rw [← hv]
      exact tr_lt (show i < (M 13 20 0).toNatClampNeg by rw [hN, ix_cl (by omega)]; exact hi2)
    have hin : vp_in (nI i) 8 := ix_in (by omega) (by omega)
    refine w_X7_isTaken_5 ?_
    rw [hN, ix_cl (n := i) (by omega), ← e11, ← e12, nI_1]
    refine ⟨fun z => absurd z (ix_ge (by omega) (by omega)), fun _ => ⟨fun z => ?_, fun z => ?_⟩⟩
    · rcases hb with ⟨rfl, hb⟩ | ⟨rfl, b1⟩
      · exact ih (i + 1) 1 (by omega) (Or.inl ⟨rfl, hb⟩)
      · exact absurd rfl z
    · rcases hb with ⟨rfl, hb⟩ | ⟨rfl, b1⟩
      · exact absurd z (by decide)
      · have hno : ¬ (ρ 11 i = x ∧ ρ 12 i = y) → am_WP E (am_WM E d) am_L_X7_isTaken Q 5 [aO 7 13, aI x, aI y, aI 0, aI (nI (i + 1))] [] M R := fun hh => ih (i + 1) 0 (by omega) (Or.inr ⟨rfl, fun q hq => by
          by_cases e : q = i
          · rw [e]; exact hh
          · exact b1 q (by omega)⟩)
        exact ⟨hin, fun w => hno (fun u => w u.1), fun w => ⟨hin, fun v => hno (fun u => v u.2), fun v => ih (i + 1) 1 (by omega) (Or.inl ⟨rfl, fun u => ((on_iff h8 h4).mp u).1 i hi2 ⟨w, v⟩⟩)⟩⟩
theorem m_X7_isTaken {M : am_M} {x y : Int32} (hv : rvM M = ρ) (hP : PW ρ) (h1 : ¬ onF ρ x y = -1 → Q (some (aI 1)) M R) (h0 : onF ρ x y = -1 → Q (some (aI 0)) M R) : am_WM E (d + 1) 111 [aO 7 13, aI x, aI y] M R Q := by
  refine w_X7_isTaken ?_
  exact taken5 hv hP h1 h0 (sN ρ) 0 0 (by omega) (Or.inr ⟨rfl, fun p hp => absurd hp (by omega)⟩)
theorem m_X7_takeCell {M : am_M} {kx ky nx i : Nat} (hn : n ≤ 240) (hR : RdM M n L a) (ha : a ≤ n) (hP : PW ρ) (hkx : 20 ≤ kx ∧ kx ≤ 33) (hky : 20 ≤ ky ∧ ky ≤ 33) (hxy : kx ≠ ky) (hi : i < nx) (hnx : nx ≤ 8) (hv : rvM M = ρ)
    (hkeep : ∀ M', eqX ((13, kx) :: (13, ky) :: tnS3) M M' → (∀ j, j ≠ i → M' 13 kx j = M 13 kx j) → (∀ j, j ≠ i → M' 13 ky j = M 13 ky j) → rvM M' = ρ)
    (hF : ∀ f p, pC n L ρ a = Sum.inl (f, p) → 1 ≤ f → f ≤ 4 → ∀ M', eqX ((13, kx) :: (13, ky) :: tnS4) M M' → M' 13 15 0 = nI p → Q (some (aI (nI f))) M' R)
    (hK : ∀ x y e, pC n L ρ a = Sum.inr (x, y, e) → e ≤ n → ∀ M', eqX ((13, kx) :: (13, ky) :: tnS3) M M' → RdM M' n L e → M' 13 kx i = nI x → M' 13 ky i = nI y → (∀ j, j ≠ i → M' 13 kx j = M 13 kx j) → (∀ j, j ≠ i → M' 13 ky j = M 13 ky j) → Q (some (aI 0)) M' R) : am_WM E (d + 4) 112 [aO 7 13, aA 13 kx nx, aA 13 ky nx, aI (nI i)] M R Q := by
  have e0 : M 13 19 0 = ρ 0 0 := by rw [← hv]; rfl
  have e1 : M 13 19 1 = ρ 1 0 := by rw [← hv]; rfl
  have s3 : ∀ q ∈ ((13, kx) :: tnS3), q ∈ ((13, kx) :: (13, ky) :: tnS3) := fun q hq => by simp at hq ⊢; rcases hq with h | h; exact Or.inl h; exact Or.inr (Or.inr h)
  have s3' : ∀ q ∈ ((13, ky) :: tnS3), q ∈ ((13, kx) :: (13, ky) :: tnS3) := fun q hq => by simp at hq ⊢; rcases hq with h | h; exact Or.inr (Or.inl h); exact Or.inr (Or.inr h)
  have s4 : ∀ q ∈ ((13, kx) :: tnS4), q ∈ ((13, kx) :: (13, ky) :: tnS4) := fun q hq => by simp at hq ⊢; rcases hq with h | h; exact Or.inl h; exact Or.inr (Or.inr h)
  have s4' : ∀ q ∈ ((13, ky) :: tnS4), q ∈ ((13, kx) :: (13, ky) :: tnS4) := fun q hq => by simp at hq ⊢; rcases hq with h | h; exact Or.inr (Or.inl h); exact Or.inr (Or.inr h)
  have s34 : ∀ q ∈ ((13, kx) :: tnS3), q ∈ ((13, kx) :: (13, ky) :: tnS4) := fun q hq => by simp [tnS3, tnS4] at hq ⊢; rcases hq with h | h | h | h <;> simp [h]
  have s34' : ∀ q ∈ ((13, kx) :: (13, ky) :: tnS3), q ∈ ((13, kx) :: (13, ky) :: tnS4) := fun q hq => by simp [tnS3, tnS4] at hq ⊢; rcases hq with h | h | h | h | h <;> simp [h]
  refine w_X7_takeCell ⟨ix_in (n := 0) (by omega) (by omega), ?_⟩
  rw [show Int32.toNatClampNeg 0 = 0 from rfl, show Int32.toNatClampNeg 1 = 1 from rfl, e0]
  refine m_X7_into hn hR ha (by omega) hi hnx (fun f p e M1 hX1 e15 => kv ?_) (fun x s1 e1' en1 M1 hX1 hR1 h18 hx hj1 => kv ?_)
  · have hb := NU_inl ha e
    have hq := hF f p (by unfold pC; rw [e]) hb.1 hb.2.1 M1 (eqX_sub hX1 s4) e15
    have hne : ¬ nI f ≤ 0 := nI_nle (by omega) (by omega)
    exact ⟨fun z => absurd z hne, fun _ => ⟨fun z => absurd z hne, fun _ => hq⟩⟩
  · have g1 := NU_inr ha en1
    refine ⟨fun _ => ⟨ix_in (n := 1) (by omega) (by omega), ?_⟩, fun z => absurd (by decide) z⟩
    rw [hX1 13 19 (by simp [tnS3]; omega), e1]
    refine m_X7_into hn hR1 g1.2.2.2.2.2.2 (by omega) hi hnx (fun f p e M2 hX2 e15 => kv ?_) (fun y s2 e2 en2 M2 hX2 hR2 h182 hy hj2 => kv ?_)
    · have hb := NU_inl g1.2.2.2.2.2.2 e
      have hq := hF f p (by unfold pC; rw [en1]; dsimp only; rw [e]) hb.1 hb.2.1 M2 (eqX_tr (eqX_sub hX1 s34) (eqX_sub hX2 s4')) e15
      have hne : ¬ nI f ≤ 0 := nI_nle (by omega) (by omega)
      exact ⟨fun z => absurd z hne, fun _ => hq⟩
    · have g2 := NU_inr g1.2.2.2.2.2.2 en2
      have hX : eqX ((13, kx) :: (13, ky) :: tnS3) M M2 := eqX_tr (eqX_sub hX1 s3) (eqX_sub hX2 s3')
      have hx2 : M2 13 kx = M1 13 kx := hX2 13 kx (by simp [tnS3]; omega)
      have hy1 : M1 13 ky = M 13 ky := hX1 13 ky (by simp [tnS3]; omega)
      have jx : ∀ j, j ≠ i → M2 13 kx j = M 13 kx j := fun j hj => by rw [hx2]; exact hj1 j hj
      have jy : ∀ j, j ≠ i → M2 13 ky j = M 13 ky j := fun j hj => by rw [hj2 j hj, hy1]
      refine ⟨fun _ => ⟨ix_in hi (by omega), ix_in hi (by omega), ?_⟩, fun z => absurd (by decide) z⟩
      rw [ix_cl (n := i) (by omega), hx2, hx, hy]
      refine m_X7_isTaken (hkeep M2 hX jx jy) hP (fun hon => k1e ?_) (fun hon => k0e ?_)
      · rw [h182]
        refine m_X7_fails (fun M3 hX3 e15 => kv (hF 4 s2 ?_ (by omega) (by omega) M3 (eqX_tr (eqX_sub hX s34') (eqX_sub hX3 (by simp [tnS4]))) e15))
        unfold pC; rw [en1]; dsimp only; rw [en2]; dsimp only; rw [if_neg hon]
      · refine hK x y e2 ?_ g2.2.2.2.2.2.2 M2 hX hR2 (by rw [hx2]; exact hx) hy jx jy
        unfold pC; rw [en1]; dsimp only; rw [en2]; dsimp only; rw [if_pos hon]
end MClauses
