/-! scenes: what both sides speak of. A scene holds: 0 width 1 height 2 pictures 3 doors 4 comings 5 hours 6 who is turned to the wall 7 the seed; rows: 10 kind 11 x 12 y 13 way 14 knows 15 doorX 16 doorY 17 hour 18 door 19 thing of comings -/
abbrev Sc : Type := Nat → Nat → Int32
def sN (σ : Sc) : Nat := (σ 2 0).toNatClampNeg
def sD (σ : Sc) : Nat := (σ 3 0).toNatClampNeg
def sC (σ : Sc) : Nat := (σ 4 0).toNatClampNeg
def vc (M : am_M) (g c : Nat) : Sc := fun f i => match f with
  | 0 => M g 0 0
  | 1 => M g 1 0
  | 2 => M c 0 0
  | 3 => M g 2 0
  | 4 => M g 3 0
  | 5 => M c 2 0
  | 6 => M c 1 0
  | 7 => M c 3 0
  | 10 => tr (M c 0 0).toNatClampNeg (M c 4) i
  | 11 => tr (M c 0 0).toNatClampNeg (M c 5) i
  | 12 => tr (M c 0 0).toNatClampNeg (M c 6) i
  | 13 => tr (M c 0 0).toNatClampNeg (M c 7) i
  | 14 => tr (M c 0 0).toNatClampNeg (M c 8) i
  | 15 => tr (M g 2 0).toNatClampNeg (M g 5) i
  | 16 => tr (M g 2 0).toNatClampNeg (M g 6) i
  | 17 => tr (M g 3 0).toNatClampNeg (M g 7) i
  | 18 => tr (M g 3 0).toNatClampNeg (M g 8) i
  | 19 => tr (M g 3 0).toNatClampNeg (M g 9) i
  | _ => 0
def vm (M : am_M) : Sc := fun f i => match f with
  | 0 => M 13 0 0
  | 1 => M 13 1 0
  | 2 => M 13 2 0
  | 3 => M 13 4 0
  | 4 => M 13 7 0
  | 5 => M 13 11 33
  | 6 => M 13 11 32
  | 7 => M 13 12 0
  | 10 => tr (M 13 2 0).toNatClampNeg (M 13 3) i
  | 11 => tr (M 13 2 0).toNatClampNeg (fun j => M 13 11 j) i
  | 12 => tr (M 13 2 0).toNatClampNeg (fun j => M 13 11 (8 + j)) i
  | 13 => tr (M 13 2 0).toNatClampNeg (fun j => M 13 11 (16 + j)) i
  | 14 => tr (M 13 2 0).toNatClampNeg (fun j => M 13 11 (24 + j)) i
  | 15 => tr (M 13 4 0).toNatClampNeg (M 13 5) i
  | 16 => tr (M 13 4 0).toNatClampNeg (M 13 6) i
  | 17 => tr (M 13 7 0).toNatClampNeg (M 13 8) i
  | 18 => tr (M 13 7 0).toNatClampNeg (M 13 9) i
  | 19 => tr (M 13 7 0).toNatClampNeg (M 13 10) i
  | _ => 0
/-- what a scene's numbers keep to -/
def Wg (σ : Sc) : Prop := sN σ ≤ 8 ∧ σ 2 0 = nI (sN σ) ∧ sD σ ≤ 4 ∧ σ 3 0 = nI (sD σ) ∧ sC σ ≤ 8 ∧ σ 4 0 = nI (sC σ) ∧ (∃ w, w ≤ 7 ∧ σ 0 0 = nI w) ∧ (∃ h, h ≤ 7 ∧ σ 1 0 = nI h) ∧ ∀ p, p < sN σ → ∃ w, w < 4 ∧ σ 13 p = nI w
def Wf (σ : Sc) : Prop := Wg σ ∧ (∀ p, p < sN σ → (∃ k, k < 6 ∧ σ 10 p = nI k) ∧ (∃ x, x < 7 ∧ σ 11 p = nI x) ∧ (∃ y, y < 7 ∧ σ 12 p = nI y) ∧ (∃ k, k < 256 ∧ σ 14 p = nI k)) ∧ (∃ w, w < 2 ^ sN σ ∧ σ 6 0 = nI w) ∧ (∃ h, h ≤ 100000 ∧ σ 5 0 = nI h) ∧ ¬ σ 7 0 < 0 ∧ (∀ i, i < sC σ → (∃ h, h ≤ 30 ∧ σ 17 i = nI h) ∧ (∃ q, q < sD σ ∧ σ 18 i = nI q) ∧ (∃ t, t < 8 ∧ σ 19 i = nI t))
/-- what is on a cell -/
def onF (σ : Sc) (x y : Int32) : Int32 := match sF (fun p => decide (σ 11 p = x ∧ σ 12 p = y)) 0 (sN σ) with
  | some p => nI p
  | none => match sF (fun q => decide (σ 15 q = x ∧ σ 16 q = y)) 0 (sD σ) with
    | some q => nI (10 + q)
    | none => -1
abbrev cellP (σ : Sc) (x y : Int32) : Prop := ¬ x < 0 ∧ ¬ σ 0 0 ≤ x ∧ ¬ y < 0 ∧ ¬ σ 1 0 ≤ y
section Leaf
variable {E : Nat → Nat → Int32} {d : Nat} {Q : am_Q} {M : am_M} {R : am_R} {g c : Nat}
theorem m_X4_has {p : Int32} (hn : M c 0 0 = nI (sN (vc M g c))) (h8 : sN (vc M g c) ≤ 8) (h1 : ∀ q, q < sN (vc M g c) → p = nI q → Q (some (aI 1)) M R) (h0 : (∀ q, q < sN (vc M g c) → p ≠ nI q) → Q (some (aI 0)) M R) : am_WM E (d + 1) 41 [aO 4 c, aI p] M R Q := by
  refine w_X4_has ?_
  rw [hn]
  rcases ix_of (x := p) (n := sN (vc M g c)) (by omega) with ⟨q, hq, rfl⟩ | ⟨h, hne⟩
  · exact ⟨fun a => absurd a (ix_lt (by omega)), fun _ => ⟨fun a => absurd a (ix_ge hq (by omega)), fun _ => ret1 (h1 q hq rfl)⟩⟩
  · exact ⟨fun _ => ret0 (h0 hne), fun a => ⟨fun _ => ret0 (h0 hne), fun b => absurd h (by simp [a, b])⟩⟩
theorem m_X2_hasCell {x y : Int32} (h1 : cellP (vc M g c) x y → Q (some (aI 1)) M R) (h0 : ¬ cellP (vc M g c) x y → Q (some (aI 0)) M R) : am_WM E (d + 1) 13 [aO 2 g, aI x, aI y] M R Q := by
  refine w_X2_hasCell ?_
  refine ⟨fun a => ret0 (h0 fun q => q.1 a), fun a => ⟨fun b => ret0 (h0 fun q => q.2.1 b), fun b => ⟨fun e => ret0 (h0 fun q => q.2.2.1 e), fun e => ⟨fun f => ret0 (h0 fun q => q.2.2.2 f), fun f => ret1 (h1 ⟨a, b, e, f⟩)⟩⟩⟩⟩
theorem doorOn_loop {x y : Int32} (hn : M g 2 0 = nI (sD (vc M g c))) (h4 : sD (vc M g c) ≤ 4) : ∀ (k i : Nat), i + k = sD (vc M g c) → Q (some (aI (match sF (fun q => decide (vc M g c 15 q = x ∧ vc M g c 16 q = y)) i k with | some q => nI q | none => -1))) M R → am_WP E (am_WM E d) am_L_X2_doorOn Q 2 [aO 2 g, aI x, aI y, aI (nI i)] [] M R := by
  intro k
  induction k with
  | zero =>
    intro i hi h
    refine w_X2_doorOn_2 ?_
    rw [hn]
    exact ⟨fun _ => h, fun q => absurd (ix_le (by omega) (by omega)) q⟩
  | succ k ih =>
    intro i hi h
    refine w_X2_doorOn_2 ?_
    rw [hn, ix_cl (by omega), nI_1]
    have e1 : vc M g c 15 i = M g 5 i := tr_lt (show i < sD (vc M g c) by omega)
    have e2 : vc M g c 16 i = M g 6 i := tr_lt (show i < sD (vc M g c) by omega)
    refine ⟨fun q => absurd q (ix_ge (by omega) (by omega)), fun _ => ⟨ix_in (by omega) (by omega), fun q => ih (i + 1) (by omega) ?_, fun q => ⟨ix_in (by omega) (by omega), fun q2 => ih (i + 1) (by omega) ?_, fun q2 => ?_⟩⟩⟩
    · simpa [sF, e1, q] using h
    · simpa [sF, e2, q2] using h
    · simpa [sF, e1, e2, q, q2] using h
theorem m_X2_doorOn {x y : Int32} (hn : M g 2 0 = nI (sD (vc M g c))) (h4 : sD (vc M g c) ≤ 4) (h : Q (some (aI (match sF (fun q => decide (vc M g c 15 q = x ∧ vc M g c 16 q = y)) 0 (sD (vc M g c)) with | some q => nI q | none => -1))) M R) : am_WM E (d + 1) 14 [aO 2 g, aI x, aI y] M R Q := by
  refine w_X2_doorOn ?_
  exact doorOn_loop (c := c) hn h4 (sD (vc M g c)) 0 (by omega) h
end Leaf
