/-! what has been read: one form of view for both sides -/
def mk (s : Nat → Int32) (r : Nat → Nat → Int32) : Sc := fun f j => match f with
  | 0 => s 0
  | 1 => s 1
  | 2 => s 2
  | 3 => s 3
  | 4 => s 4
  | 5 => s 5
  | 6 => s 6
  | 7 => s 7
  | 10 => tr (s 2).toNatClampNeg (r 10) j
  | 11 => tr (s 2).toNatClampNeg (r 11) j
  | 12 => tr (s 2).toNatClampNeg (r 12) j
  | 13 => tr (s 2).toNatClampNeg (r 13) j
  | 14 => tr (s 2).toNatClampNeg (r 14) j
  | 15 => tr (s 3).toNatClampNeg (r 15) j
  | 16 => tr (s 3).toNatClampNeg (r 16) j
  | 17 => tr (s 4).toNatClampNeg (r 17) j
  | 18 => tr (s 4).toNatClampNeg (r 18) j
  | 19 => tr (s 4).toNatClampNeg (r 19) j
  | 20 => s 20
  | _ => 0
def csc (M : am_M) (g f : Nat) : Int32 := match f with
  | 0 => M g 0 0
  | 1 => M g 1 0
  | 2 => M (g + 2) 0 0
  | 3 => M g 2 0
  | 4 => M g 3 0
  | 5 => M (g + 2) 2 0
  | 6 => M (g + 2) 1 0
  | 7 => M (g + 2) 3 0
  | 20 => M g 4 0
  | _ => 0
def crw (M : am_M) (g f : Nat) : Nat → Int32 := match f with
  | 10 => M (g + 2) 4
  | 11 => M (g + 2) 5
  | 12 => M (g + 2) 6
  | 13 => M (g + 2) 7
  | 14 => M (g + 2) 8
  | 15 => M g 5
  | 16 => M g 6
  | 17 => M g 7
  | 18 => M g 8
  | 19 => M g 9
  | _ => fun _ => 0
def msc (M : am_M) (f : Nat) : Int32 := match f with
  | 0 => M 13 19 0
  | 1 => M 13 19 1
  | 2 => M 13 20 0
  | 3 => M 13 26 0
  | 4 => M 13 29 0
  | 20 => M 13 33 0
  | _ => 0
def mrw (M : am_M) (f : Nat) : Nat → Int32 := match f with
  | 10 => M 13 21
  | 11 => M 13 22
  | 12 => M 13 23
  | 13 => M 13 24
  | 14 => M 13 25
  | 15 => M 13 27
  | 16 => M 13 28
  | 17 => M 13 30
  | 18 => M 13 31
  | 19 => M 13 32
  | _ => fun _ => 0
def rvC (M : am_M) (g : Nat) : Sc := mk (csc M g) (crw M g)
def rvM (M : am_M) : Sc := mk (msc M) (mrw M)
theorem rvC_vc {M : am_M} {g : Nat} : ∀ f, f ≤ 19 → vc M g (g + 2) f = rvC M g f := by
  intro f hf
  rcases (by omega : f = 0 ∨ f = 1 ∨ f = 2 ∨ f = 3 ∨ f = 4 ∨ f = 5 ∨ f = 6 ∨ f = 7 ∨ f = 8 ∨ f = 9 ∨ f = 10 ∨ f = 11 ∨ f = 12 ∨ f = 13 ∨ f = 14 ∨ f = 15 ∨ f = 16 ∨ f = 17 ∨ f = 18 ∨ f = 19) with rfl | rfl | rfl | rfl | rfl | rfl | rfl | rfl | rfl | rfl | rfl | rfl | rfl | rfl | rfl | rfl | rfl | rfl | rfl | rfl <;> rfl
theorem rvC_off {M M' : am_M} {g : Nat} (h1 : M' g = M g) (h2 : M' (g + 2) = M (g + 2)) : rvC M' g = rvC M g := by
  have e1 : csc M' g = csc M g := by funext f; unfold csc; rw [h1, h2]
  have e2 : crw M' g = crw M g := by funext f; unfold crw; rw [h1, h2]
  unfold rvC
  rw [e1, e2]
theorem mk_w {s s' : Nat → Int32} {r r' : Nat → Nat → Int32} {w h : Nat} (h0 : s' 0 = nI w) (h1 : s' 1 = nI h) (hs : ∀ f, f ≠ 0 → f ≠ 1 → s' f = s f) (hr : r' = r) : mk s' r' = rwS (mk s r) w h := by
  subst hr
  funext f j
  by_cases e0 : f = 0
  · subst e0; exact h0
  · by_cases e1 : f = 1
    · subst e1; exact h1
    · unfold rwS
      rw [sus_off e1, sus_off e0]
      unfold mk
      rw [hs 2 (by decide) (by decide), hs 3 (by decide) (by decide), hs 4 (by decide) (by decide), hs 5 (by decide) (by decide), hs 6 (by decide) (by decide), hs 7 (by decide) (by decide), hs 20 (by decide) (by decide)]
      split <;> first | exact absurd rfl e0 | exact absurd rfl e1 | rfl
theorem mk_p {s s' : Nat → Int32} {r r' : Nat → Nat → Int32} {N k x y w : Nat} (hN : s 2 = nI N) (h8 : N < 8) (h2 : s' 2 = nI (N + 1)) (hs : ∀ f, f ≠ 2 → s' f = s f) (hr : ∀ f, 15 ≤ f → r' f = r f) (hj : ∀ f j, 10 ≤ f → f ≤ 14 → j ≠ N → r' f j = r f j) (h10 : r' 10 N = nI k) (h11 : r' 11 N = nI x) (h12 : r' 12 N = nI y) (h13 : r' 13 N = nI w) (h14 : r' 14 N = 0) : mk s' r' = rpS (mk s r) k x y w := by
  have e0 : sN (mk s r) = N := by show (s 2).toNatClampNeg = N; rw [hN, ix_cl (by omega)]
  funext f j
  unfold rpS
  rw [e0]
  unfold mk
  rw [h2, ix_cl (n := N + 1) (by omega), tr_push (f := r 10) h10 (fun j h => hj 10 j (by omega) (by omega) h) j, tr_push (f := r 11) h11 (fun j h => hj 11 j (by omega) (by omega) h) j, tr_push (f := r 12) h12 (fun j h => hj 12 j (by omega) (by omega) h) j, tr_push (f := r 13) h13 (fun j h => hj 13 j (by omega) (by omega) h) j, tr_push (f := r 14) h14 (fun j h => hj 14 j (by omega) (by omega) h) j, hs 0 (by decide), hs 1 (by decide), hs 3 (by decide), hs 4 (by decide), hs 5 (by decide), hs 6 (by decide), hs 7 (by decide), hs 20 (by decide), hr 15 (by omega), hr 16 (by omega), hr 17 (by omega), hr 18 (by omega), hr 19 (by omega), hN, ix_cl (n := N) (by omega)]
  match f with
  | 0 => rfl
  | 1 => rfl
  | 2 => rfl
  | 3 => rfl
  | 4 => rfl
  | 5 => rfl
  | 6 => rfl
  | 7 => rfl
  | 8 => rfl
  | 9 => rfl
  | 10 => rfl
  | 11 => rfl
  | 12 => rfl
  | 13 => rfl
  | 14 => rfl
  | 15 => rfl
  | 16 => rfl
  | 17 => rfl
  | 18 => rfl
  | 19 => rfl
  | 20 => rfl
  | f + 21 => rfl
theorem mk_d {s s' : Nat → Int32} {r r' : Nat → Nat → Int32} {N x y : Nat} (hN : s 3 = nI N) (h8 : N < 4) (h2 : s' 3 = nI (N + 1)) (hs : ∀ f, f ≠ 3 → s' f = s f) (hr : ∀ f, f ≠ 15 → f ≠ 16 → r' f = r f) (hj : ∀ f j, f = 15 ∨ f = 16 → j ≠ N → r' f j = r f j) (h15 : r' 15 N = nI x) (h16 : r' 16 N = nI y) : mk s' r' = rdS (mk s r) x y := by
  have e0 : sD (mk s r) = N := by show (s 3).toNatClampNeg = N; rw [hN, ix_cl (by omega)]
  funext f j
  unfold rdS
  rw [e0]
  unfold mk
  rw [h2, ix_cl (n := N + 1) (by omega), tr_push (f := r 15) h15 (fun j h => hj 15 j (by omega) h) j, tr_push (f := r 16) h16 (fun j h => hj 16 j (by omega) h) j, hs 0 (by decide), hs 1 (by decide), hs 2 (by decide), hs 4 (by decide), hs 5 (by decide), hs 6 (by decide), hs 7 (by decide), hs 20 (by decide), hr 10 (by omega) (by omega), hr 11 (by omega) (by omega), hr 12 (by omega) (by omega), hr 13 (by omega) (by omega), hr 14 (by omega) (by omega), hr 17 (by omega) (by omega), hr 18 (by omega) (by omega), hr 19 (by omega) (by omega), hN, ix_cl (n := N) (by omega)]
  match f with
  | 0 => rfl
  | 1 => rfl
  | 2 => rfl
  | 3 => rfl
  | 4 => rfl
  | 5 => rfl
  | 6 => rfl
  | 7 => rfl
  | 8 => rfl
  | 9 => rfl
  | 10 => rfl
  | 11 => rfl
  | 12 => rfl
  | 13 => rfl
  | 14 => rfl
  | 15 => rfl
  | 16 => rfl
  | 17 => rfl
  | 18 => rfl
  | 19 => rfl
  | 20 => rfl
  | f + 21 => rfl
theorem mk_e {s s' : Nat → Int32} {r r' : Nat → Nat → Int32} {N h q t : Nat} (hN : s 4 = nI N) (h8 : N < 8) (h2 : s' 4 = nI (N + 1)) (hs : ∀ f, f ≠ 4 → s' f = s f) (hr : ∀ f, f ≤ 16 → r' f = r f) (hj : ∀ f j, 17 ≤ f → f ≤ 19 → j ≠ N → r' f j = r f j) (h17 : r' 17 N = nI h) (h18 : r' 18 N = nI q) (h19 : r' 19 N = nI t) : mk s' r' = reS (mk s r) h q t := by
  have e0 : sC (mk s r) = N := by show (s 4).toNatClampNeg = N; rw [hN, ix_cl (by omega)]
  funext f j
  unfold reS
  rw [e0]
  unfold mk
  rw [h2, ix_cl (n := N + 1) (by omega), tr_push (f := r 17) h17 (fun j h => hj 17 j (by omega) (by omega) h) j, tr_push (f := r 18) h18 (fun j h => hj 18 j (by omega) (by omega) h) j, tr_push (f := r 19) h19 (fun j h => hj 19 j (by omega) (by omega) h) j, hs 0 (by decide), hs 1 (by decide), hs 2 (by decide), hs 3 (by decide), hs 5 (by decide), hs 6 (by decide), hs 7 (by decide), hs 20 (by decide), hr 10 (by omega), hr 11 (by omega), hr 12 (by omega), hr 13 (by omega), hr 14 (by omega), hr 15 (by omega), hr 16 (by omega), hN, ix_cl (n := N) (by omega)]
  match f with
  | 0 => rfl
  | 1 => rfl
  | 2 => rfl
  | 3 => rfl
  | 4 => rfl
  | 5 => rfl
  | 6 => rfl
  | 7 => rfl
  | 8 => rfl
  | 9 => rfl
  | 10 => rfl
  | 11 => rfl
  | 12 => rfl
  | 13 => rfl
  | 14 => rfl
  | 15 => rfl
  | 16 => rfl
  | 17 => rfl
  | 18 => rfl
  | 19 => rfl
  | 20 => rfl
  | f + 21 => rfl
theorem mk_s {s s' : Nat → Int32} {r r' : Nat → Nat → Int32} {p t : Nat} (hp : p < (s 2).toNatClampNeg) (hs : ∀ f, f ≠ 20 → s' f = s f) (h20 : s' 20 = s 20 + 1) (hr : ∀ f, f ≠ 14 → r' f = r f) (hj : ∀ j, j ≠ p → r' 14 j = r 14 j) (h14 : r' 14 p = r 14 p ||| nI (2 ^ t)) : mk s' r' = rsS (mk s r) p t := by
  have e14 : mk s r 14 p = r 14 p := tr_lt hp
  have e20 : mk s r 20 0 = s 20 := rfl
  unfold rsS
  rw [e14, e20]
  funext f j
  by_cases f20 : f = 20
  · subst f20
    show s' 20 = sus _ 20 (s 20 + 1) 20 j
    unfold sus
    rw [if_pos rfl]; exact h20
  · rw [sus_off f20]
    by_cases f14 : f = 14
    · subst f14
      show tr (s' 2).toNatClampNeg (r' 14) j = sup _ 14 p _ 14 j
      rw [hs 2 (by decide)]
      by_cases ej : j = p
      · subst ej
        rw [sup_at, tr_lt hp, h14]
      · rw [sup_ne ej]
        show _ = tr (s 2).toNatClampNeg (r 14) j
        unfold tr
        rw [hj j ej]
    · rw [sup_off f14]
      unfold mk
      rw [hs 0 (by decide), hs 1 (by decide), hs 2 (by decide), hs 3 (by decide), hs 4 (by decide), hs 5 (by decide), hs 6 (by decide), hs 7 (by decide), hr 10 (by decide), hr 11 (by decide), hr 12 (by decide), hr 13 (by decide), hr 15 (by decide), hr 16 (by decide), hr 17 (by decide), hr 18 (by decide), hr 19 (by decide)]
      split <;> first | exact absurd rfl f20 | exact absurd rfl f14 | rfl
