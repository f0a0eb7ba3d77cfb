/-! small methods of both sides -/
def rfH (σ : Sc) (x : Int32) : Int32 := if (1 : Int) ≤ x.toInt ∧ x.toInt ≤ 60 then (if σ 0 0 = 0 then -1000000003 else if σ 5 0 ≤ 90000 then 0 else -1000000004) else -1000000002
/-- the wall's row with one picture turned -/
def wlS (σ : Sc) (p : Nat) (is : Bool) : Sc := sus σ 6 (if is then σ 6 0 ||| nI (2 ^ p) else σ 6 0 &&& (nI (2 ^ p) ^^^ (-1)))
theorem p2_le {n : Nat} (h : n ≤ 8) : 2 ^ n ≤ 256 := Nat.pow_le_pow_right (by omega) h
section Small
variable {E : Nat → Nat → Int32} {d : Nat} {Q : am_Q} {M : am_M} {R : am_R} {g c : Nat} {b : Bool}
theorem m_X6_isThing {t : Int32} (h1 : ∀ q, q < 8 → t = nI q → Q (some (aI 1)) M R) (h0 : (∀ q, q < 8 → t ≠ nI q) → Q (some (aI 0)) M R) : am_WM E (d + 1) 96 [aI t] M R Q := by
  refine w_X6_isThing ?_
  rcases ix_of (x := t) (n := 8) (by omega) with ⟨q, hq, rfl⟩ | ⟨h, hne⟩
  · exact ⟨fun a => absurd a (ix_lt (by omega)), fun _ => ⟨fun a => absurd a (ix_ge (n := 8) hq (by omega)), fun _ => ret1 (h1 q hq rfl)⟩⟩
  · exact ⟨fun _ => ret0 (h0 hne), fun a => ⟨fun _ => ret0 (h0 hne), fun b => absurd h (fun z => z.elim a b)⟩⟩
theorem m_X6_arePictures {x : Int32} (hF : Wg (vc M g 6)) (h1 : ∀ q, q < 2 ^ sN (vc M g 6) → x = nI q → Q (some (aI 1)) M (Rs b)) (h0 : (∀ q, q < 2 ^ sN (vc M g 6) → x ≠ nI q) → Q (some (aI 0)) M (Rs b)) : am_WM E (d + 1) 93 [aO 6 0, aI x] M (Rs b) Q := by
  have h8 := hF.1
  have hp := p2_le h8
  refine w_X6_arePictures ?_
  rw [show M 6 0 0 = nI (sN (vc M g 6)) from hF.2.1, sh1 (by omega)]
  rcases ix_of (x := x) (n := 2 ^ sN (vc M g 6)) (by omega) with ⟨q, hq, rfl⟩ | ⟨h, hne⟩
  · exact ⟨fun a => absurd a (ix_lt (by omega)), fun _ => ⟨fun a => absurd a (ix_ge hq (by omega)), fun _ => ret1 (h1 q hq rfl)⟩⟩
  · exact ⟨fun _ => ret0 (h0 hne), fun a => ⟨fun _ => ret0 (h0 hne), fun b => absurd h (fun z => z.elim a b)⟩⟩
theorem m_X7_isSet {x : Int32} (hF : Wg (vm M)) (h1 : ∀ q, q < 2 ^ sN (vm M) → x = nI q → Q (some (aI 1)) M R) (h0 : (∀ q, q < 2 ^ sN (vm M) → x ≠ nI q) → Q (some (aI 0)) M R) : am_WM E (d + 2) 105 [aO 7 13, aI x] M R Q := by
  have h8 := hF.1
  have hp := p2_le h8
  have hp0 : 0 < 2 ^ sN (vm M) := Nat.pow_pos (by omega)
  refine w_X7_isSet ?_
  rw [show M 13 2 0 = nI (sN (vm M)) from hF.2.1, sh1 (by omega)]
  generalize 2 ^ sN (vm M) = n at *
  have e1 : (nI n - 1).toInt = (n : Int) - 1 := by rw [i_sub1 (by rw [nI_toInt (by omega)]; omega), nI_toInt (by omega)]
  refine m_X7_in (fun q => kv (ret1 ?_)) (fun q => kv (ret0 (h0 fun k hk e => q ?_)))
  · rw [Int32.toInt_toInt64, Int32.toInt_toInt64, e1] at q
    have q0 : (0 : Int) ≤ x.toInt := q.1
    exact h1 x.toInt.toNat (by omega) (i_of (by omega))
  · rw [Int32.toInt_toInt64, Int32.toInt_toInt64, e1, e, nI_toInt (by omega)]
    exact ⟨by show (0 : Int) ≤ _; omega, by omega⟩
theorem m_X6_hoursOrNone {x : Int32} (h : Q (some (aI (if x ≤ 60 then x else -1))) M R) : am_WM E (d + 1) 97 [aI x] M R Q := by
  refine w_X6_hoursOrNone ⟨fun q => ?_, fun q => ?_⟩
  · rw [if_pos q] at h; exact h
  · rw [if_neg q] at h; exact h
theorem m_X6_refusalOfHours {x : Int32} (h : Q (some (aI (rfH (vc M (pl b) 6) x))) M (Rs b)) : am_WM E (d + 1) 94 [aO 6 0, aI x] M (Rs b) Q := by
  refine w_X6_refusalOfHours ?_
  unfold rfH at h
  have e1 : x < 1 ↔ ¬ (1 : Int) ≤ x.toInt := by rw [Int32.lt_iff_toInt_lt]; exact Int.not_le.symm
  have e2 : x ≤ 60 ↔ x.toInt ≤ 60 := Int32.le_iff_toInt_le
  rw [e1, e2]
  refine ⟨fun q => ?_, fun q => ⟨fun q2 => ⟨fun q3 => ⟨fun q4 => ?_, fun q4 => ?_⟩, fun q3 => ?_⟩, fun q2 => ?_⟩⟩
  · rw [if_neg (fun z => q z.1)] at h; exact h
  · rw [if_pos ⟨Classical.not_not.mp q, q2⟩, if_neg (c := vc M (pl b) 6 0 0 = 0) q3, if_pos (c := vc M (pl b) 6 5 0 ≤ 90000) q4] at h; exact h
  · rw [if_pos ⟨Classical.not_not.mp q, q2⟩, if_neg (c := vc M (pl b) 6 0 0 = 0) q3, if_neg (c := vc M (pl b) 6 5 0 ≤ 90000) q4] at h; exact h
  · rw [if_pos ⟨Classical.not_not.mp q, q2⟩, if_pos (c := vc M (pl b) 6 0 0 = 0) q3] at h; exact h
  · rw [if_neg (fun z => q2 z.2)] at h; exact h
theorem m_X7_hoursRefused {x : Int32} (h : Q (some (aI (rfH (vm M) x))) M R) : am_WM E (d + 2) 136 [aO 7 13, aI x] M R Q := by
  refine w_X7_hoursRefused ?_
  unfold rfH at h
  rw [show Int32.toNatClampNeg 33 = 33 from rfl]
  refine m_X7_in (fun q => kv ⟨fun _ => ⟨fun q3 => ⟨ix_in (n := 33) (by omega) (by omega), fun q4 => ?_, fun q4 => ?_⟩, fun q3 => ?_⟩, fun z => absurd z (by decide)⟩) (fun q => kv ⟨fun z => absurd rfl z, fun _ => ?_⟩)
  · rw [Int32.toInt_toInt64] at q
    rw [if_pos (c := (1 : Int) ≤ x.toInt ∧ x.toInt ≤ 60) q, if_neg (c := vm M 0 0 = 0) q3, if_pos (c := vm M 5 0 ≤ 90000) q4] at h; exact h
  · rw [Int32.toInt_toInt64] at q
    rw [if_pos (c := (1 : Int) ≤ x.toInt ∧ x.toInt ≤ 60) q, if_neg (c := vm M 0 0 = 0) q3, if_neg (c := vm M 5 0 ≤ 90000) q4] at h; exact h
  · rw [Int32.toInt_toInt64] at q
    rw [if_pos (c := (1 : Int) ≤ x.toInt ∧ x.toInt ≤ 60) q, if_pos (c := vm M 0 0 = 0) q3] at h; exact h
  · rw [Int32.toInt_toInt64] at q
    rw [if_neg (c := (1 : Int) ≤ x.toInt ∧ x.toInt ≤ 60) q] at h; exact h
theorem m_X4_turnToWall {p : Nat} {is : Bool} (hgc : g ≠ c) (hp : p < 8) (h : ∀ M', eqX [(c, 1)] M M' → vc M' g c = wlS (vc M g c) p is → Q none M' R) : am_WM E (d + 1) 44 [aO 4 c, aI (nI p), aI (if is then 1 else 0)] M R Q := by
  refine w_X4_turnToWall ?_
  rw [sh1 (by omega)]
  cases is with
  | true =>
    refine ⟨fun q => absurd q (by decide), fun _ => h _ (eqX_up eqX_rfl (by simp)) ?_⟩
    exact vc_ups hgc (by omega)
  | false =>
    refine ⟨fun _ => h _ (eqX_up eqX_rfl (by simp)) ?_, fun q => absurd rfl q⟩
    exact vc_ups hgc (by omega)
end Small
