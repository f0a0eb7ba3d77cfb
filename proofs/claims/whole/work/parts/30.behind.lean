/-! the class: what one knows, who knows, behind n hours -/
theorem bits_eq {a b : Nat} (ha : a < 256) (hb : b < 256) (h : ∀ t, t < 8 → a.testBit t = b.testBit t) : a = b := by
  apply Nat.eq_of_testBit_eq
  intro t
  rcases Nat.lt_or_ge t 8 with q | q
  · exact h t q
  · have e : (256 : Nat) ≤ 2 ^ t := Nat.pow_le_pow_right (n := 2) (by decide) q
    rw [Nat.testBit_lt_two_pow (by omega), Nat.testBit_lt_two_pow (by omega)]
theorem or_pow_lt {z i : Nat} (h : z < 2 ^ i) : z ||| 2 ^ i < 2 ^ (i + 1) := Nat.or_lt_two_pow (Nat.lt_of_lt_of_le h (Nat.pow_le_pow_right (by decide) (by omega))) (Nat.pow_lt_pow_right (by decide) (by omega))
theorem testBit_or_pow {z i t : Nat} : (z ||| 2 ^ i).testBit t = (z.testBit t || decide (i = t)) := by rw [Nat.testBit_or, Nat.testBit_two_pow]
/-- the set, as a number, of those below i for which f holds -/
def bsI (f : Nat → Bool) (i z : Nat) : Prop := z < 2 ^ i ∧ ∀ t, t < i → z.testBit t = f t
theorem bsI_0 {f : Nat → Bool} : bsI f 0 0 := ⟨by decide, fun t ht => absurd ht (by omega)⟩
theorem bsI_t {f : Nat → Bool} {i z : Nat} (h : bsI f i z) (hf : f i = true) : bsI f (i + 1) (z ||| 2 ^ i) := by
  refine ⟨or_pow_lt h.1, fun t ht => ?_⟩
  rw [testBit_or_pow]
  by_cases e : i = t
  · subst e
    rw [hf]; simp
  · rw [h.2 t (by omega)]; simp [e]
theorem bsI_f {f : Nat → Bool} {i z : Nat} (h : bsI f i z) (hf : f i = false) : bsI f (i + 1) z := by
  refine ⟨Nat.lt_of_lt_of_le h.1 (Nat.pow_le_pow_right (by decide) (by omega)), fun t ht => ?_⟩
  by_cases e : i = t
  · subst e
    rw [hf, Nat.testBit_lt_two_pow h.1]
  · exact h.2 t (by omega)
theorem bsI_one {f : Nat → Bool} {i z z' : Nat} (h : bsI f i z) (h' : bsI f i z') : z = z' := by
  apply Nat.eq_of_testBit_eq
  intro t
  rcases Nat.lt_or_ge t i with q | q
  · rw [h.2 t q, h'.2 t q]
  · rw [Nat.testBit_lt_two_pow (Nat.lt_of_lt_of_le h.1 (Nat.pow_le_pow_right (by decide) q)), Nat.testBit_lt_two_pow (Nat.lt_of_lt_of_le h'.1 (Nat.pow_le_pow_right (by decide) q))]
theorem kn_bs {σ : Sc} {h : Nat} (hF : Wf σ) (h5 : σ 5 0 = nI h) {n p : Nat} (hp : p < sN σ) (hk : h + n ≤ 100000) : ∃ z, bsI (fun t => kn σ t n p) 8 z ∧ pN σ n 14 p = nI z := by
  obtain ⟨z, hz, ez⟩ := ((pN_wf hF h5 n hk).2.1 p (by rw [pN_sN]; exact hp)).2.2.2
  refine ⟨z, ⟨hz, fun t ht => ?_⟩, ez⟩
  show z.testBit t = bt (pN σ n 14 p) t
  rw [ez, bt_nI (by omega) (by omega)]
section Behind
variable {E : Nat → Nat → Int32} {d : Nat} {Q : am_Q} {M : am_M} {R : am_R} {g c : Nat}
theorem knownB_loop {h n p : Nat} (hF : Wf (vc M g c)) (hL : LkOk M g c) (h5 : vc M g c 5 0 = nI h) (hh : h ≤ 99000) (hp : p < sN (vc M g c)) (hn : n ≤ 1000) (hQ : ∀ z, bsI (fun t => kn (vc M g c) t n p) 8 z → Q (some (aI (nI z))) M R) : ∀ (k i z : Nat), i + k = 8 → bsI (fun t => kn (vc M g c) t n p) i z → am_WP E (am_WM E (d + 2)) am_L_X4_knownBehind Q 6 [aO 4 c, aO 2 g, aI (nI p), aI (nI n), aI (nI z), aI (nI i)] [] M R := by
  intro k
  induction k with
  | zero =>
    intro i z hi hz
    have : i = 8 := by omega
    subst this
    exact w_X4_knownBehind_6 ⟨fun _ => hQ z hz, fun q => absurd (by decide) q⟩
  | succ k ih =>
    intro i z hi hz
    refine w_X4_knownBehind_6 ⟨fun q => absurd q (ix_ge (n := 8) (by omega) (by omega)), fun _ => m_X4_hoursUntil hF hL h5 (by omega) (by omega) hp (kv ?_)⟩
    rw [sh1 (by omega), nI_or, nI_1]
    have key := hu_le hF h5 (t := i) (k := n) (p := p) (by omega) hp (by omega) hn
    refine ⟨fun q => ih (i + 1) _ (by omega) (bsI_f hz ?_), fun q => ih (i + 1) _ (by omega) (bsI_t hz (key.mpr q))⟩
    exact Bool.eq_false_iff.mpr (fun e => key.mp e q)
theorem m_X4_knownBehind {h n p : Nat} (hF : Wf (vc M g c)) (hL : LkOk M g c) (h5 : vc M g c 5 0 = nI h) (hh : h ≤ 99000) (hp : p < sN (vc M g c)) (hn : n ≤ 1000) (hQ : Q (some (aI (pN (vc M g c) n 14 p))) M R) : am_WM E (d + 3) 54 [aO 4 c, aO 2 g, aI (nI p), aI (nI n)] M R Q := by
  refine w_X4_knownBehind ?_
  refine knownB_loop hF hL h5 hh hp hn (fun z hz => ?_) 8 0 0 (by omega) bsI_0
  obtain ⟨z', hz', ez'⟩ := kn_bs hF h5 (n := n) hp (by omega)
  rw [bsI_one hz hz', ← ez']
  exact hQ
theorem isKnownB_loop {h n t : Nat} (hF : Wf (vc M g c)) (hL : LkOk M g c) (h5 : vc M g c 5 0 = nI h) (hh : h ≤ 99000) (ht : t < 8) (hn : n ≤ 1000) (h1 : (∃ p, p < sN (vc M g c) ∧ kn (vc M g c) t n p = true) → Q (some (aI 1)) M R) (h0 : (∀ p, p < sN (vc M g c) → kn (vc M g c) t n p = false) → Q (some (aI 0)) M R) : ∀ (k i : Nat), i + k = sN (vc M g c) → (∀ p, p < i → kn (vc M g c) t n p = false) → am_WP E (am_WM E (d + 2)) am_L_X4_isKnownBehind Q 3 [aO 4 c, aO 2 g, aI (nI t), aI (nI n), aI (nI i)] [] M R := by
  have h8 := hF.1.1
  have hN : M c 0 0 = nI (sN (vc M g c)) := hF.1.2.1
  intro k
  induction k with
  | zero =>
    intro i hi hz
    have : i = sN (vc M g c) := by omega
    subst this
    refine w_X4_isKnownBehind_3 ?_
    rw [hN]
    exact ⟨fun _ => ⟨by decide, h0 hz⟩, fun q => absurd (ix_le (by omega) (by omega)) q⟩
  | succ k ih =>
    intro i hi hz
    refine w_X4_isKnownBehind_3 ?_
    rw [hN]
    refine ⟨fun q => absurd q (ix_ge (by omega) (by omega)), fun _ => m_X4_hoursUntil hF hL h5 (by omega) (by omega) (by omega) (kv ?_)⟩
    rw [nI_1]
    have key := hu_le hF h5 (t := t) (k := n) (p := i) ht (by omega) (by omega) hn
    refine ⟨fun q => ih (i + 1) (by omega) (fun p hp => ?_), fun q => ⟨by decide, h1 ⟨i, by omega, key.mpr q⟩⟩⟩
    rcases Nat.lt_or_ge p i with hpi | hpi
    · exact hz p hpi
    · have : p = i := by omega
      subst this
      exact Bool.eq_false_iff.mpr (fun e => key.mp e q)
theorem m_X4_isKnownBehind {h n t : Nat} (hF : Wf (vc M g c)) (hL : LkOk M g c) (h5 : vc M g c 5 0 = nI h) (hh : h ≤ 99000) (ht : t < 8) (hn : n ≤ 1000) (h1 : (∃ p, p < sN (vc M g c) ∧ kn (vc M g c) t n p = true) → Q (some (aI 1)) M R) (h0 : (∀ p, p < sN (vc M g c) → kn (vc M g c) t n p = false) → Q (some (aI 0)) M R) : am_WM E (d + 3) 55 [aO 4 c, aO 2 g, aI (nI t), aI (nI n)] M R Q := by
  refine w_X4_isKnownBehind ?_
  exact isKnownB_loop hF hL h5 hh ht hn h1 h0 (sN (vc M g c)) 0 (by omega) (fun p hp => absurd hp (by omega))
end Behind
