/-! hidden of the class -/
theorem bt_orF {f : Nat → Int32} {n : Nat} (hf : ∀ j, j < n → ∃ z, z < 256 ∧ f j = nI z) : ∀ (k i z : Nat), i + k ≤ n → z < 256 → ∃ y, y < 256 ∧ orF f i k (nI z) = nI y ∧ ∀ t, t < 31 → (y.testBit t = true ↔ (z.testBit t = true ∨ ∃ j, i ≤ j ∧ j < i + k ∧ bt (f j) t = true))
  | 0, i, z, _, hz => ⟨z, hz, rfl, fun t _ => ⟨fun h => Or.inl h, fun h => h.elim id (fun ⟨j, h1, h2, _⟩ => absurd h2 (by omega))⟩⟩
  | k + 1, i, z, hik, hz => by
    obtain ⟨w, hw, ew⟩ := hf i (by omega)
    have hlt : z ||| w < 256 := Nat.or_lt_two_pow (n := 8) hz hw
    obtain ⟨y, hy, e, hiff⟩ := bt_orF hf k (i + 1) (z ||| w) (by omega) hlt
    refine ⟨y, hy, ?_, fun t ht => ?_⟩
    · show orF f (i + 1) k (nI z ||| f i) = nI y
      rw [ew, nI_or]; exact e
    · rw [hiff t ht, Nat.testBit_or, Bool.or_eq_true]
      have ei : bt (f i) t = w.testBit t := by rw [ew, bt_nI (by omega) ht]
      constructor
      · rintro ((h | h) | ⟨j, h1, h2, h3⟩)
        · exact Or.inl h
        · exact Or.inr ⟨i, Nat.le_refl _, by omega, by rw [ei]; exact h⟩
        · exact Or.inr ⟨j, by omega, by omega, h3⟩
      · rintro (h | ⟨j, h1, h2, h3⟩)
        · exact Or.inl (Or.inl h)
        · by_cases e : j = i
          · subst e; rw [ei] at h3; exact Or.inl (Or.inr h3)
          · exact Or.inr ⟨j, by omega, by omega, h3⟩
theorem nI_xor (a b : Nat) : nI a ^^^ nI b = nI (a ^^^ b) := by
  apply Int32.toBitVec_inj.1
  show BitVec.ofNat 32 a ^^^ BitVec.ofNat 32 b = BitVec.ofNat 32 (a ^^^ b)
  apply BitVec.eq_of_getLsbD_eq
  intro i hi
  simp [hi]
theorem nI_andnot {a b z : Nat} (ha : a < 256) (hz : z < 256) (h : ∀ t, t < 8 → z.testBit t = (a.testBit t && !b.testBit t)) : nI a &&& (nI b ^^^ (-1)) = nI z := by
  rw [show (-1 : Int32) = nI 4294967295 from by decide, nI_xor, nI_and]
  congr 1
  refine bits_eq (Nat.lt_of_le_of_lt Nat.and_le_left ha) hz (fun t ht => ?_)
  have h1 : ∀ t, t < 8 → (4294967295 : Nat).testBit t = true := by decide
  rw [Nat.testBit_and, Nat.testBit_xor, h1 t ht, h t ht, Bool.xor_true]
/-- somebody knows it then -/
def skB (σ : Sc) (t n : Nat) : Bool := (List.range (sN σ)).any (fun p => kn σ t n p)
theorem skB_iff {σ : Sc} {t n : Nat} : skB σ t n = true ↔ ∃ p, p < sN σ ∧ kn σ t n p = true := by
  unfold skB
  rw [List.any_eq_true]
  exact ⟨fun ⟨j, h1, h2⟩ => ⟨j, List.mem_range.mp h1, h2⟩, fun ⟨j, h1, h2⟩ => ⟨j, List.mem_range.mpr h1, h2⟩⟩
section Chidden
variable {E : Nat → Nat → Int32} {d : Nat} {Q : am_Q} {M : am_M} {b : Bool}
theorem hid6_loop {n h y : Nat} (hF : Wf (vc M (pl b) 6)) (hL : LkOk M (pl b) 6) (h5 : vc M (pl b) 6 5 0 = nI h) (hh : h ≤ 99000) (hn : n ≤ 60) (hy : y < 256) (hQ : ∀ z, bsI (fun t => y.testBit t && !skB (vc M (pl b) 6) t n) 8 z → Q (some (aI (nI z))) M (Rs b)) : ∀ (k i z : Nat), i + k = 8 → bsI (fun t => y.testBit t && !skB (vc M (pl b) 6) t n) i z → am_WP E (am_WM E (d + 3)) am_L_X6_hidden Q 26 [aO 6 0, aI (nI n), aI (nI z), aI (nI y), aI (nI i)] [] M (Rs b) := by
  intro k
  induction k with
  | zero =>
    intro i z hi hz
    have : i = 8 := by omega
    subst this
    exact w_X6_hidden_26 ⟨fun _ => hQ z hz, fun q => absurd (by decide) q⟩
  | succ k ih =>
    intro i z hi hz
    have ebt : bt (nI y) i = y.testBit i := bt_nI (by omega) (by omega)
    refine w_X6_hidden_26 ⟨fun q => absurd q (ix_ge (n := 8) (by omega) (by omega)), fun _ => m_X6_holds (fun hb => k1e ?_) (fun hb => k0e ?_)⟩
    · refine m_X4_isKnownBehind (g := pl b) (c := 6) hF hL h5 hh (by omega) (by omega) (fun hs => k1n ?_) (fun hs => k0n ?_)
      · rw [nI_1]
        refine ih (i + 1) _ (by omega) (bsI_f hz ?_)
        rw [skB_iff.mpr hs, Bool.not_true, Bool.and_false]
      · rw [sh1 (by omega), nI_or, nI_1]
        refine ih (i + 1) _ (by omega) (bsI_t hz ?_)
        have : skB (vc M (pl b) 6) i n = false := Bool.eq_false_iff.mpr (fun e => by
          obtain ⟨p, hp1, hp2⟩ := skB_iff.mp e
          rw [hs p hp1] at hp2
          cases hp2)
        rw [this, ← ebt, hb]; rfl
    · rw [nI_1]
      refine ih (i + 1) _ (by omega) (bsI_f hz ?_)
      rw [← ebt, hb]; rfl
theorem hi_bits {σ : Sc} {n h : Nat} (hF : Wf σ) (h5 : σ 5 0 = nI h) (hh : h ≤ 99000) (hn : n ≤ 60) : ∃ y, y < 256 ∧ orF (fun j => 1 <<< (σ 19 j &&& 31)) 0 (sC σ) 0 = nI y ∧ ∀ z, bsI (fun t => y.testBit t && !skB σ t n) 8 z → orF (fun j => 1 <<< (σ 19 j &&& 31)) 0 (sC σ) 0 &&& (orF (pN σ n 14) 0 (sN σ) 0 ^^^ (-1)) = nI z := by
  obtain ⟨y, hy, ey, -⟩ := bt_orF (f := fun j => 1 <<< (σ 19 j &&& 31)) (n := sC σ) (fun j hj => by
    obtain ⟨t, ht, et⟩ := (hF.2.2.2.2.2 j hj).2.2
    refine ⟨2 ^ t, ?_, ?_⟩
    · show 2 ^ t < 2 ^ 8
      exact Nat.pow_lt_pow_right (by decide) ht
    · show 1 <<< (σ 19 j &&& 31) = _
      rw [et, sh1 (by omega)]) (sC σ) 0 0 (by omega) (by omega)
  have hw := pN_wf hF h5 n (by omega)
  obtain ⟨k, hk, ek, hkb⟩ := bt_orF (f := pN σ n 14) (n := sN σ) (fun j hj => (hw.2.1 j (by rw [pN_sN]; exact hj)).2.2.2) (sN σ) 0 0 (by omega) (by omega)
  refine ⟨y, hy, ey, fun z hz => ?_⟩
  rw [show (0 : Int32) = nI 0 from rfl, ey, ek]
  refine nI_andnot hy hz.1 (fun t ht => ?_)
  rw [hz.2 t ht]
  show (y.testBit t && !skB σ t n) = (y.testBit t && !k.testBit t)
  congr 2
  rw [Bool.eq_iff_iff, hkb t (by omega), skB_iff]
  constructor
  · rintro ⟨p, h1, h2⟩
    exact Or.inr ⟨p, Nat.zero_le _, by omega, h2⟩
  · rintro (q | ⟨p, -, h1, h2⟩)
    · rw [Nat.zero_testBit] at q; cases q
    · exact ⟨p, by omega, h2⟩
theorem m_X6_hidden {x : Int32} {h : Nat} (hF : Wf (vc M (pl b) 6)) (hL : LkOk M (pl b) 6) (h5 : vc M (pl b) 6 5 0 = nI h) (hh : h ≤ 99000) (hQ : Q (some (aI (hiA (vc M (pl b) 6) x))) M (Rs b)) : am_WM E (d + 4) 76 [aO 6 0, aI x] M (Rs b) Q := by
  unfold hiA at hQ
  refine w_X6_hidden ?_
  rcases inN_or (x := x) (n := 61) (by omega) with ⟨n, hn, e, hin⟩ | ⟨h, hno⟩
  · rw [if_pos hin] at hQ
    subst e
    rw [ix_cl (by omega)] at hQ
    obtain ⟨y, hy, ey, hz⟩ := hi_bits hF h5 hh (n := n) (by omega)
    refine ⟨fun q => absurd q (ix_lt (by omega)), fun _ => ⟨fun _ => m_X2_thingsOfComings (c := 6) hF.1 (kv ?_), fun q => absurd (ix_le (n := n) (q := 60) (by omega) (by omega)) q⟩⟩
    rw [ey]
    refine hid6_loop hF hL h5 hh (by omega) hy (fun z hz' => ?_) 8 0 0 (by omega) bsI_0
    rw [← hz z hz']
    exact hQ
  · rw [if_neg hno] at hQ
    exact ⟨fun _ => hQ, fun q => ⟨fun q2 => absurd q2 (fun z => h.elim q (fun y => ix_ge (q := 60) (n := 61) (by omega) (by omega) (Int32.le_trans y z))), fun _ => hQ⟩⟩
end Chidden
