/-! when and all, on both sides -/
abbrev inN (x : Int32) (n : Nat) : Prop := (0 : Int) ≤ x.toInt ∧ x.toInt < n
theorem inN_mk {q n : Nat} (h : q < n) (hn : n ≤ 1000) : inN (nI q) n := by
  unfold inN
  rw [nI_toInt (by omega)]
  omega
theorem inN_not {x : Int32} {n : Nat} (h : ∀ q, q < n → x ≠ nI q) : ¬ inN x n := fun q => h x.toInt.toNat (by omega) (i_of (by omega))
def whA (σ : Sc) (x1 x2 : Int32) : Int32 := if inN x1 (sN σ) ∧ inN x2 8 then htF σ (1 <<< (x1 &&& 31)) x2.toNatClampNeg else -1000000001
def alA (σ : Sc) (s x2 : Int32) : Int32 := if inN s (2 ^ sN σ) ∧ inN x2 8 then htF σ s x2.toNatClampNeg else -1000000001
theorem ht_eq {σ : Sc} {t : Nat} {set L : Int32} (hL0 : ¬ L < 0) (hiff : ∀ k, k ≤ 60 → (aK σ set t k = true ↔ ¬ nI k < L)) : htF σ set t = if L ≤ 60 then L else -1 := by
  unfold htF
  rcases ix_of (x := L) (n := 61) (by omega) with ⟨l, hl, rfl⟩ | ⟨h, hne⟩
  · rw [if_pos (c := nI l ≤ 60) (ix_le (n := l) (q := 60) (by omega) (by omega))]
    rw [sF_mk (P := fun k => aK σ set t k) (j := l) ((hiff l (by omega)).mpr (fun z => absurd z (by rw [Int32.not_lt]; exact ix_le (Nat.le_refl _) (by omega)))) (Nat.zero_le _) (by omega) (fun q _ hq => Bool.eq_false_iff.mpr (fun z => (hiff q (by omega)).mp z (by rw [← Int32.not_le]; exact ix_ge hq (by omega))))]
  · have h61 : nI 61 ≤ L := h.elim (fun z => absurd z hL0) id
    have hlt : ∀ k, k ≤ 60 → nI k < L := fun k hk => Int32.lt_of_lt_of_le (by rw [← Int32.not_le]; exact ix_ge (show k < 61 by omega) (by omega)) h61
    rw [if_neg (c := L ≤ 60) (fun z => Int32.not_lt.mpr z (hlt 60 (by omega)))]
    rw [sF_mkn (P := fun k => aK σ set t k) (fun q _ hq => Bool.eq_false_iff.mpr (fun z => (hiff q (by omega)).mp z (hlt q (by omega))))]
theorem hu_pos {σ : Sc} {t h p : Nat} : ¬ huF σ t h p < 0 := by
  unfold huF
  cases hv : uF σ t h 9 p with
  | none => decide
  | some u => exact ix_lt (by have := uF_bd 9 p u hv; omega)
theorem bt_one {p q : Nat} (hp : p < 8) (hq : q < 8) : bt (nI (2 ^ p)) q = decide (p = q) := by
  have h : ∀ p, p < 8 → ∀ q, q < 8 → bt (nI (2 ^ p)) q = decide (p = q) := by decide +kernel
  exact h p hp q hq
theorem ht_one {σ : Sc} {t h p : Nat} (hF : Wf σ) (h5 : σ 5 0 = nI h) (hh : h ≤ 99000) (ht : t < 8) (hp : p < sN σ) : htF σ (nI (2 ^ p)) t = if huF σ t h p ≤ 60 then huF σ t h p else -1 := by
  have h8 := hF.1.1
  refine ht_eq hu_pos (fun k hk => ?_)
  rw [← hu_le hF h5 ht hp (by omega) (by omega), aK_iff]
  refine ⟨fun z => z p hp (by rw [bt_one (by omega) (by omega)]; exact decide_eq_true rfl), fun z q hq hb => ?_⟩
  rw [bt_one (by omega) (by omega)] at hb
  rw [← of_decide_eq_true hb]; exact z
section When
variable {E : Nat → Nat → Int32} {d : Nat} {Q : am_Q} {M : am_M} {R : am_R} {b : Bool}
theorem m_X7_when {x1 x2 : Int32} {h : Nat} (hF : Wf (vm M)) (h5 : vm M 5 0 = nI h) (hQ : ∀ M', eqX trS M M' → (∀ j, j < 34 → M' 13 11 j = M 13 11 j) → Q (some (aI (whA (vm M) x1 x2))) M' R) : am_WM E (d + 7) 144 [aO 7 13, aI x1, aI x2] M R Q := by
  have h8 := hF.1.1
  unfold whA at hQ
  refine w_X7_when (m_X7_isPicture hF.1.2.1 h8 (fun p hp e1 => k1e (m_X7_isThing (fun t ht e2 => k1e ?_) (fun a => k0e ?_))) (fun a => k0e ?_))
  · subst e1; subst e2
    rw [if_pos ⟨inN_mk hp (by omega), inN_mk ht (by omega)⟩, ix_cl (by omega)] at hQ
    exact m_X7_hoursTill hF h5 (fun M' hX hw => kv (hQ M' hX hw))
  · rw [if_neg (fun z => inN_not a z.2)] at hQ
    exact hQ M eqX_rfl (fun _ _ => rfl)
  · rw [if_neg (fun z => inN_not a z.1)] at hQ
    exact hQ M eqX_rfl (fun _ _ => rfl)
theorem m_X7_all {x1 x2 : Int32} {h : Nat} (hF : Wf (vm M)) (h5 : vm M 5 0 = nI h) (hQ : ∀ M', eqX trS M M' → (∀ j, j < 34 → M' 13 11 j = M 13 11 j) → Q (some (aI (alA (vm M) x1 x2))) M' R) : am_WM E (d + 7) 145 [aO 7 13, aI x1, aI x2] M R Q := by
  have h8 := hF.1.1
  have hp2 := p2_le h8
  unfold alA at hQ
  refine w_X7_all (m_X7_isSet hF.1 (fun z hz e1 => k1e (m_X7_isThing (fun t ht e2 => k1e ?_) (fun a => k0e ?_))) (fun a => k0e ?_))
  · subst e1; subst e2
    rw [if_pos ⟨inN_mk hz (by omega), inN_mk ht (by omega)⟩, ix_cl (by omega)] at hQ
    exact m_X7_hoursTill hF h5 (fun M' hX hw => kv (hQ M' hX hw))
  · rw [if_neg (fun z => inN_not a z.2)] at hQ
    exact hQ M eqX_rfl (fun _ _ => rfl)
  · rw [if_neg (fun z => inN_not a z.1)] at hQ
    exact hQ M eqX_rfl (fun _ _ => rfl)
theorem m_X6_when {x1 x2 : Int32} {h : Nat} (hF : Wf (vc M (pl b) 6)) (hL : LkOk M (pl b) 6) (h5 : vc M (pl b) 6 5 0 = nI h) (hh : h ≤ 99000) (hQ : Q (some (aI (whA (vc M (pl b) 6) x1 x2))) M (Rs b)) : am_WM E (d + 3) 75 [aO 6 0, aI x1, aI x2] M (Rs b) Q := by
  have h8 := hF.1.1
  unfold whA at hQ
  refine w_X6_when (m_X4_has hF.1.2.1 h8 (fun p hp e1 => k1e (m_X6_isThing (fun t ht e2 => kv ⟨fun _ => ?_, fun q => absurd q (by decide)⟩) (fun a => kv ⟨fun q => absurd rfl q, fun _ => ?_⟩))) (fun a => k0e ?_))
  · subst e1; subst e2
    rw [if_pos ⟨inN_mk hp (by omega), inN_mk ht (by omega)⟩, ix_cl (by omega), sh1 (by omega), ht_one hF h5 hh ht hp] at hQ
    exact m_X4_hoursUntil hF hL h5 (by omega) ht hp (kv (m_X6_hoursOrNone (kv hQ)))
  · rw [if_neg (fun z => inN_not a z.2)] at hQ
    exact hQ
  · rw [if_neg (fun z => inN_not a z.1)] at hQ
    exact hQ
theorem all_loop {s : Int32} {t h : Nat} (hF : Wf (vc M (pl b) 6)) (hL : LkOk M (pl b) 6) (h5 : vc M (pl b) 6 5 0 = nI h) (hh : h ≤ 99000) (ht : t < 8) (hQ : Q (some (aI (htF (vc M (pl b) 6) s t))) M (Rs b)) : ∀ (k i : Nat) (L : Int32), i + k = sN (vc M (pl b) 6) → ¬ L < 0 → (∀ k, k ≤ 60 → ((∀ q, q < i → bt s q = true → kn (vc M (pl b) 6) t k q = true) ↔ ¬ nI k < L)) → am_WP E (am_WM E (d + 2)) am_L_X6_all Q 23 [aO 6 0, aI s, aI (nI t), aI L, aI (nI i)] [] M (Rs b) := by
  have h8 := hF.1.1
  have hN : M 6 0 0 = nI (sN (vc M (pl b) 6)) := hF.1.2.1
  intro k
  induction k with
  | zero =>
    intro i L hi hL0 hinv
    have : i = sN (vc M (pl b) 6) := by omega
    subst this
    refine w_X6_all_23 ?_
    rw [hN]
    refine ⟨fun _ => m_X6_hoursOrNone (kv ?_), fun q => absurd (ix_le (by omega) (by omega)) q⟩
    rw [ht_eq hL0 (fun k hk => by rw [aK_iff]; exact hinv k hk)] at hQ
    exact hQ
  | succ k ih =>
    intro i L hi hL0 hinv
    refine w_X6_all_23 ?_
    rw [hN, nI_1]
    refine ⟨fun q => absurd q (ix_ge (by omega) (by omega)), fun _ => m_X6_holds (fun hb => k1e ?_) (fun hb => k0e (ih (i + 1) L (by omega) hL0 (fun k hk => ?_)))⟩
    · refine m_X4_hoursUntil (g := pl b) (c := 6) hF hL h5 (by omega) ht (by omega) (kv (ih (i + 1) _ (by omega) ?_ (fun k hk => ?_)))
      · split
        · exact hu_pos
        · exact hL0
      · have e1 := hinv k hk
        have e2 := hu_le hF h5 (t := t) (k := k) (p := i) ht (by omega) (by omega) (by omega)
        have e3 : (¬ nI k < if L < huF (vc M (pl b) 6) t h i then huF (vc M (pl b) 6) t h i else L) ↔ (¬ nI k < L ∧ ¬ nI k < huF (vc M (pl b) 6) t h i) := by
          split
          · next q => exact ⟨fun z => ⟨fun y => z (Int32.lt_trans y q), z⟩, fun z => z.2⟩
          · next q => exact ⟨fun z => ⟨z, fun y => z (Int32.lt_of_lt_of_le y (Int32.not_lt.mp q))⟩, fun z => z.1⟩
        rw [e3, ← e1, ← e2]
        refine ⟨fun z => ⟨fun q hq => z q (by omega), z i (by omega) hb⟩, fun z q hq hs => ?_⟩
        by_cases e : q = i
        · subst e; exact z.2
        · exact z.1 q (by omega) hs
    · rw [← hinv k hk]
      refine ⟨fun z q hq => z q (by omega), fun z q hq hs => ?_⟩
      by_cases e : q = i
      · subst e; rw [hb] at hs; cases hs
      · exact z q (by omega) hs
theorem m_X6_all {x1 x2 : Int32} {h : Nat} (hF : Wf (vc M (pl b) 6)) (hL : LkOk M (pl b) 6) (h5 : vc M (pl b) 6 5 0 = nI h) (hh : h ≤ 99000) (hQ : Q (some (aI (alA (vc M (pl b) 6) x1 x2))) M (Rs b)) : am_WM E (d + 3) 80 [aO 6 0, aI x1, aI x2] M (Rs b) Q := by
  have h8 := hF.1.1
  have hp2 := p2_le h8
  unfold alA at hQ
  refine w_X6_all (m_X6_arePictures hF.1 (fun z hz e1 => k1e (m_X6_isThing (fun t ht e2 => kv ⟨fun _ => ?_, fun q => absurd q (by decide)⟩) (fun a => kv ⟨fun q => absurd rfl q, fun _ => ?_⟩))) (fun a => k0e ?_))
  · subst e2
    rw [if_pos ⟨by rw [e1]; exact inN_mk hz (by omega), inN_mk ht (by omega)⟩, ix_cl (by omega)] at hQ
    exact all_loop hF hL h5 hh ht hQ (sN (vc M (pl b) 6)) 0 0 (by omega) (by decide) (fun k hk => ⟨fun _ => ix_lt (by omega), fun _ q hq => absurd hq (by omega)⟩)
  · rw [if_neg (fun z => inN_not a z.2)] at hQ
    exact hQ
  · rw [if_neg (fun z => inN_not a z.1)] at hQ
    exact hQ
end When
