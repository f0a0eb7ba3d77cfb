/-! hidden of the reference -/
def hiA (σ : Sc) (x : Int32) : Int32 := if inN x 61 then orF (fun j => 1 <<< (σ 19 j &&& 31)) 0 (sC σ) 0 &&& (orF (pN σ x.toNatClampNeg 14) 0 (sN σ) 0 ^^^ (-1)) else -1000000002
section Hidden
variable {E : Nat → Nat → Int32} {d : Nat} {Q : am_Q} {R : am_R}
theorem hid_loop2 {M : am_M} {σ : Sc} (hF : Wg σ) (hv : vm M = σ) (hQ : ∀ M', eqX [(13, 11)] M M' → (∀ j, j < 34 → M' 13 11 j = M 13 35 j) → Q (some (aI (orF (fun j => 1 <<< (σ 19 j &&& 31)) 0 (sC σ) 0 &&& (orF (σ 14) 0 (sN σ) 0 ^^^ (-1))))) M' R) : ∀ (k i : Nat) (a : Int32), i + k = sC σ → orF (fun j => 1 <<< (σ 19 j &&& 31)) i k a = orF (fun j => 1 <<< (σ 19 j &&& 31)) 0 (sC σ) 0 → am_WP E (am_WM E (d + 5)) am_L_X7_hidden Q 40 [aO 7 13, aU, aI a, aI (nI i)] [] M R := by
  subst hv
  have h8 : sC (vm M) ≤ 8 := hF.2.2.2.2.1
  have hN : M 13 7 0 = nI (sC (vm M)) := hF.2.2.2.2.2.1
  intro k
  induction k with
  | zero =>
    intro i a hi ha
    refine w_X7_hidden_40 ?_
    rw [hN]
    refine ⟨fun _ => m_X7_known hF (kv (m_X7_putBack (fun M' h1 h2 => ⟨rfl, ?_⟩))), fun q => absurd (ix_le (by omega) (by omega)) q⟩
    have := hQ M' h1 h2
    rw [← ha] at this
    exact this
  | succ k ih =>
    intro i a hi ha
    refine w_X7_hidden_40 ?_
    rw [hN, nI_1, ix_cl (n := i) (by omega)]
    refine ⟨fun q => absurd q (ix_ge (by omega) (by omega)), fun _ => ⟨ix_in (by omega) (by omega), ih (i + 1) _ (by omega) ?_⟩⟩
    rw [← ha, ← show vm M 19 i = M 13 10 i from tr_lt (show i < sC (vm M) by omega)]
    rfl
theorem hid_loop1 {M0 : am_M} {n h : Nat} (hF : Wf (vm M0)) (h5 : vm M0 5 0 = nI h) (hh : h ≤ 99000) (hn : n ≤ 60) (hQ : ∀ M', eqX trS M0 M' → (∀ j, j < 34 → M' 13 11 j = M0 13 11 j) → Q (some (aI (orF (fun j => 1 <<< (vm M0 19 j &&& 31)) 0 (sC (vm M0)) 0 &&& (orF (pN (vm M0) n 14) 0 (sN (vm M0)) 0 ^^^ (-1))))) M' R) : ∀ (k i : Nat) (M : am_M), i + k = n → eqX trS M0 M → vm M = pN (vm M0) i → (∀ j, j < 34 → M 13 35 j = M0 13 11 j) → am_WP E (am_WM E (d + 5)) am_L_X7_hidden Q 21 [aO 7 13, aI (nI n), aI (nI i), aU] [] M R := by
  intro k
  induction k with
  | zero =>
    intro i M hi hX hv hw
    have : i = n := by omega
    subst this
    have hw2 := (pN_wf hF h5 i (by omega)).1
    have eC : sC (pN (vm M0) i) = sC (vm M0) := by unfold sC; rw [pN_off (by decide) (by decide)]
    have e19 : pN (vm M0) i 19 = vm M0 19 := pN_off (by decide) (by decide) i
    refine w_X7_hidden_21 ⟨fun _ => hid_loop2 hw2 hv (fun M' h1 h2 => ?_) (sC (pN (vm M0) i)) 0 0 (by omega) rfl, fun q => absurd (ix_le (by omega) (by omega)) q⟩
    rw [eC, e19, pN_sN]
    exact hQ M' (eqX_tr hX (eqX_sub h1 (by simp [trS]))) (fun j hj => by rw [h2 j hj]; exact hw j hj)
  | succ k ih =>
    intro i M hi hX hv hw
    have hw2 := (pN_wf hF h5 i (by omega)).1
    refine w_X7_hidden_21 ⟨fun q => absurd q (ix_ge (by omega) (by omega)), fun _ => m_X7_pass (by rw [hv]; exact hw2) (fun M' h1 h2 => ⟨rfl, ?_⟩)⟩
    rw [nI_1]
    exact ih (i + 1) M' (by omega) (eqX_tr hX (eqX_sub h1 (by simp [trS]))) (by rw [h2, hv]; rfl) (fun j hj => by rw [h1 13 35 (by simp)]; exact hw j hj)
theorem m_X7_hidden {M : am_M} {x : Int32} {h : Nat} (hF : Wf (vm M)) (h5 : vm M 5 0 = nI h) (hh : h ≤ 99000) (hQ : ∀ M', eqX trS M M' → (∀ j, j < 34 → M' 13 11 j = M 13 11 j) → Q (some (aI (hiA (vm M) x))) M' R) : am_WM E (d + 6) 146 [aO 7 13, aI x] M R Q := by
  unfold hiA at hQ
  refine w_X7_hidden (m_X7_in (fun q => kv ⟨fun _ => ?_, fun z => absurd z (by decide)⟩) (fun q => kv ⟨fun z => absurd rfl z, fun _ => ?_⟩))
  · rw [Int32.toInt_toInt64] at q
    have q0 : (0 : Int) ≤ x.toInt := q.1
    have q1 : x.toInt ≤ 60 := q.2
    rw [if_pos ⟨q0, by omega⟩] at hQ
    obtain ⟨n, e4⟩ : ∃ n : Nat, x.toInt = n := ⟨x.toInt.toNat, by omega⟩
    have e4' := i_of e4
    have hn : n < 61 := by omega
    subst e4'
    rw [ix_cl (by omega)] at hQ
    exact m_X7_save (fun M' hX hw => ⟨rfl, hid_loop1 hF h5 hh (by omega) hQ n 0 M' (by omega) (eqX_sub hX (by simp [trS])) (vm_off hX (fun k hk => by simp; omega)) hw⟩)
  · rw [Int32.toInt_toInt64] at q
    rw [if_neg (fun z => q ⟨z.1, by show x.toInt ≤ (60 : Int); have := z.2; omega⟩)] at hQ
    exact hQ M eqX_rfl (fun _ _ => rfl)
end Hidden
