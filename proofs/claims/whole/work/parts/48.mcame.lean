/-! came and next of the reference -/
def wyS : List (Nat × Nat) := [(13, 11), (13, 34), (13, 35), (13, 42)]
def waI (M0 M : am_M) : Prop := eqX wyS M0 M ∧ (∀ j, j < 34 → M 13 11 j = M0 13 11 j) ∧ (∀ j, j < 34 → M 13 35 j = M0 13 11 j)
theorem aM_off {S : List (Nat × Nat)} {M M' : am_M} (h : eqX S M M') (hS : ∀ k, 38 ≤ k → k ≤ 45 → k ≠ 42 → (13, k) ∉ S) : aM M' = aM M := by
  funext f j
  unfold aM
  rw [h 13 38 (hS 38 (by omega) (by omega) (by omega)), h 13 39 (hS 39 (by omega) (by omega) (by omega)), h 13 40 (hS 40 (by omega) (by omega) (by omega)), h 13 41 (hS 41 (by omega) (by omega) (by omega)), h 13 43 (hS 43 (by omega) (by omega) (by omega)), h 13 44 (hS 44 (by omega) (by omega) (by omega)), h 13 45 (hS 45 (by omega) (by omega) (by omega))]
theorem waI_42 {M0 M : am_M} {i : Nat} {v : Int32} (h : waI M0 M) : waI M0 (am_up M 13 42 i v) := ⟨eqX_up h.1 (by simp [wyS]), fun j hj => by rw [up_k (by decide)]; exact h.2.1 j hj, fun j hj => by rw [up_k (by decide)]; exact h.2.2 j hj⟩
theorem waI_vm {M0 M : am_M} (h8 : sN (vm M0) ≤ 8) (h : waI M0 M) : vm M = vm M0 := vm_now h.2.1 (fun k h1 h2 => h.1 13 k (by simp [wyS]; omega)) h8
section MCame
variable {E : Nat → Nat → Int32} {d : Nat} {Q : am_Q} {R : am_R}
theorem kn93_loop {M : am_M} {t N : Nat} {f : Nat → Bool} (hN : N ≤ 8) (hn : M 13 2 0 = nI N) (hf : ∀ p, p < N → bt (M 13 11 (24 + p)) t = f p) (hQ : ∀ M', eqX [(13, 11)] M M' → (∀ j, j < 34 → M' 13 11 j = M 13 35 j) → Q (some (aI (nI (bsN f N)))) M' R) : ∀ (k i y : Nat), i + k = N → bsI f i y → am_WP E (am_WM E (d + 1)) am_L_X7_knowers Q 93 [aO 7 13, aI (nI t), aU, aU, aU, aI (nI y), aI (nI i)] [] M R := by
  intro k
  induction k with
  | zero =>
    intro i y hi hy
    have : i = N := by omega
    subst this
    refine w_X7_knowers_93 ?_
    rw [hn]
    refine ⟨fun _ => m_X7_putBack (fun M' h1 h2 => ⟨rfl, ?_⟩), fun q => absurd (ix_le (by omega) (by omega)) q⟩
    rw [bsN_eq hy]
    exact hQ M' h1 h2
  | succ k ih =>
    intro i y hi hy
    refine w_X7_knowers_93 ?_
    rw [hn, show (24 : Int32) + nI i = nI (24 + i) from nI_add 24 i, ix_cl (n := 24 + i) (by omega), nI_1, sh1 (by omega), nI_or, Int32.or_zero]
    refine ⟨fun q => absurd q (ix_ge (by omega) (by omega)), fun _ => ⟨ix_in (by omega) (by omega), m_X7_has (fun hb => k1e (ih (i + 1) _ (by omega) (bsI_t hy ?_))) (fun hb => k0e (ih (i + 1) y (by omega) (bsI_f hy ?_)))⟩⟩
    · rw [← hf i (by omega)]; exact hb
    · rw [← hf i (by omega)]; exact hb
theorem kn59_loop {σ : Sc} {M0 : am_M} {t q k : Nat} (hF : Wf σ) (ht : t < 8) (hq : q < sD σ) (hk : k ≤ 10) (hK : ∀ M', eqX [(13, 11), (13, 34)] M0 M' → agr (vm M') (pN (pst σ q t) k) → am_WP E (am_WM E (d + 4)) am_L_X7_knowers Q 93 [aO 7 13, aI (nI t), aU, aU, aU, aI 0, aI 0] [] M' R) : ∀ (m j : Nat) (M : am_M), j + m = k → eqX [(13, 11), (13, 34)] M0 M → agr (vm M) (pN (pst σ q t) j) → Wg (vm M) → am_WP E (am_WM E (d + 4)) am_L_X7_knowers Q 59 [aO 7 13, aI (nI t), aU, aI (nI q), aI (nI k), aI (nI j), aU] [] M R := by
  have h8 := hF.1.1
  have h4 := hF.1.2.2.1
  intro m
  induction m with
  | zero =>
    intro j M hj hX ha hg
    have : j = k := by omega
    subst this
    exact w_X7_knowers_59 ⟨fun _ => hK M hX ha, fun y => absurd (ix_le (by omega) (by omega)) y⟩
  | succ m ih =>
    intro j M hj hX ha hg
    have eD : sD (vm M) = sD σ := by
      unfold sD
      rw [ha.1 3 rfl, pN_off (by decide) (by decide)]
      rfl
    have hnext : ∀ M', eqX [(13, 11), (13, 34)] M M' → vm M' = passG (vm M) (comesF (pN (pst σ q t) j)) → am_WP E (am_WM E (d + 4)) am_L_X7_knowers Q 59 [aO 7 13, aI (nI t), aU, aI (nI q), aI (nI k), aI (nI (j + 1)), aU] [] M' R := fun M' h1 h2 => by
      refine ih (j + 1) M' (by omega) (eqX_tr hX h1) ?_ ?_
      · rw [h2]
        exact agr_pass hg.1 (by rw [eD]; exact h4) ha
      · rw [h2]
        exact Wg_congr (fun f a b _ => (passG_off a b).symm) hg
    have hcm : ∀ q2, q2 < sD (vm M) → comesF (pN (pst σ q t) j) (nI q2) = if q2 = q ∧ j = 0 then 1 <<< (nI t &&& 31) else 0 := fun q2 hq2 => pst_comes (by omega) (by omega) (by omega)
    refine w_X7_knowers_59 ⟨fun y => absurd y (ix_ge (by omega) (by omega)), fun _ => ⟨fun y => ?_, fun y => ?_⟩⟩
    · have hj0 : ¬ j = 0 := fun e => y (by rw [e]; rfl)
      rw [nI_1]
      refine m_X7_passBy hg (cm := comesF (pN (pst σ q t) j)) (fun q2 hq2 => ?_) (fun M' h1 h2 => ⟨rfl, hnext M' h1 h2⟩)
      rw [hcm q2 hq2, if_neg (fun z => hj0 z.2), if_neg (c := (4 : Int32) < 0) (by decide), if_neg (fun z => ?_)]
      have : nI 4 = nI q2 := z
      rw [ix_eq (by omega) (by omega)] at this
      omega
    · have hj0 : j = 0 := by
        have : nI j = nI 0 := y
        rw [ix_eq (by omega) (by omega)] at this
        exact this
      rw [nI_1]
      refine m_X7_passBy hg (cm := comesF (pN (pst σ q t) j)) (fun q2 hq2 => ?_) (fun M' h1 h2 => ⟨rfl, hnext M' h1 h2⟩)
      rw [hcm q2 hq2, if_neg (c := nI q < 0) (ix_lt (by omega))]
      have e2 : nI q = nI q2 ↔ q = q2 := ix_eq (by omega) (by omega)
      by_cases e : q2 = q
      · rw [if_pos ⟨e, hj0⟩, if_pos (e2.mpr e.symm)]
      · rw [if_neg (fun z => e z.1), if_neg (fun z => e (e2.mp z).symm)]
theorem kn3_loop {M0 : am_M} {t z q h : Nat} (hF : Wf (vm M0)) (h5 : vm M0 5 0 = nI h) (hh : h ≤ 99000) (ht : t < 8) (hz : z < h) (hz2 : z ≤ 60) (hq : q < sD (vm M0)) (h35 : ∀ j, j < 34 → M0 13 35 j = M0 13 11 j) (hQ : ∀ M', eqX [(13, 11), (13, 34)] M0 M' → (∀ j, j < 34 → M' 13 11 j = M0 13 11 j) → Q (some (aI (nI (bsN (knB (vm M0) t h q z) (sN (vm M0)))))) M' R) : ∀ (k i : Nat) (M : am_M), i + k = sN (vm M0) → eqX [(13, 11)] M0 M → (∀ f, f ≠ 14 → vm M f = vm M0 f) → (∀ p, p < i → vm M 14 p = 0) → am_WP E (am_WM E (d + 4)) am_L_X7_knowers Q 3 [aO 7 13, aI (nI t), aI (nI z), aI (nI q), aI (nI i), aU, aU] [] M R := by
  have h8 := hF.1.1
  have h4 := hF.1.2.2.1
  intro k
  induction k with
  | zero =>
    intro i M hi hX hv h0
    have hN : M 13 2 0 = nI (sN (vm M0)) := by rw [hX 13 2 (by simp)]; exact hF.1.2.1
    have eN : sN (vm M) = sN (vm M0) := by unfold sN; rw [hv 2 (by decide)]
    have e33 : M 13 35 33 = nI h := by rw [hX 13 35 (by simp), h35 33 (by omega)]; exact h5
    have hK : ∀ k, k = min (h - z) 10 → am_WP E (am_WM E (d + 4)) am_L_X7_knowers Q 59 [aO 7 13, aI (nI t), aU, aI (nI q), aI (nI k), aI (nI 0), aU] [] M R := fun k hk => by
      refine kn59_loop hF ht hq (by omega) (fun M' hX' ha => ?_) k 0 M (by omega) eqX_rfl ⟨fun f hf => ?_, fun p hp => ?_⟩ ?_
      · have hN' : M' 13 2 0 = nI (sN (vm M0)) := by rw [hX' 13 2 (by simp)]; exact hN
        have eN' : sN (vm M') = sN (vm M0) := by
          unfold sN
          rw [ha.1 2 rfl, pN_off (by decide) (by decide)]
          rfl
        refine kn93_loop (d := d + 3) (f := knB (vm M0) t h q z) h8 hN' (fun p hp => ?_) (fun M2 hX2 h2 => ?_) (sN (vm M0)) 0 0 (by omega) bsI_0
        · rw [← pst_kn hF hq ht hp hz hk]
          unfold kn
          rw [← ha.2 p (by rw [eN']; exact hp)]
          exact congrArg (fun y => bt y t) (tr_lt (f := fun j => M' 13 11 (24 + j)) (show p < sN (vm M') by rw [eN']; exact hp)).symm
        · refine hQ M2 (eqX_tr (eqX_sub hX (by simp)) (eqX_tr hX' (eqX_sub hX2 (by simp)))) (fun j hj => ?_)
          rw [h2 j hj, hX' 13 35 (by simp), hX 13 35 (by simp), h35 j hj]
      · show vm M f = pst (vm M0) q t f
        rw [pst_lk f hf]
        exact hv f (fun e => by rw [e] at hf; cases hf)
      · rw [eN] at hp
        exact h0 p (by omega)
      · exact Wg_congr (fun f a _ _ => (hv f a).symm) hF.1
    refine w_X7_knowers_3 ?_
    rw [hN, show Int32.toNatClampNeg 33 = 33 from rfl, e33, pk_sub (by omega)]
    refine ⟨fun _ => ⟨ix_in (n := 33) (by omega) (by omega), fun y => ?_, fun y => ?_⟩, fun y => absurd (ix_le (by omega) (by omega)) y⟩
    · have y' : nI (h - z) ≤ nI 10 := y
      rw [nI_leI (by omega) (by omega)] at y'
      exact hK (h - z) (by omega)
    · have y' : ¬ nI (h - z) ≤ nI 10 := y
      rw [nI_leI (by omega) (by omega)] at y'
      exact hK 10 (by omega)
  | succ k ih =>
    intro i M hi hX hv h0
    have hN : M 13 2 0 = nI (sN (vm M0)) := by rw [hX 13 2 (by simp)]; exact hF.1.2.1
    have eN : sN (vm M) = sN (vm M0) := by unfold sN; rw [hv 2 (by decide)]
    refine w_X7_knowers_3 ?_
    rw [hN, show (24 : Int32) + nI i = nI (24 + i) from nI_add 24 i, ix_cl (n := 24 + i) (by omega), nI_1]
    have hu := vm_up14 (M := M) (i := i) (v := 0) (by rw [eN]; exact h8) (by rw [eN]; omega)
    refine ⟨fun y => absurd y (ix_ge (by omega) (by omega)), fun _ => ⟨ix_in (by omega) (by omega), ih (i + 1) _ (by omega) (eqX_up hX (by simp)) (fun f hf => ?_) (fun p hp => ?_)⟩⟩
    · rw [hu, sup_off hf]; exact hv f hf
    · rw [hu]
      by_cases e : p = i
      · rw [e, sup_at]
      · rw [sup_ne e]; exact h0 p (by omega)
theorem m_X7_knowers {M0 M : am_M} {t z q h : Nat} (hI : waI M0 M) (hF : Wf (vm M0)) (h5 : vm M0 5 0 = nI h) (hh : h ≤ 99000) (ht : t < 8) (hz : z < h) (hz2 : z ≤ 60) (hq : q < sD (vm M0)) (hQ : ∀ M', waI M0 M' → M' 13 42 = M 13 42 → Q (some (aI (nI (bsN (knB (vm M0) t h q z) (sN (vm M0)))))) M' R) : am_WM E (d + 5) 156 [aO 7 13, aI (nI t), aI (nI z), aI (nI q)] M R Q := by
  have hv := waI_vm hF.1.1 hI
  refine w_X7_knowers ?_
  refine kn3_loop (M0 := M) (h := h) (by rw [hv]; exact hF) (by rw [hv]; exact h5) hh ht hz hz2 (by rw [hv]; exact hq) (fun j hj => by rw [hI.2.2 j hj, hI.2.1 j hj]) (fun M' hX h11 => ?_) (sN (vm M)) 0 M (by omega) eqX_rfl (fun _ _ => rfl) (fun p hp => absurd hp (by omega))
  rw [hv]
  refine hQ M' ⟨eqX_tr hI.1 (eqX_sub hX (by simp [wyS])), fun j hj => by rw [h11 j hj, hI.2.1 j hj], fun j hj => by rw [hX 13 35 (by simp), hI.2.2 j hj]⟩ (hX 13 42 (by simp))
/-- what the row of ways holds -/
def wv (σ α : Sc) (t h i : Nat) : Int32 := if wyB σ α t h i = true then nI (bsN (knB σ t h (i % 4) (i / 4)) (sN σ)) else -1
theorem fw65_loop {M0 M : am_M} {t k y N : Nat} (hN8 : N ≤ 8) (hI : waI M0 M) (hA : WA (aM M0) N) (hk : k < 244) (hK : ∀ M', waI M0 M' → (∀ i, i ≠ k → M' 13 42 i = M 13 42 i) → M' 13 42 k = (if fitB (aM M0) t y = true then nI y else -1) → am_WP E (am_WM E (d + 1)) am_L_X7_findWays Q 6 [aO 7 13, aI (nI t), aI (nI (k + 1)), aU, aU, aU, aU, aU] [] M' R) : ∀ (m i : Nat) (b : Int32), i + m = nA (aM M0) → ((b = 1 ∧ ∀ j, j < i → askP (aM M0) t y j) ∨ (b = 0 ∧ ¬ ∀ j, j < nA (aM M0) → askP (aM M0) t y j)) → am_WP E (am_WM E (d + 1)) am_L_X7_findWays Q 65 [aO 7 13, aI (nI t), aI (nI k), aU, aU, aI (nI y), aI b, aI (nI i)] [] M R := by
  have ea : aM M = aM M0 := aM_off hI.1 (fun k h1 h2 h3 => by simp [wyS]; omega)
  have h8 := hA.1
  have hn : M 13 38 0 = nI (nA (aM M0)) := by
    have := hA.2.1
    rw [← ea] at this ⊢
    exact this
  intro m
  induction m with
  | zero =>
    intro i b hi hb
    refine w_X7_findWays_65 ?_
    rw [hn, ix_cl (n := k) (by omega), nI_1]
    have hin : vp_in (nI k) 244 := ix_in hk (by omega)
    refine ⟨fun _ => ⟨fun e => ⟨hin, ?_⟩, fun e => ⟨hin, ?_⟩⟩, fun q => absurd (ix_le (by omega) (by omega)) q⟩
    · refine hK _ (waI_42 hI) (fun j hj => up_i hj) ?_
      rw [up_s]
      rcases hb with ⟨b1, -⟩ | ⟨-, b2⟩
      · rw [b1] at e; cases e
      · rw [if_neg (fun w => b2 (fitB_iff.mp w))]
    · refine hK _ (waI_42 hI) (fun j hj => up_i hj) ?_
      rw [up_s]
      rcases hb with ⟨-, b1⟩ | ⟨b2, -⟩
      · rw [if_pos (fitB_iff.mpr (fun j hj => b1 j (by omega)))]
      · exact absurd b2 e
  | succ m ih =>
    intro i b hi hb
    have hi2 : i < nA (aM M0) := by omega
    have e1 : aM M0 1 i = M 13 39 i := by rw [← ea]; exact tr_lt (show i < nA (aM M) by rw [ea]; exact hi2)
    have e2 : aM M0 2 i = M 13 40 i := by rw [← ea]; exact tr_lt (show i < nA (aM M) by rw [ea]; exact hi2)
    have e3 : aM M0 3 i = M 13 41 i := by rw [← ea]; exact tr_lt (show i < nA (aM M) by rw [ea]; exact hi2)
    obtain ⟨⟨p, hp, ep⟩, -, -⟩ := hA.2.2.2.2.1 i hi2
    have e4 : askP (aM M0) t y i ↔ (aM M0 2 i = nI t → (if bt (nI y) p = true then (1 : Int32) else 0) = aM M0 3 i) := by
      unfold askP
      rw [ep, ix_cl (by omega)]
    refine w_X7_findWays_65 ?_
    rw [hn, ix_cl (n := i) (by omega), nI_1 i, ← e1, ← e2, ep]
    have hin : vp_in (nI i) 8 := ix_in (by omega) (by omega)
    refine ⟨fun q => absurd q (ix_ge (by omega) (by omega)), fun _ => ⟨fun e => ih (i + 1) 0 (by omega) ?_, fun e => ⟨hin, fun w => ih (i + 1) 1 (by omega) ?_, fun w => ⟨hin, ?_⟩⟩⟩⟩
    · rcases hb with ⟨b1, -⟩ | ⟨-, b2⟩
      · rw [b1] at e; cases e
      · exact Or.inr ⟨rfl, b2⟩
    · rcases hb with ⟨-, b1⟩ | ⟨b2, -⟩
      · refine Or.inl ⟨rfl, fun j hj => ?_⟩
        by_cases ej : j = i
        · rw [ej]; exact fun z => absurd z w
        · exact b1 j (by omega)
      · exact absurd b2 e
    · rcases hb with ⟨-, b1⟩ | ⟨b2, -⟩
      · have hyes : askP (aM M0) t y i → am_WP E (am_WM E (d + 1)) am_L_X7_findWays Q 65 [aO 7 13, aI (nI t), aI (nI k), aU, aU, aI (nI y), aI 1, aI (nI (i + 1))] [] M R := fun hh => ih (i + 1) 1 (by omega) (Or.inl ⟨rfl, fun j hj => by
          by_cases ej : j = i
          · rw [ej]; exact hh
          · exact b1 j (by omega)⟩)
        have hno : ¬ askP (aM M0) t y i → am_WP E (am_WM E (d + 1)) am_L_X7_findWays Q 65 [aO 7 13, aI (nI t), aI (nI k), aU, aU, aI (nI y), aI 0, aI (nI (i + 1))] [] M R := fun hh => ih (i + 1) 0 (by omega) (Or.inr ⟨rfl, fun z => hh (z i hi2)⟩)
        have e5 : M 13 41 i = aM M0 3 i := e3.symm
        refine m_X7_has (fun hbt => ⟨1, rfl, hin, ?_⟩) (fun hbt => ⟨0, rfl, hin, ?_⟩)
        · rw [e5]
          refine ⟨fun x => hno (fun z => x ?_), fun x => hyes (e4.mpr (fun _ => ?_))⟩
          · have := e4.mp z w
            rw [hbt, if_pos rfl] at this
            exact this
          · rw [hbt, if_pos rfl]; exact x
        · rw [e5]
          refine ⟨fun x => hno (fun z => x ?_), fun x => hyes (e4.mpr (fun _ => ?_))⟩
          · have := e4.mp z w
            rw [hbt, if_neg (by decide)] at this
            exact this
          · rw [hbt, if_neg (by decide)]; exact x
      · exact absurd b2 e
theorem fw_loop {M0 : am_M} {t h N : Nat} (hF : Wf (vm M0)) (h5 : vm M0 5 0 = nI h) (hh : h ≤ 99000) (ht : t < 8) (hN8 : N ≤ 8) (hA : WA (aM M0) N) (hQ : ∀ M', waI M0 M' → (∀ i, i < 244 → M' 13 42 i = wv (vm M0) (aM M0) t h i) → Q none M' R) : ∀ (m k : Nat) (M : am_M), k + m = 244 → waI M0 M → (∀ i, i < k → M 13 42 i = wv (vm M0) (aM M0) t h i) → am_WP E (am_WM E (d + 5)) am_L_X7_findWays Q 6 [aO 7 13, aI (nI t), aI (nI k), aU, aU, aU, aU, aU] [] M R := by
  have h8 := hF.1.1
  have h4 := hF.1.2.2.1
  intro m
  induction m with
  | zero =>
    intro k M hk hI hr
    have : k = 244 := by omega
    subst this
    exact w_X7_findWays_6 ⟨fun _ => hQ M hI hr, fun y => absurd (by decide) y⟩
  | succ m ih =>
    intro k M hk hI hr
    have hI1 := waI_42 (i := k) (v := -1) hI
    have e33 : (am_up M 13 42 k (-1)) 13 35 33 = nI h := by rw [hI1.2.2 33 (by omega)]; exact h5
    have eD : am_up M 13 42 k (-1) 13 4 0 = nI (sD (vm M0)) := by rw [hI1.1 13 4 (by simp [wyS])]; exact hF.1.2.2.2.1
    refine w_X7_findWays_6 ⟨fun y => absurd y (ix_ge (n := 244) (by omega) (by omega)), fun _ => ⟨by decide, by decide, ix_in (by omega) (by omega), ix_in (n := 33) (by omega) (by omega), ?_⟩⟩
    rw [ix_cl (n := k) (by omega), show Int32.toNatClampNeg 33 = 33 from rfl, e33, eD, n_rem4 (by omega), n_div4 (by omega), nI_1]
    have hskip : wyB (vm M0) (aM M0) t h k = false → am_WP E (am_WM E (d + 5)) am_L_X7_findWays Q 6 [aO 7 13, aI (nI t), aI (nI (k + 1)), aU, aU, aU, aU, aU] [] (am_up M 13 42 k (-1)) R := fun hw => by
      refine ih (k + 1) _ (by omega) hI1 (fun i hi => ?_)
      by_cases e : i = k
      · rw [e, up_s]; unfold wv; rw [hw]; rfl
      · rw [up_i e]; exact hr i (by omega)
    refine ⟨fun y => hskip ?_, fun y => ⟨fun x => hskip ?_, fun x => ?_⟩⟩
    · rw [nI_leI (by omega) (by omega)] at y
      exact wy_off (Or.inl y)
    · rw [nI_leI (by omega) (by omega)] at x
      exact wy_off (Or.inr x)
    · rw [nI_leI (by omega) (by omega)] at y x
      refine m_X7_knowers (d := d) hI1 hF h5 hh ht (by omega) (by omega) (by omega) (fun M2 hI2 e42 => kv ?_)
      refine fw65_loop (d := d + 4) hN8 hI2 hA (by omega) (fun M3 hI3 ho hk3 => ih (k + 1) M3 (by omega) hI3 (fun i hi => ?_)) (nA (aM M0)) 0 1 (by omega) (Or.inl ⟨rfl, fun j hj => absurd hj (by omega)⟩)
      by_cases e : i = k
      · rw [e, hk3]
        unfold wv wyB
        rw [decide_eq_true (show k / 4 < h by omega), decide_eq_true (show k % 4 < sD (vm M0) by omega)]
        rfl
      · rw [ho i e, e42, up_i e]; exact hr i (by omega)
theorem m_X7_findWays {M : am_M} {t h N : Nat} (hF : Wf (vm M)) (h5 : vm M 5 0 = nI h) (hh : h ≤ 99000) (ht : t < 8) (hN8 : N ≤ 8) (hA : WA (aM M) N) (hQ : ∀ M', waI M M' → (∀ i, i < 244 → M' 13 42 i = wv (vm M) (aM M) t h i) → Q none M' R) : am_WM E (d + 6) 157 [aO 7 13, aI (nI t)] M R Q := by
  refine w_X7_findWays (m_X7_save (fun M' hX hw => ⟨rfl, ?_⟩))
  exact fw_loop hF h5 hh ht hN8 hA hQ 244 0 M' (by omega) ⟨eqX_sub hX (by simp [wyS]), fun j _ => by rw [hX 13 11 (by simp)], hw⟩ (fun i hi => absurd hi (by omega))
theorem wv_neg {σ α : Sc} {t h i : Nat} (h8 : sN σ ≤ 8) : wv σ α t h i < 0 ↔ wyB σ α t h i = false := by
  unfold wv
  have hb := (bsN_ok (f := knB σ t h (i % 4) (i / 4)) (sN σ)).1
  have hp2 := p2_le h8
  cases hw : wyB σ α t h i with
  | true =>
    rw [if_pos rfl]
    exact ⟨fun y => absurd y (ix_lt (by omega)), fun y => by cases y⟩
  | false =>
    rw [if_neg (by decide)]
    exact ⟨fun _ => rfl, fun _ => by decide⟩
theorem came_loop {M : am_M} {W : Nat → Bool} {x : Int32} (hw : ∀ i, i < 244 → (M 13 42 i < 0 ↔ W i = false)) (hQ : Q (some (aI (caF W x))) M R) : ∀ (m k : Nat), k + m = 244 → (∀ i, i < k → wnB W x i = false) → am_WP E (am_WM E d) am_L_X7_came Q 20 [aO 7 13, aU, aI x, aI (nI (ctb W k)), aI (nI k)] [] M R := by
  intro m
  induction m with
  | zero =>
    intro k hk hn
    have : k = 244 := by omega
    subst this
    have hs : sF (wnB W x) 0 244 = none := sF_mkn (fun i _ hi => hn i (by omega))
    unfold caF at hQ
    rw [hs] at hQ
    dsimp only at hQ
    refine w_X7_came_20 ⟨fun _ => ⟨fun e => ?_, fun e => ?_⟩, fun y => absurd (by decide) y⟩
    · rw [if_neg e] at hQ; exact hQ
    · rw [if_pos e] at hQ; exact hQ
  | succ m ih =>
    intro k hk hn
    have hc := ctb_le (P := W) k
    refine w_X7_came_20 ⟨fun y => absurd y (ix_ge (n := 244) (by omega) (by omega)), fun _ => ⟨ix_in (by omega) (by omega), ?_⟩⟩
    rw [ix_cl (n := k) (by omega), hw k (by omega), n_rem4 (by omega), n_div4 (by omega), nI_1 k]
    have hstep : wnB W x k = false → ∀ i, i < k + 1 → wnB W x i = false := fun hf i hi => by
      by_cases e : i = k
      · rw [e]; exact hf
      · exact hn i (by omega)
    refine ⟨fun e => ?_, fun e => ⟨fun y => ?_, fun y => ⟨by decide, by decide, ?_⟩⟩⟩
    · rw [← ctb_f e]
      exact ih (k + 1) (by omega) (hstep (by unfold wnB; rw [e, Bool.false_and]))
    · have e' : W k = true := by
        cases h : W k with
        | true => rfl
        | false => exact absurd h e
      rw [nI_1, ← ctb_t e']
      exact ih (k + 1) (by omega) (hstep (by unfold wnB; rw [decide_eq_false y, Bool.and_false]))
    · have e' : W k = true := by
        cases h : W k with
        | true => rfl
        | false => exact absurd h e
      have hs : sF (wnB W x) 0 244 = some k := sF_mk (by unfold wnB; rw [e', decide_eq_true y]; rfl) (Nat.zero_le _) (by omega) (fun i _ hi => hn i hi)
      unfold caF at hQ
      rw [hs] at hQ
      dsimp only at hQ
      rw [show (10 : Int32) * nI (k / 4) = nI (10 * (k / 4)) from pk_mul 10 _, nI_add]
      exact hQ
theorem m_X7_came {M : am_M} {x1 x2 : Int32} {h N : Nat} (hF : Wf (vm M)) (h5 : vm M 5 0 = nI h) (hh : h ≤ 99000) (hN8 : N ≤ 8) (hA : WA (aM M) N) (hQ : ∀ M', eqX wyS M M' → (∀ j, j < 34 → M' 13 11 j = M 13 11 j) → Q (some (aI (caA (vm M) (aM M) x1 x2))) M' R) : am_WM E (d + 7) 158 [aO 7 13, aI x1, aI x2] M R Q := by
  have h8 := hF.1.1
  unfold caA at hQ
  refine w_X7_came (m_X7_isThing (fun t ht e => kv ⟨fun _ => ?_, fun q => absurd q (by decide)⟩) (fun a => kv ⟨fun q => absurd rfl q, fun _ => ?_⟩))
  · subst e
    rw [if_pos (inN_mk ht (by omega)), ix_cl (n := t) (by omega), h5, nI_clamp (by omega)] at hQ
    refine m_X7_findWays hF h5 hh ht hN8 hA (fun M' hI hr => ⟨rfl, ?_⟩)
    exact came_loop (W := wyB (vm M) (aM M) t h) (fun i hi => by rw [hr i hi]; exact wv_neg h8) (hQ M' hI.1 hI.2.1) 244 0 (by omega) (fun i hi => absurd hi (by omega))
  · rw [if_neg (inN_not a)] at hQ
    exact hQ M eqX_rfl (fun _ _ => rfl)
theorem nx19_loop {M : am_M} {W : Nat → Bool} (hw : ∀ i, i < 244 → (M 13 42 i < 0 ↔ W i = false)) (hK : am_WP E (am_WM E d) am_L_X7_next Q 57 [aO 7 13, aU, aI (nI (ctb W 244)), aI (-1), aI (nI (ctb W 244)), aI 0, aU, aU] [] M R) : ∀ (m k : Nat), k + m = 244 → am_WP E (am_WM E d) am_L_X7_next Q 19 [aO 7 13, aU, aI (nI (ctb W k)), aI (nI k), aU, aU, aU, aU] [] M R := by
  intro m
  induction m with
  | zero =>
    intro k hk
    have : k = 244 := by omega
    subst this
    exact w_X7_next_19 ⟨fun _ => hK, fun y => absurd (by decide) y⟩
  | succ m ih =>
    intro k hk
    refine w_X7_next_19 ⟨fun y => absurd y (ix_ge (n := 244) (by omega) (by omega)), fun _ => ⟨ix_in (by omega) (by omega), ?_⟩⟩
    rw [ix_cl (n := k) (by omega), hw k (by omega), nI_1 k, nI_1, Int32.add_zero]
    refine ⟨fun e => ?_, fun e => ?_⟩
    · rw [← ctb_f e]
      exact ih (k + 1) (by omega)
    · have e' : W k = true := by
        cases h : W k with
        | true => rfl
        | false => exact absurd h e
      rw [← ctb_t e']
      exact ih (k + 1) (by omega)
theorem nx72_loop {M : am_M} {W V : Nat → Bool} {p all l : Nat} {best : Int32} (hall : all ≤ 244) (hl : l ≤ 244) (hV : ∀ k, ctb V k ≤ all ∨ 244 < k) (hw : ∀ i, i < 244 → (M 13 42 i < 0 ↔ W i = false)) (hv : ∀ i, i < 244 → W i = true → bt (M 13 42 i) p = V i) (hv0 : ∀ i, W i = false → V i = false)
    (hK : am_WP E (am_WM E (d + 1)) am_L_X7_next Q 57 [aO 7 13, aU, aI (nI all), aI (if max (ctb V 244) (all - ctb V 244) < l then nI p else best), aI (nI (if max (ctb V 244) (all - ctb V 244) < l then max (ctb V 244) (all - ctb V 244) else l)), aI (nI (p + 1)), aU, aU] [] M R) : ∀ (m k : Nat), k + m = 244 → am_WP E (am_WM E (d + 1)) am_L_X7_next Q 72 [aO 7 13, aU, aI (nI all), aI best, aI (nI l), aI (nI p), aI (nI (ctb V k)), aI (nI k)] [] M R := by
  intro m
  induction m with
  | zero =>
    intro k hk
    have : k = 244 := by omega
    subst this
    have hle : ctb V 244 ≤ all := (hV 244).resolve_right (by omega)
    refine w_X7_next_72 ⟨fun _ => ?_, fun y => absurd (by decide) y⟩
    rw [pk_sub hle, nI_leI (by omega) (by omega), nI_leI (by omega) (by omega), nI_leI (by omega) (by omega), nI_1]
    generalize ctb V 244 = c at *
    refine ⟨fun e => ?_, fun e => ?_⟩
    · rw [Nat.max_eq_right e] at hK
      refine ⟨fun f => ⟨fun f2 => ?_, fun f2 => absurd f f2⟩, fun f => ⟨fun f2 => absurd f2 f, fun f2 => ?_⟩⟩
      · rw [if_neg (by omega), if_neg (by omega)] at hK; exact hK
      · rw [if_pos (by omega), if_pos (by omega)] at hK; exact hK
    · rw [Nat.max_eq_left (by omega)] at hK
      refine ⟨fun f => ⟨fun f2 => ?_, fun f2 => absurd f f2⟩, fun f => ⟨fun f2 => absurd f2 f, fun f2 => ?_⟩⟩
      · rw [if_neg (by omega), if_neg (by omega)] at hK; exact hK
      · rw [if_pos (by omega), if_pos (by omega)] at hK; exact hK
  | succ m ih =>
    intro k hk
    have hin : vp_in (nI k) 244 := ix_in (by omega) (by omega)
    refine w_X7_next_72 ⟨fun y => absurd y (ix_ge (n := 244) (by omega) (by omega)), fun _ => ⟨hin, ?_⟩⟩
    rw [ix_cl (n := k) (by omega), hw k (by omega), nI_1 k, nI_1 (ctb V k), Int32.add_zero]
    refine ⟨fun e => ?_, fun e => ⟨hin, ?_⟩⟩
    · rw [← ctb_f (hv0 k e)]
      exact ih (k + 1) (by omega)
    · have e' : W k = true := by
        cases h : W k with
        | true => rfl
        | false => exact absurd h e
      refine m_X7_has (fun hb => k1e ?_) (fun hb => k0e ?_)
      · rw [hv k (by omega) e'] at hb
        rw [← ctb_t hb]
        exact ih (k + 1) (by omega)
      · rw [hv k (by omega) e'] at hb
        rw [← ctb_f hb]
        exact ih (k + 1) (by omega)
theorem nx57_loop {M : am_M} {W : Nat → Bool} {V : Nat → Nat → Bool} {N all : Nat} {v : Int32} (hN : N ≤ 8) (hn : M 13 2 0 = nI N) (hall : all ≤ 244) (hV : ∀ p k, ctb (V p) k ≤ all ∨ 244 < k) (hw : ∀ i, i < 244 → (M 13 42 i < 0 ↔ W i = false)) (hv : ∀ p i, p < N → i < 244 → W i = true → bt (M 13 42 i) p = V p i) (hv0 : ∀ p i, W i = false → V p i = false) (hQ : Q (some (aI v)) M R) : ∀ (m p : Nat) (best : Int32) (l : Nat), p + m = N → l ≤ 244 → nxL (fun p => ctb (V p) 244) all m p best l = v → am_WP E (am_WM E (d + 1)) am_L_X7_next Q 57 [aO 7 13, aU, aI (nI all), aI best, aI (nI l), aI (nI p), aU, aU] [] M R := by
  intro m
  induction m with
  | zero =>
    intro p best l hp hl he
    refine w_X7_next_57 ?_
    rw [hn]
    refine ⟨fun _ => ?_, fun y => absurd (ix_le (by omega) (by omega)) y⟩
    rw [show best = v from he]; exact hQ
  | succ m ih =>
    intro p best l hp hl he
    refine w_X7_next_57 ?_
    rw [hn]
    refine ⟨fun y => absurd y (ix_ge (by omega) (by omega)), fun _ => nx72_loop hall hl (hV p) hw (fun i hi hW => hv p i (by omega) hi hW) (hv0 p) ?_ 244 0 (by omega)⟩
    unfold nxL at he
    have h244 := (hV p 244).resolve_right (by omega)
    by_cases e : max (ctb (V p) 244) (all - ctb (V p) 244) < l
    · rw [if_pos e] at he
      rw [if_pos e, if_pos e]
      exact ih (p + 1) _ _ (by omega) (by omega) he
    · rw [if_neg e] at he
      rw [if_neg e, if_neg e]
      exact ih (p + 1) _ _ (by omega) hl he
theorem ctb_mono {P : Nat → Bool} {k : Nat} : ∀ j, ctb P k ≤ ctb P (k + j)
  | 0 => Nat.le_refl _
  | j + 1 => Nat.le_trans (ctb_mono j) (Nat.le_add_right _ _)
theorem m_X7_next {M : am_M} {x1 : Int32} {h N : Nat} (hF : Wf (vm M)) (h5 : vm M 5 0 = nI h) (hh : h ≤ 99000) (hN8 : N ≤ 8) (hA : WA (aM M) N) (hQ : ∀ M', eqX wyS M M' → (∀ j, j < 34 → M' 13 11 j = M 13 11 j) → Q (some (aI (nxA (vm M) (aM M) x1))) M' R) : am_WM E (d + 7) 159 [aO 7 13, aI x1] M R Q := by
  have h8 := hF.1.1
  have hp2 := p2_le h8
  unfold nxA at hQ
  refine w_X7_next (m_X7_isThing (fun t ht e => kv ⟨fun _ => ?_, fun q => absurd q (by decide)⟩) (fun a => kv ⟨fun q => absurd rfl q, fun _ => ?_⟩))
  · subst e
    rw [if_pos (inN_mk ht (by omega)), ix_cl (n := t) (by omega), h5, nI_clamp (by omega)] at hQ
    refine m_X7_findWays hF h5 hh ht hN8 hA (fun M' hI hr => ⟨rfl, ?_⟩)
    have hw : ∀ i, i < 244 → (M' 13 42 i < 0 ↔ wyB (vm M) (aM M) t h i = false) := fun i hi => by rw [hr i hi]; exact wv_neg h8
    refine nx19_loop hw ?_ 244 0 (by omega)
    refine nx57_loop (W := wyB (vm M) (aM M) t h) (V := kwB (vm M) (aM M) t h) h8 (by rw [hI.1 13 2 (by simp [wyS])]; exact hF.1.2.1) (ctb_le 244) (fun p k => ?_) hw (fun p i hp hi hW => ?_) (fun p i hW => kw_off hW) (hQ M' hI.1 hI.2.1) (sN (vm M)) 0 (-1) _ (by omega) (ctb_le 244) rfl
    · by_cases e : k ≤ 244
      · refine Or.inl (Nat.le_trans kw_le ?_)
        have := ctb_mono (P := wyB (vm M) (aM M) t h) (k := k) (244 - k)
        rw [show k + (244 - k) = 244 from by omega] at this
        exact this
      · exact Or.inr (by omega)
    · rw [hr i hi]
      unfold wv
      have hb := (bsN_ok (f := knB (vm M) t h (i % 4) (i / 4)) (sN (vm M))).1
      rw [if_pos hW, bt_nI (by omega) (by omega), (bsN_ok (f := knB (vm M) t h (i % 4) (i / 4)) (sN (vm M))).2 p hp]
      unfold kwB
      rw [hW, Bool.true_and]
  · rw [if_neg (inN_not a)] at hQ
    exact hQ M eqX_rfl (fun _ _ => rfl)
end MCame
