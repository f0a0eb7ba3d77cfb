/-! chains are short: at most one picture twice never -/
theorem fb_holes : ∀ (m n : Nat) (f : Nat → Nat), (∀ i, i < n → f i < m) → (∀ i j, i < j → j < n → f i ≠ f j) → n ≤ m := by
  intro m
  induction m with
  | zero =>
    intro n f h1 _
    rcases Nat.eq_zero_or_pos n with h | h
    · omega
    · exact absurd (h1 0 h) (Nat.not_lt_zero _)
  | succ m ih =>
    intro n f h1 h2
    by_cases hx : ∃ i, i < n ∧ f i = m
    · obtain ⟨a, ha, hfa⟩ := hx
      have hg := ih (n - 1) (fun i => if i < a then f i else f (i + 1)) (by
        intro i hi
        by_cases q : i < a
        · simp only [if_pos q]
          have b1 := h1 i (by omega)
          have b2 := h2 i a q ha
          omega
        · simp only [if_neg q]
          have b1 := h1 (i + 1) (by omega)
          have b2 := h2 a (i + 1) (by omega) (by omega)
          omega) (by
        intro i j hij hj
        by_cases q : i < a
        · by_cases r : j < a
          · simp only [if_pos q, if_pos r]
            exact h2 i j hij (by omega)
          · simp only [if_pos q, if_neg r]
            exact h2 i (j + 1) (by omega) (by omega)
        · have r : ¬ j < a := by omega
          simp only [if_neg q, if_neg r]
          exact h2 (i + 1) (j + 1) (by omega) (by omega))
      omega
    · have hg := ih n f (fun i hi => by
        have b1 := h1 i hi
        have b2 : f i ≠ m := fun e => hx ⟨i, hi, e⟩
        omega) h2
      omega
def nxF (σ : Sc) (p : Nat) : Nat := (srcF σ p).toNatClampNeg
def psP (σ : Sc) (t p : Nat) : Prop := ¬ bt (σ 14 p) t = true ∧ bt (openF σ p) t = true ∧ ¬ srcF σ p < 0 ∧ srcF σ p < 10
theorem uF_ps {σ : Sc} {t h f p : Nat} (hp : psP σ t p) : uF σ t h (f + 1) p = (uF σ t h f (nxF σ p)).map (· + 1) := by
  conv => lhs; unfold uF
  rw [if_neg hp.1, if_pos hp.2.1, if_neg hp.2.2.1, if_pos hp.2.2.2]
  rfl
theorem uF_np {σ : Sc} {t h f g p : Nat} (hp : ¬ psP σ t p) : uF σ t h (f + 1) p = uF σ t h (g + 1) p := by
  unfold uF
  by_cases h1 : bt (σ 14 p) t = true
  · rw [if_pos h1, if_pos h1]
  · rw [if_neg h1, if_neg h1]
    by_cases h2 : bt (openF σ p) t = true
    · rw [if_pos h2, if_pos h2]
      by_cases h3 : srcF σ p < 0
      · rw [if_pos h3, if_pos h3]
      · rw [if_neg h3, if_neg h3]
        by_cases h4 : srcF σ p < 10
        · exact absurd ⟨h1, h2, h3, h4⟩ hp
        · rw [if_neg h4, if_neg h4]
    · rw [if_neg h2, if_neg h2]
theorem uF_succ {σ : Sc} {t h : Nat} : ∀ (f p u : Nat), uF σ t h f p = some u → uF σ t h (f + 1) p = some u
  | 0, _, _, hu => by cases hu
  | f + 1, p, u, hu => by
    by_cases hp : psP σ t p
    · rw [uF_ps hp] at hu ⊢
      cases hv : uF σ t h f (nxF σ p) with
      | none => rw [hv] at hu; cases hu
      | some v => rw [uF_succ f _ v hv]; rw [hv] at hu; exact hu
    · rw [uF_np (g := f) hp]; exact hu
theorem uF_mono {σ : Sc} {t h f p u : Nat} (hu : uF σ t h f p = some u) : ∀ k, uF σ t h (f + k) p = some u
  | 0 => hu
  | k + 1 => uF_succ _ _ _ (uF_mono hu k)
theorem uF_le {σ : Sc} {t h f g p u : Nat} (hu : uF σ t h f p = some u) (hfg : f ≤ g) : uF σ t h g p = some u := by
  have := uF_mono hu (g - f)
  rw [show f + (g - f) = g from by omega] at this
  exact this
def itF (σ : Sc) (p : Nat) : Nat → Nat
  | 0 => p
  | i + 1 => nxF σ (itF σ p i)
theorem nxF_lt {σ : Sc} {t p : Nat} (h8 : sN σ ≤ 8) (h4 : sD σ ≤ 4) (hp : psP σ t p) : nxF σ p < sN σ := by
  unfold nxF
  rcases srcF_cases σ p h8 h4 with es | ⟨q, hq, es, -⟩ | ⟨q, hq, es, -⟩
  · have := hp.2.2.1
    rw [es] at this
    exact absurd (by decide) this
  · rw [es, ix_cl (by omega)]; exact hq
  · have := hp.2.2.2
    rw [es] at this
    exact absurd this (nI_nlt (b := 10) (by omega) (by omega))
theorem chain_at {σ : Sc} {t h p f : Nat} (h8 : sN σ ≤ 8) (h4 : sD σ ≤ 4) (hp : p < sN σ) (h1 : uF σ t h (f + 1) p ≠ none) (h2 : uF σ t h f p = none) : ∀ i, i ≤ f → itF σ p i < sN σ ∧ uF σ t h (f + 1 - i) (itF σ p i) ≠ none ∧ uF σ t h (f - i) (itF σ p i) = none
  | 0, _ => ⟨hp, h1, h2⟩
  | i + 1, hi => by
    obtain ⟨a1, a2, a3⟩ := chain_at h8 h4 hp h1 h2 i (by omega)
    have hps : psP σ t (itF σ p i) := by
      by_cases q : psP σ t (itF σ p i)
      · exact q
      · exfalso
        rw [show f + 1 - i = (f - i) + 1 from by omega, uF_np (g := f - i - 1) q, show f - i - 1 + 1 = f - i from by omega] at a2
        exact a2 a3
    rw [show f + 1 - i = (f - i) + 1 from by omega, uF_ps hps] at a2
    rw [show f - i = (f - (i + 1)) + 1 from by omega, uF_ps hps] at a3
    refine ⟨nxF_lt h8 h4 hps, ?_, ?_⟩
    · show uF σ t h (f + 1 - (i + 1)) (nxF σ (itF σ p i)) ≠ none
      rw [show f + 1 - (i + 1) = f - i from by omega]
      intro e
      rw [e] at a2
      exact a2 rfl
    · show uF σ t h (f - (i + 1)) (nxF σ (itF σ p i)) = none
      cases e : uF σ t h (f - (i + 1)) (nxF σ (itF σ p i)) with
      | none => rfl
      | some v => rw [e] at a3; cases a3
theorem chain_short {σ : Sc} {t h p f : Nat} (h8 : sN σ ≤ 8) (h4 : sD σ ≤ 4) (hp : p < sN σ) (h1 : uF σ t h (f + 1) p ≠ none) (h2 : uF σ t h f p = none) : f + 1 ≤ sN σ := by
  refine fb_holes (sN σ) (f + 1) (itF σ p) (fun i hi => (chain_at h8 h4 hp h1 h2 i (by omega)).1) (fun i j hij hj e => ?_)
  have b1 := (chain_at h8 h4 hp h1 h2 i (by omega)).2.2
  have b2 := (chain_at h8 h4 hp h1 h2 j (by omega)).2.1
  cases hv : uF σ t h (f + 1 - j) (itF σ p j) with
  | none => exact b2 hv
  | some v =>
    rw [← e] at hv
    rw [uF_le hv (by omega)] at b1
    cases b1
theorem uF_9 {σ : Sc} {t h p u : Nat} (h8 : sN σ ≤ 8) (h4 : sD σ ≤ 4) (hp : p < sN σ) : ∀ f, uF σ t h f p = some u → uF σ t h 8 p = some u
  | 0, hu => by cases hu
  | f + 1, hu => by
    cases hv : uF σ t h f p with
    | some v =>
      have := uF_succ f p v hv
      rw [hu] at this
      cases this
      exact uF_9 h8 h4 hp f hv
    | none =>
      have := chain_short h8 h4 hp (by rw [hu]; exact fun z => by cases z) hv
      exact uF_le hu (by omega)
/-- THE BRIDGE -/
theorem kn_iff {σ : Sc} {h : Nat} (hF : Wf σ) (h5 : σ 5 0 = nI h) {t k p : Nat} (ht : t < 8) (hp : p < sN σ) (hk : h + k ≤ 100000) : kn σ t k p = true ↔ ∃ u, uF σ t h 9 p = some u ∧ u ≤ k := by
  constructor
  · intro q
    obtain ⟨f, u, hu⟩ := kn_ex hF h5 ht k p hp hk q
    have h8 := uF_9 hF.1.1 hF.1.2.2.1 hp f hu
    exact ⟨u, uF_le h8 (by omega), (kn_u hF h5 ht f p u hp hu k hk).mp q⟩
  · rintro ⟨u, hu, hle⟩
    exact (kn_u hF h5 ht 9 p u hp hu k hk).mpr hle
