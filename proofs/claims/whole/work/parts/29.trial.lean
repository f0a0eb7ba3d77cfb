/-! the reference: what is tried -/
theorem vm_now {M M' : am_M} (h11 : ∀ j, j < 34 → M' 13 11 j = M 13 11 j) (hk : ∀ k, k ≤ 12 → k ≠ 11 → M' 13 k = M 13 k) (h8 : sN (vm M) ≤ 8) : vm M' = vm M := by
  have hlt : ∀ i, i < (M 13 2 0).toNatClampNeg → i < 8 := fun i hi => Nat.lt_of_lt_of_le hi h8
  have e2 : M' 13 2 = M 13 2 := hk 2 (by omega) (by omega)
  have r : ∀ b, b ≤ 24 → tr (M' 13 2 0).toNatClampNeg (fun j => M' 13 11 (b + j)) = tr (M 13 2 0).toNatClampNeg (fun j => M 13 11 (b + j)) := fun b hb => by
    rw [e2]
    exact tr_eq (fun i hi => h11 (b + i) (by have := hlt i hi; omega))
  have r0 : tr (M' 13 2 0).toNatClampNeg (fun j => M' 13 11 j) = tr (M 13 2 0).toNatClampNeg (fun j => M 13 11 j) := by
    rw [e2]
    exact tr_eq (fun i hi => h11 i (by have := hlt i hi; omega))
  funext f j
  unfold vm
  rw [r0, r 8 (by omega), r 16 (by omega), r 24 (by omega), h11 33 (by omega), h11 32 (by omega), hk 0 (by omega) (by omega), hk 1 (by omega) (by omega), e2, hk 3 (by omega) (by omega), hk 4 (by omega) (by omega), hk 5 (by omega) (by omega), hk 6 (by omega) (by omega), hk 7 (by omega) (by omega), hk 8 (by omega) (by omega), hk 9 (by omega) (by omega), hk 10 (by omega) (by omega), hk 12 (by omega) (by omega)]
/-- all of a set know a thing behind k hours -/
def aK (σ : Sc) (set : Int32) (t k : Nat) : Bool := (List.range (sN σ)).all (fun q => !bt set q || kn σ t k q)
theorem aK_iff {σ : Sc} {set : Int32} {t k : Nat} : aK σ set t k = true ↔ ∀ q, q < sN σ → bt set q = true → kn σ t k q = true := by
  unfold aK
  rw [List.all_eq_true]
  constructor
  · intro h q hq hb
    have := h q (List.mem_range.mpr hq)
    rw [hb] at this
    simpa using this
  · intro h q hq
    cases hb : bt set q with
    | false => rfl
    | true => rw [h q (List.mem_range.mp hq) hb]; rfl
def htF (σ : Sc) (set : Int32) (t : Nat) : Int32 := match sF (fun k => aK σ set t k) 0 61 with | some k => nI k | none => -1
/-- one knows it behind n hours, of a set nobody -/
def soP (σ : Sc) (p t : Nat) (set : Int32) (n : Nat) : Prop := kn σ t n p = true ∧ ∀ q, q < sN σ → bt set q = true → kn σ t n q = false
section Trial
variable {E : Nat → Nat → Int32} {d : Nat} {Q : am_Q} {R : am_R}
theorem save_loop {M0 : am_M} : ∀ (k i : Nat) (M : am_M), i + k = 34 → eqX [(13, 35)] M0 M → (∀ j, j < i → M 13 35 j = M0 13 11 j) → (∀ M', eqX [(13, 35)] M0 M' → (∀ j, j < 34 → M' 13 35 j = M0 13 11 j) → Q none M' R) → am_WP E (am_WM E d) am_L_X7_save Q 2 [aO 7 13, aI (nI i)] [] M R := by
  intro k
  induction k with
  | zero =>
    intro i M hi hX ha h
    exact w_X7_save_2 ⟨fun _ => h M hX (fun j hj => ha j (by omega)), fun q => absurd (ix_le (n := 34) (by omega) (by omega)) q⟩
  | succ k ih =>
    intro i M hi hX ha h
    refine w_X7_save_2 ⟨fun q => absurd q (ix_ge (n := 34) (by omega) (by omega)), fun _ => ⟨ix_in (by omega) (by omega), ix_in (by omega) (by omega), ?_⟩⟩
    rw [ix_cl (by omega), nI_1]
    refine ih (i + 1) _ (by omega) (eqX_up hX (by simp)) (fun j hj => ?_) h
    by_cases e : j = i
    · subst e
      rw [up_s, hX 13 11 (by simp)]
    · rw [up_i e]
      exact ha j (by omega)
theorem m_X7_save {M : am_M} (h : ∀ M', eqX [(13, 35)] M M' → (∀ j, j < 34 → M' 13 35 j = M 13 11 j) → Q none M' R) : am_WM E (d + 1) 140 [aO 7 13] M R Q := by
  refine w_X7_save ?_
  exact save_loop 34 0 M (by omega) eqX_rfl (fun j hj => absurd hj (by omega)) h
theorem putBack_loop {M0 : am_M} : ∀ (k i : Nat) (M : am_M), i + k = 34 → eqX [(13, 11)] M0 M → (∀ j, j < i → M 13 11 j = M0 13 35 j) → (∀ M', eqX [(13, 11)] M0 M' → (∀ j, j < 34 → M' 13 11 j = M0 13 35 j) → Q none M' R) → am_WP E (am_WM E d) am_L_X7_putBack Q 2 [aO 7 13, aI (nI i)] [] M R := by
  intro k
  induction k with
  | zero =>
    intro i M hi hX ha h
    exact w_X7_putBack_2 ⟨fun _ => h M hX (fun j hj => ha j (by omega)), fun q => absurd (ix_le (n := 34) (by omega) (by omega)) q⟩
  | succ k ih =>
    intro i M hi hX ha h
    refine w_X7_putBack_2 ⟨fun q => absurd q (ix_ge (n := 34) (by omega) (by omega)), fun _ => ⟨ix_in (by omega) (by omega), ix_in (by omega) (by omega), ?_⟩⟩
    rw [ix_cl (by omega), nI_1]
    refine ih (i + 1) _ (by omega) (eqX_up hX (by simp)) (fun j hj => ?_) h
    by_cases e : j = i
    · subst e
      rw [up_s, hX 13 35 (by simp)]
    · rw [up_i e]
      exact ha j (by omega)
theorem m_X7_putBack {M : am_M} (h : ∀ M', eqX [(13, 11)] M M' → (∀ j, j < 34 → M' 13 11 j = M 13 35 j) → Q none M' R) : am_WM E (d + 1) 141 [aO 7 13] M R Q := by
  refine w_X7_putBack ?_
  exact putBack_loop 34 0 M (by omega) eqX_rfl (fun j hj => absurd hj (by omega)) h
theorem knowAll_loop {M : am_M} {set : Int32} {t : Nat} (hF : Wg (vm M)) (h1 : (∀ q, q < sN (vm M) → bt set q = true → bt (vm M 14 q) t = true) → Q (some (aI 1)) M R) (h0 : ¬ (∀ q, q < sN (vm M) → bt set q = true → bt (vm M 14 q) t = true) → Q (some (aI 0)) M R) : ∀ (k i : Nat) (b : Int32), i + k = sN (vm M) → ((b = 1 ∧ ∀ q, q < i → bt set q = true → bt (vm M 14 q) t = true) ∨ (b = 0 ∧ ¬ ∀ q, q < sN (vm M) → bt set q = true → bt (vm M 14 q) t = true)) → am_WP E (am_WM E (d + 1)) am_L_X7_knowAll Q 5 [aO 7 13, aI set, aI (nI t), aI b, aI (nI i)] [] M R := by
  have h8 := hF.1
  have hn : M 13 2 0 = nI (sN (vm M)) := hF.2.1
  intro k
  induction k with
  | zero =>
    intro i b hi hb
    refine w_X7_knowAll_5 ?_
    rw [hn]
    have : i = sN (vm M) := by omega
    subst this
    refine ⟨fun _ => ?_, fun q => absurd (ix_le (by omega) (by omega)) q⟩
    rcases hb with ⟨rfl, ha⟩ | ⟨rfl, ha⟩
    · exact ret1 (h1 ha)
    · exact ret0 (h0 ha)
  | succ k ih =>
    intro i b hi hb
    refine w_X7_knowAll_5 ?_
    rw [hn, show (24 : Int32) + nI i = nI (24 + i) from nI_add 24 i, ix_cl (by omega), nI_1]
    refine ⟨fun q => absurd q (ix_ge (by omega) (by omega)), fun _ => ?_⟩
    have e14 : M 13 11 (24 + i) = vm M 14 i := (tr_lt (f := fun j => M 13 11 (24 + j)) (show i < sN (vm M) by omega)).symm
    rcases hb with ⟨rfl, ha⟩ | ⟨rfl, ha⟩
    · refine ⟨fun q => absurd q (by decide), fun _ => m_X7_has (fun c => k1e ⟨ix_in (by omega) (by omega), m_X7_has (fun c2 => k1e ?_) (fun c2 => k0e ?_)⟩) (fun c => k0e ?_)⟩
      · rw [e14] at c2
        refine ih (i + 1) 1 (by omega) (Or.inl ⟨rfl, fun q hq hs => ?_⟩)
        by_cases e : q = i
        · subst e; exact c2
        · exact ha q (by omega) hs
      · rw [e14] at c2
        refine ih (i + 1) 0 (by omega) (Or.inr ⟨rfl, fun z => ?_⟩)
        rw [z i (by omega) c] at c2
        cases c2
      · refine ih (i + 1) 1 (by omega) (Or.inl ⟨rfl, fun q hq hs => ?_⟩)
        by_cases e : q = i
        · subst e; rw [c] at hs; cases hs
        · exact ha q (by omega) hs
    · exact ⟨fun _ => ih (i + 1) 0 (by omega) (Or.inr ⟨rfl, ha⟩), fun q => absurd rfl q⟩
theorem m_X7_knowAll {M : am_M} {set : Int32} {t : Nat} (hF : Wg (vm M)) (h1 : (∀ q, q < sN (vm M) → bt set q = true → bt (vm M 14 q) t = true) → Q (some (aI 1)) M R) (h0 : ¬ (∀ q, q < sN (vm M) → bt set q = true → bt (vm M 14 q) t = true) → Q (some (aI 0)) M R) : am_WM E (d + 2) 142 [aO 7 13, aI set, aI (nI t)] M R Q := by
  refine w_X7_knowAll ?_
  exact knowAll_loop hF h1 h0 (sN (vm M)) 0 1 (by omega) (Or.inl ⟨rfl, fun q hq => absurd hq (by omega)⟩)
def trS : List (Nat × Nat) := [(13, 11), (13, 34), (13, 35)]
theorem till_loop {M0 : am_M} {set : Int32} {t h : Nat} (hF : Wf (vm M0)) (h5 : vm M0 5 0 = nI h) (hQ : ∀ M', eqX trS M0 M' → (∀ j, j < 34 → M' 13 11 j = M0 13 11 j) → Q (some (aI (htF (vm M0) set t))) M' R) : ∀ (k i : Nat) (M : am_M), i + k = 61 → eqX trS M0 M → vm M = pN (vm M0) i → (∀ j, j < 34 → M 13 35 j = M0 13 11 j) → (∀ j, j < i → aK (vm M0) set t j = false) → am_WP E (am_WM E (d + 5)) am_L_X7_hoursTill Q 6 [aO 7 13, aI set, aI (nI t), aI (nI i)] [] M R := by
  have hback : ∀ (M : am_M) (r : Int32), eqX trS M0 M → (∀ j, j < 34 → M 13 35 j = M0 13 11 j) → r = htF (vm M0) set t → ∀ {Q' : am_Q}, (∀ M', Q (some (aI r)) M' R → Q' none M' R) → am_WM E (d + 5) 141 [aO 7 13] M R Q' := by
    intro M r hX hw hr Q' hq
    refine m_X7_putBack (fun M' hX' hw' => hq M' ?_)
    rw [hr]
    exact hQ M' (eqX_tr hX (eqX_sub hX' (by simp [trS]))) (fun j hj => by rw [hw' j hj]; exact hw j hj)
  intro k
  induction k with
  | zero =>
    intro i M hi hX hv hw hno
    have : i = 61 := by omega
    subst this
    refine w_X7_hoursTill_6 ⟨fun _ => hback M (-1) hX hw ?_ (fun M' hm => ⟨rfl, fun _ => hm, fun q => absurd (by decide) q⟩), fun q => absurd (by decide) q⟩
    unfold htF
    cases hs : sF (fun k => aK (vm M0) set t k) 0 61 with
    | none => rfl
    | some v =>
      obtain ⟨-, h2, h3, -⟩ := sF_some hs
      rw [hno v (by omega)] at h3
      cases h3
  | succ k ih =>
    intro i M hi hX hv hw hno
    have hFM : Wg (vm M) := by rw [hv]; exact Wg_congr (fun f a b _ => (pN_off a b i).symm) hF.1
    have hN : sN (vm M) = sN (vm M0) := by rw [hv, pN_sN]
    have hlt : ¬ (60 : Int32) < nI i := nI_nlt (a := 60) (by omega) (by omega)
    refine w_X7_hoursTill_6 ⟨fun q => absurd q hlt, fun _ => m_X7_knowAll hFM (fun c => k1n ?_) (fun c => k0n ?_)⟩
    · refine hback M (nI i) hX hw ?_ (fun M' hm => ⟨rfl, fun q => absurd q hlt, fun _ => hm⟩)
      have ha : aK (vm M0) set t i = true := aK_iff.mpr (fun q hq hs => by
        have := c q (by omega) hs
        rw [hv] at this
        exact this)
      unfold htF
      cases hs : sF (fun k => aK (vm M0) set t k) 0 61 with
      | none =>
        have := sF_none hs i (Nat.zero_le _) (by omega)
        rw [ha] at this
        cases this
      | some v =>
        obtain ⟨-, h2, h3, h4⟩ := sF_some hs
        show nI i = nI v
        congr 1
        rcases Nat.lt_trichotomy i v with y | y | y
        · rw [h4 i (Nat.zero_le _) y] at ha; cases ha
        · exact y
        · rw [hno v y] at h3; cases h3
    · refine m_X7_pass hFM (fun M' hX' hv' => ⟨rfl, ?_⟩)
      rw [nI_1]
      refine ih (i + 1) M' (by omega) (eqX_tr hX (eqX_sub hX' (by simp [trS]))) (by rw [hv', hv]; rfl) (fun j hj => by rw [hX' 13 35 (by simp)]; exact hw j hj) (fun j hj => ?_)
      by_cases e : j = i
      · subst e
        rw [Bool.eq_false_iff]
        intro ha
        refine c (fun q hq hs => ?_)
        rw [hv]
        exact aK_iff.mp ha q (by omega) hs
      · exact hno j (by omega)
theorem m_X7_hoursTill {M : am_M} {set : Int32} {t h : Nat} (hF : Wf (vm M)) (h5 : vm M 5 0 = nI h) (hQ : ∀ M', eqX trS M M' → (∀ j, j < 34 → M' 13 11 j = M 13 11 j) → Q (some (aI (htF (vm M) set t))) M' R) : am_WM E (d + 6) 143 [aO 7 13, aI set, aI (nI t)] M R Q := by
  refine w_X7_hoursTill (m_X7_save (fun M' hX hw => ⟨rfl, ?_⟩))
  refine till_loop hF h5 hQ 61 0 M' (by omega) (eqX_sub hX (by simp [trS])) (vm_off hX (fun k hk => by simp; omega)) hw (fun j hj => absurd hj (by omega))
theorem so_loop2 {M : am_M} {set : Int32} {t : Nat} {P : Prop} (hF : Wg (vm M)) (h1 : P ∧ (∀ q, q < sN (vm M) → bt set q = true → bt (vm M 14 q) t = false) → Q (some (aI 1)) M R) (h0 : ¬ (P ∧ (∀ q, q < sN (vm M) → bt set q = true → bt (vm M 14 q) t = false)) → Q (some (aI 0)) M R) : ∀ (k i : Nat) (b : Int32), i + k = sN (vm M) → ((b = 1 ∧ P ∧ ∀ q, q < i → bt set q = true → bt (vm M 14 q) t = false) ∨ (b = 0 ∧ ¬ (P ∧ (∀ q, q < sN (vm M) → bt set q = true → bt (vm M 14 q) t = false)))) → am_WP E (am_WM E (d + 1)) am_L_X7_isSo Q 38 [aO 7 13, aU, aI (nI t), aI set, aU, aI b, aI (nI i)] [] M R := by
  have h8 := hF.1
  have hn : M 13 2 0 = nI (sN (vm M)) := hF.2.1
  intro k
  induction k with
  | zero =>
    intro i b hi hb
    refine w_X7_isSo_38 ?_
    rw [hn]
    have : i = sN (vm M) := by omega
    subst this
    refine ⟨fun _ => ?_, fun q => absurd (ix_le (by omega) (by omega)) q⟩
    rcases hb with ⟨rfl, ha⟩ | ⟨rfl, ha⟩
    · exact ret1 (h1 ha)
    · exact ret0 (h0 ha)
  | succ k ih =>
    intro i b hi hb
    refine w_X7_isSo_38 ?_
    rw [hn, show (24 : Int32) + nI i = nI (24 + i) from nI_add 24 i, ix_cl (by omega), nI_1]
    refine ⟨fun q => absurd q (ix_ge (by omega) (by omega)), fun _ => ?_⟩
    have e14 : M 13 11 (24 + i) = vm M 14 i := (tr_lt (f := fun j => M 13 11 (24 + j)) (show i < sN (vm M) by omega)).symm
    rcases hb with ⟨rfl, hp, ha⟩ | ⟨rfl, ha⟩
    · refine ⟨fun q => absurd q (by decide), fun _ => m_X7_has (fun c => k1e ⟨ix_in (by omega) (by omega), m_X7_has (fun c2 => k1n ?_) (fun c2 => k0n ?_)⟩) (fun c => k0e ?_)⟩
      · rw [e14] at c2
        refine ih (i + 1) 0 (by omega) (Or.inr ⟨rfl, fun z => ?_⟩)
        rw [z.2 i (by omega) c] at c2
        cases c2
      · rw [e14] at c2
        refine ih (i + 1) 1 (by omega) (Or.inl ⟨rfl, hp, fun q hq hs => ?_⟩)
        by_cases e : q = i
        · subst e; exact c2
        · exact ha q (by omega) hs
      · refine ih (i + 1) 1 (by omega) (Or.inl ⟨rfl, hp, fun q hq hs => ?_⟩)
        by_cases e : q = i
        · subst e; rw [c] at hs; cases hs
        · exact ha q (by omega) hs
    · exact ⟨fun _ => ih (i + 1) 0 (by omega) (Or.inr ⟨rfl, ha⟩), fun q => absurd rfl q⟩
theorem so_loop1 {M0 : am_M} {set : Int32} {p t n : Nat} (hF : Wf (vm M0)) (hp : p < sN (vm M0)) (hn60 : n ≤ 60) (h1 : ∀ M', eqX [(13, 11), (13, 34)] M0 M' → soP (vm M0) p t set n → Q (some (aI 1)) M' R) (h0 : ∀ M', eqX [(13, 11), (13, 34)] M0 M' → ¬ soP (vm M0) p t set n → Q (some (aI 0)) M' R) : ∀ (k i : Nat) (M : am_M), i + k = n → eqX [(13, 11), (13, 34)] M0 M → vm M = pN (vm M0) i → am_WP E (am_WM E (d + 5)) am_L_X7_isSo Q 3 [aO 7 13, aI (nI p), aI (nI t), aI set, aI (nI n), aI (nI i), aU] [] M R := by
  have h8 := hF.1.1
  intro k
  induction k with
  | zero =>
    intro i M hi hX hv
    have : i = n := by omega
    subst this
    have hFM : Wg (vm M) := by rw [hv]; exact Wg_congr (fun f a b _ => (pN_off a b i).symm) hF.1
    have hN : sN (vm M) = sN (vm M0) := by rw [hv, pN_sN]
    refine w_X7_isSo_3 ?_
    rw [show (24 : Int32) + nI p = nI (24 + p) from nI_add 24 p, ix_cl (by omega)]
    have e14 : M 13 11 (24 + p) = vm M 14 p := (tr_lt (f := fun j => M 13 11 (24 + j)) (show p < sN (vm M) by omega)).symm
    rw [e14]
    have key : ∀ b : Int32, ((b = 1 ∧ bt (vm M 14 p) t = true) ∨ (b = 0 ∧ ¬ bt (vm M 14 p) t = true)) → am_WP E (am_WM E (d + 5)) am_L_X7_isSo Q 38 [aO 7 13, aU, aI (nI t), aI set, aU, aI b, aI 0] [] M R := by
      intro b hb
      refine so_loop2 (P := bt (vm M 14 p) t = true) hFM (fun c => h1 M hX ?_) (fun c => h0 M hX (fun z => c ?_)) (sN (vm M)) 0 b (by omega) ?_
      · unfold soP kn
        rw [← hv, ← hN]
        exact c
      · unfold soP kn at z
        rw [← hv, ← hN] at z
        exact z
      · rcases hb with ⟨rfl, hb⟩ | ⟨rfl, hb⟩
        · exact Or.inl ⟨rfl, hb, fun q hq => absurd hq (by omega)⟩
        · exact Or.inr ⟨rfl, fun z => hb z.1⟩
    refine ⟨fun _ => ⟨ix_in (by omega) (by omega), m_X7_has (fun c => kv (key 1 (Or.inl ⟨rfl, c⟩))) (fun c => kv (key 0 (Or.inr ⟨rfl, by rw [c]; decide⟩)))⟩, fun q => absurd (ix_le (by omega) (by omega)) q⟩
  | succ k ih =>
    intro i M hi hX hv
    have hFM : Wg (vm M) := by rw [hv]; exact Wg_congr (fun f a b _ => (pN_off a b i).symm) hF.1
    refine w_X7_isSo_3 ⟨fun q => absurd q (ix_ge (by omega) (by omega)), fun _ => m_X7_pass hFM (fun M' hX' hv' => ⟨rfl, ?_⟩)⟩
    rw [nI_1]
    exact ih (i + 1) M' (by omega) (eqX_tr hX hX') (by rw [hv', hv]; rfl)
theorem m_X7_isSo {M : am_M} {set : Int32} {p t n : Nat} (hF : Wf (vm M)) (hp : p < sN (vm M)) (hn60 : n ≤ 60) (h1 : ∀ M', eqX [(13, 11), (13, 34)] M M' → soP (vm M) p t set n → Q (some (aI 1)) M' R) (h0 : ∀ M', eqX [(13, 11), (13, 34)] M M' → ¬ soP (vm M) p t set n → Q (some (aI 0)) M' R) : am_WM E (d + 6) 147 [aO 7 13, aI (nI p), aI (nI t), aI set, aI (nI n)] M R Q := by
  refine w_X7_isSo ?_
  exact so_loop1 hF hp hn60 h1 h0 n 0 M (by omega) eqX_rfl rfl
end Trial
