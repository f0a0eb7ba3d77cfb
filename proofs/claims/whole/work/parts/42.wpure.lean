/-! walled: one picture is enough, or none is -/
def wlQ (σ : Sc) (s : Nat) : Sc := sus σ 6 (σ 6 0 ||| nI s)
theorem wlQ_off {σ : Sc} {s f : Nat} (h : f ≠ 6) : wlQ σ s f = σ f := sus_off h
theorem wlQ_6 {σ : Sc} {s i : Nat} : wlQ σ s 6 i = σ 6 0 ||| nI s := by
  unfold wlQ sus
  exact if_pos rfl
theorem wlQ_sN {σ : Sc} {s : Nat} : sN (wlQ σ s) = sN σ := by unfold sN; rw [wlQ_off (by decide)]
theorem wlQ_wf {σ : Sc} {s : Nat} (hF : Wf σ) (hs : s < 2 ^ sN σ) : Wf (wlQ σ s) := by
  obtain ⟨a1, a2, a3, a4, a5, a6⟩ := hF
  have eN : sN (wlQ σ s) = sN σ := wlQ_sN
  have eD : sD (wlQ σ s) = sD σ := by unfold sD; rw [wlQ_off (by decide)]
  have eC : sC (wlQ σ s) = sC σ := by unfold sC; rw [wlQ_off (by decide)]
  refine ⟨?_, ?_, ?_, ?_, ?_, ?_⟩
  · unfold Wg
    rw [eN, eD, eC, wlQ_off (f := 0) (by decide), wlQ_off (f := 1) (by decide), wlQ_off (f := 2) (by decide), wlQ_off (f := 3) (by decide), wlQ_off (f := 4) (by decide), wlQ_off (f := 13) (by decide)]
    exact a1
  · intro q hq
    rw [eN] at hq
    rw [wlQ_off (f := 10) (by decide), wlQ_off (f := 11) (by decide), wlQ_off (f := 12) (by decide), wlQ_off (f := 14) (by decide)]
    exact a2 q hq
  · obtain ⟨w, hw, ew⟩ := a3
    refine ⟨w ||| s, ?_, ?_⟩
    · rw [eN]; exact Nat.or_lt_two_pow hw hs
    · rw [wlQ_6, ew, nI_or]
  · rw [wlQ_off (by decide)]; exact a4
  · rw [wlQ_off (by decide)]; exact a5
  · intro j hj
    rw [eC] at hj
    rw [eD, wlQ_off (f := 17) (by decide), wlQ_off (f := 18) (by decide), wlQ_off (f := 19) (by decide)]
    exact a6 j hj
theorem on_eq6 {σ τ : Sc} (h : ∀ f, f ≠ 6 → τ f = σ f) : onF τ = onF σ := by
  funext x y
  unfold onF sN sD
  rw [h 2 (by decide), h 3 (by decide), h 11 (by decide), h 12 (by decide), h 15 (by decide), h 16 (by decide)]
theorem walk_tri {σ : Sc} (h8 : sN σ ≤ 8) (h4 : sD σ ≤ 4) (p : Nat) : ∀ (k w : Nat) (x y : Int32), walkF σ p k w x y = -1 ∨ (∃ m, m < sN σ ∧ m ≠ p ∧ bt (σ 6 0) m = false ∧ ∀ τ : Sc, (∀ f, f ≠ 6 → τ f = σ f) → bt (τ 6 0) m = true → walkF τ p k w x y = -1) ∨ ((∃ q, q < sD σ ∧ walkF σ p k w x y = nI (10 + q)) ∧ ∀ τ : Sc, (∀ f, f ≠ 6 → τ f = σ f) → walkF τ p k w x y = walkF σ p k w x y)
  | 0, _, _, _ => Or.inl rfl
  | k + 1, w, x, y => by
    have hcell : ∀ τ : Sc, (∀ f, f ≠ 6 → τ f = σ f) → ∀ a b, cellP τ a b ↔ cellP σ a b := fun τ h a b => by
      unfold cellP
      rw [h 0 (by decide), h 1 (by decide)]
    by_cases hc : cellP σ (x + dxF w) (y + dyF w)
    · rcases onF_cases σ (x + dxF w) (y + dyF w) with e | ⟨m, hm, e, -⟩ | ⟨q, hq, e⟩
      · have hstep : ∀ τ : Sc, (∀ f, f ≠ 6 → τ f = σ f) → walkF τ p (k + 1) w x y = walkF τ p k w (x + dxF w) (y + dyF w) := fun τ h => by
          rw [walkF, if_pos ((hcell τ h _ _).mpr hc), on_eq6 h, e, if_pos rfl]
        rw [hstep σ (fun _ _ => rfl)]
        rcases walk_tri h8 h4 p k w (x + dxF w) (y + dyF w) with z | ⟨m, z1, z2, z3, z4⟩ | ⟨z1, z2⟩
        · exact Or.inl z
        · exact Or.inr (Or.inl ⟨m, z1, z2, z3, fun τ h hb => by rw [hstep τ h]; exact z4 τ h hb⟩)
        · exact Or.inr (Or.inr ⟨z1, fun τ h => by rw [hstep τ h]; exact z2 τ h⟩)
      · have hlt : nI m < 10 := nI_lt (b := 10) (by omega) (by omega)
        have hstep : ∀ τ : Sc, (∀ f, f ≠ 6 → τ f = σ f) → (m = p ∨ bt (τ 6 0) m = true) → walkF τ p (k + 1) w x y = -1 := fun τ h hb => by
          rw [walkF, if_pos ((hcell τ h _ _).mpr hc), on_eq6 h, e, if_neg (ix_neg1 (by omega)), if_neg (by simpa using hlt), ix_cl (by omega), if_pos (hb.imp (fun z => by rw [z]) id)]
        by_cases hb : m = p ∨ bt (σ 6 0) m = true
        · exact Or.inl (hstep σ (fun _ _ => rfl) hb)
        · exact Or.inr (Or.inl ⟨m, hm, fun z => hb (Or.inl z), Bool.eq_false_iff.mpr (fun z => hb (Or.inr z)), fun τ h hb2 => hstep τ h (Or.inr hb2)⟩)
      · have hge : ¬ nI (10 + q) < 10 := nI_nlt (b := 10) (by omega) (by omega)
        have hstep : ∀ τ : Sc, (∀ f, f ≠ 6 → τ f = σ f) → walkF τ p (k + 1) w x y = nI (10 + q) := fun τ h => by
          rw [walkF, if_pos ((hcell τ h _ _).mpr hc), on_eq6 h, e, if_neg (ix_neg1 (by omega)), if_pos hge]
        exact Or.inr (Or.inr ⟨⟨q, hq, hstep σ (fun _ _ => rfl)⟩, fun τ h => by rw [hstep τ h, hstep σ (fun _ _ => rfl)]⟩)
    · refine Or.inl ?_
      rw [walkF, if_neg hc]
theorem src_none {τ : Sc} {p : Nat} (h : lk τ p = -1) : srcF τ p = -1 := by
  unfold srcF
  rw [h, if_neg (by decide), if_pos (by decide)]
theorem kn_const {τ : Sc} {h p t : Nat} (hF : Wf τ) (h5 : τ 5 0 = nI h) (hp : p < sN τ) (ht : t < 8) (hs : lk τ p = -1) : ∀ k, h + k ≤ 100000 → kn τ t k p = kn τ t 0 p
  | 0, _ => rfl
  | k + 1, hk => by
    rw [kn_step hF h5 (by omega) hp ht, src_none hs, if_pos (by decide), Bool.and_false, Bool.or_false]
    exact kn_const hF h5 hp ht hs k (by omega)
theorem cB_eq6 {σ τ : Sc} (h : ∀ f, f ≠ 6 → τ f = σ f) (q t z : Nat) : cB τ q t z = cB σ q t z := by
  unfold cB sC
  rw [h 4 (by decide), h 17 (by decide), h 18 (by decide), h 19 (by decide)]
theorem kn_door {σ τ : Sc} {h p t q : Nat} (hF : Wf σ) (hT : Wf τ) (h5 : σ 5 0 = nI h) (hp : p < sN σ) (ht : t < 8) (he : ∀ f, f ≠ 6 → τ f = σ f) (hb : bt (τ 6 0) p = bt (σ 6 0) p) (hq : q < 4) (h1 : lk σ p = nI (10 + q)) (h2 : lk τ p = nI (10 + q)) : ∀ k, h + k ≤ 100000 → kn τ t k p = kn σ t k p
  | 0, _ => by
    show bt (τ 14 p) t = bt (σ 14 p) t
    rw [he 14 (by decide)]
  | k + 1, hk => by
    have hge : ¬ nI (10 + q) < 10 := nI_nlt (b := 10) (by omega) (by omega)
    have s1 : srcF σ p = nI (10 + q) := by unfold srcF; rw [h1, if_pos hge]
    have s2 : srcF τ p = nI (10 + q) := by unfold srcF; rw [h2, if_pos hge]
    have eN : sN τ = sN σ := by unfold sN; rw [he 2 (by decide)]
    have eo : openF τ p = openF σ p := by unfold openF blindP; rw [he 10 (by decide), hb]
    rw [kn_step hF h5 (by omega) hp ht, kn_step hT (by rw [he 5 (by decide)]; exact h5) (by omega) (by rw [eN]; exact hp) ht, s1, s2, eo, if_neg (ix_lt (by omega)), if_neg hge, if_neg (ix_lt (by omega)), if_neg hge, cB_eq6 he, kn_door hF hT h5 hp ht he hb hq h1 h2 k (by omega)]
/-- one picture more turned to the wall keeps it away -/
def w1B (σ : Sc) (p t n q : Nat) : Bool := (decide (q ≠ p) && !bt (σ 6 0) q) && !kn (wlQ σ (2 ^ q)) t n p
/-- a set of such does -/
def wkB (σ : Sc) (p t n s : Nat) : Bool := (!s.testBit p && decide (nI s &&& σ 6 0 = 0)) && !kn (wlQ σ s) t n p
theorem wl_key {σ : Sc} {h p t n s : Nat} (hF : Wf σ) (h5 : σ 5 0 = nI h) (hh : h ≤ 99000) (hp : p < sN σ) (ht : t < 8) (hn : n ≤ 1000) (hs : s < 2 ^ sN σ) (hsp : s.testBit p = false) (hk : kn σ t n p = true) (hno : kn (wlQ σ s) t n p = false) : ∃ m, m < sN σ ∧ w1B σ p t n m = true := by
  have h8 := hF.1.1
  have h4 := hF.1.2.2.1
  have hp2 := p2_le h8
  have h14 : ∀ z, kn (wlQ σ z) t 0 p = kn σ t 0 p := fun z => by
    show bt (wlQ σ z 14 p) t = bt (σ 14 p) t
    rw [wlQ_off (by decide)]
  have hws := wlQ_wf hF hs
  have k0 : kn σ t 0 p = false := by
    cases e : kn σ t 0 p with
    | false => rfl
    | true =>
      have := kn_mono hws (by rw [wlQ_off (by decide)]; exact h5) (by rw [wlQ_sN]; exact hp) ht 0 n (by omega) (by omega) (by rw [h14]; exact e)
      rw [hno] at this
      cases this
  have hl : ¬ lk σ p = -1 := fun e => by
    rw [kn_const hF h5 hp ht e n (by omega), k0] at hk
    cases hk
  have hop := lk_open hl
  have hwp : bt (σ 6 0) p = false := Bool.eq_false_iff.mpr (fun z => hop (Or.inr z))
  have hlw : ∀ τ : Sc, (∀ f, f ≠ 6 → τ f = σ f) → lk τ p = if bt (τ 6 0) p = true then -1 else walkF τ p 30 (if σ 10 p = 1 then ((σ 13 p).toNatClampNeg + 1) % 4 else (σ 13 p).toNatClampNeg) (σ 11 p) (σ 12 p) := fun τ he => by
    unfold lk lookF blindP
    rw [he 10 (by decide), he 11 (by decide), he 12 (by decide), he 13 (by decide)]
    by_cases e : bt (τ 6 0) p = true
    · rw [if_pos (Or.inr e), if_pos e]
    · rw [if_neg (fun z => z.elim (fun y => hop (Or.inl y)) e), if_neg e]
  have hls := hlw σ (fun _ _ => rfl)
  rw [if_neg (by rw [hwp]; decide)] at hls
  rcases walk_tri h8 h4 p 30 (if σ 10 p = 1 then ((σ 13 p).toNatClampNeg + 1) % 4 else (σ 13 p).toNatClampNeg) (σ 11 p) (σ 12 p) with e | ⟨m, hm, hmp, hmw, e⟩ | ⟨⟨q, hq, e⟩, e2⟩
  · exact absurd (hls.trans e) hl
  · refine ⟨m, hm, ?_⟩
    have hm2 : 2 ^ m < 2 ^ sN σ := Nat.pow_lt_pow_right (by decide) hm
    obtain ⟨w, hw, ew⟩ := hF.2.2.1
    have hbm : bt (wlQ σ (2 ^ m) 6 0) m = true := by
      have hlt : w ||| 2 ^ m < 2 ^ sN σ := Nat.or_lt_two_pow hw hm2
      rw [wlQ_6, ew, nI_or, bt_nI (by omega) (by omega), testBit_or_pow]
      simp
    have hl2 : lk (wlQ σ (2 ^ m)) p = -1 := by
      rw [hlw _ (fun f hf => wlQ_off hf)]
      split
      · rfl
      · exact e _ (fun f hf => wlQ_off hf) hbm
    have hk2 := kn_const (wlQ_wf hF hm2) (by rw [wlQ_off (by decide)]; exact h5) (by rw [wlQ_sN]; exact hp) ht hl2 n (by omega)
    unfold w1B
    rw [hk2, h14, k0, hmw, decide_eq_true hmp]
    rfl
  · exfalso
    obtain ⟨w, hw, ew⟩ := hF.2.2.1
    have hb : bt (wlQ σ s 6 0) p = bt (σ 6 0) p := by
      have hlt : w ||| s < 2 ^ sN σ := Nat.or_lt_two_pow hw hs
      rw [wlQ_6, ew, nI_or, bt_nI (by omega) (by omega), bt_nI (by omega) (by omega), Nat.testBit_or, hsp, Bool.or_false]
    have hl2 : lk (wlQ σ s) p = nI (10 + q) := by
      rw [hlw _ (fun f hf => wlQ_off hf), hb, if_neg (by rw [hwp]; decide), e2 _ (fun f hf => wlQ_off hf), e]
    rw [kn_door hF hws h5 hp ht (fun f hf => wlQ_off hf) hb (by omega) (hls.trans e) hl2 n (by omega), hk] at hno
    cases hno
/-- how many bits -/
def bcN (z : Nat) : Nat → Nat → Nat → Nat
  | 0, _, a => a
  | k + 1, i, a => bcN z k (i + 1) (a + z / 2 ^ i % 2)
def bc (z : Nat) : Nat := bcN z 12 0 0
theorem bc_facts {s : Nat} (hs : s < 256) : bc s ≤ 12 ∧ ((s = 0 ∧ bc s = 0) ∨ (∃ q, q < 8 ∧ s = 2 ^ q ∧ bc s = 1) ∨ 2 ≤ bc s) := by
  have h : (List.range 256).all (fun s => decide (bc s ≤ 12) && ((decide (s = 0) && decide (bc s = 0)) || (List.range 8).any (fun q => decide (s = 2 ^ q) && decide (bc s = 1)) || decide (2 ≤ bc s))) = true := by decide +kernel
  have h1 := List.all_eq_true.mp h s (List.mem_range.mpr hs)
  rw [Bool.and_eq_true, Bool.or_eq_true, Bool.or_eq_true, Bool.and_eq_true, List.any_eq_true] at h1
  refine ⟨of_decide_eq_true h1.1, ?_⟩
  rcases h1.2 with (⟨a, b⟩ | ⟨q, hq, a⟩) | a
  · exact Or.inl ⟨of_decide_eq_true a, of_decide_eq_true b⟩
  · rw [Bool.and_eq_true] at a
    exact Or.inr (Or.inl ⟨q, List.mem_range.mp hq, of_decide_eq_true a.1, of_decide_eq_true a.2⟩)
  · exact Or.inr (Or.inr (of_decide_eq_true a))
theorem bc_0 : bc 0 = 0 := by decide +kernel
theorem bc_pow {q : Nat} (hq : q < 8) : bc (2 ^ q) = 1 := by
  have h : ∀ q, q < 8 → bc (2 ^ q) = 1 := by decide +kernel
  exact h q hq
/-- the best of the sets below i -/
def wbI (σ : Sc) (p t n i : Nat) (best : Int32) : Prop := (best = -1 ∧ ∀ s, s < i → wkB σ p t n s = false) ∨ ∃ s0, s0 < i ∧ best = nI s0 ∧ wkB σ p t n s0 = true ∧ ∀ s, s < i → wkB σ p t n s = true → bc s0 ≤ bc s ∧ (bc s = bc s0 → s0 ≤ s)
def waF (σ : Sc) (p t n : Nat) : Int32 := if kn σ t n p = true then (match sF (w1B σ p t n) 0 (sN σ) with | some q => nI (2 ^ q) | none => -1) else 0
theorem wk_pow {σ : Sc} {p t n q : Nat} (hF : Wf σ) (hp : p < sN σ) (hq : q < sN σ) : wkB σ p t n (2 ^ q) = w1B σ p t n q := by
  have h8 := hF.1.1
  have hp2 := p2_le h8
  obtain ⟨w, hw, ew⟩ := hF.2.2.1
  have hq2 : 2 ^ q < 2 ^ sN σ := Nat.pow_lt_pow_right (by decide) hq
  unfold wkB w1B
  congr 1
  congr 1
  · rw [Nat.testBit_two_pow, Bool.eq_iff_iff]
    simp
  · rw [Bool.eq_iff_iff, decide_eq_true_iff, ew, nI_and, show (0 : Int32) = nI 0 from rfl, ix_eq (by have : 2 ^ q &&& w ≤ 2 ^ q := Nat.and_le_left; omega) (by omega), bt_nI (by omega) (by omega)]
    constructor
    · intro e
      have := congrArg (fun z => z.testBit q) e
      simp only [Nat.testBit_and, Nat.testBit_two_pow, Nat.zero_testBit, decide_true, Bool.true_and] at this
      rw [this]; rfl
    · intro e
      apply Nat.eq_of_testBit_eq
      intro i
      rw [Nat.testBit_and, Nat.testBit_two_pow, Nat.zero_testBit]
      by_cases ei : q = i
      · subst ei
        rw [Bool.not_eq_true'] at e
        rw [e, Bool.and_false]
      · rw [decide_eq_false ei, Bool.false_and]
theorem wk_0 {σ : Sc} {p t n : Nat} (h6 : ∀ i, σ 6 i = σ 6 0) : wkB σ p t n 0 = !kn σ t n p := by
  have e : wlQ σ 0 = σ := by
    funext f j
    unfold wlQ sus
    split
    · next q => rw [q, h6 j, show nI 0 = (0 : Int32) from rfl]; exact Int32.or_zero
    · rfl
  unfold wkB
  rw [e, Nat.zero_testBit, show nI 0 &&& σ 6 0 = 0 from by rw [show nI 0 = (0 : Int32) from rfl]; exact Int32.zero_and, decide_eq_true rfl]
  rfl
theorem wb_end {σ : Sc} {h p t n : Nat} {best : Int32} (hF : Wf σ) (h5 : σ 5 0 = nI h) (hh : h ≤ 99000) (hp : p < sN σ) (ht : t < 8) (hn : n ≤ 1000) (h6 : ∀ i, σ 6 i = σ 6 0) (hb : wbI σ p t n (2 ^ sN σ) best) : best = waF σ p t n := by
  have h8 := hF.1.1
  have hp2 := p2_le h8
  have hp1 : 0 < 2 ^ sN σ := Nat.pow_pos (by decide)
  unfold waF
  by_cases hk : kn σ t n p = true
  · rw [if_pos hk]
    have h0 : wkB σ p t n 0 = false := by rw [wk_0 h6, hk]; rfl
    cases hs : sF (w1B σ p t n) 0 (sN σ) with
    | none =>
      dsimp only
      rcases hb with ⟨e, -⟩ | ⟨s0, hs0, e, hw, -⟩
      · exact e
      · exfalso
        unfold wkB at hw
        rw [Bool.and_eq_true, Bool.and_eq_true, Bool.not_eq_true', Bool.not_eq_true'] at hw
        obtain ⟨m, hm, hm2⟩ := wl_key hF h5 hh hp ht hn hs0 hw.1.1 hk hw.2
        rw [sF_none hs m (Nat.zero_le _) (by omega)] at hm2
        cases hm2
    | some q =>
      dsimp only
      obtain ⟨-, hq, hq1, hqf⟩ := sF_some hs
      have hqN : q < sN σ := by omega
      have hq2 : 2 ^ q < 2 ^ sN σ := Nat.pow_lt_pow_right (by decide) hqN
      have hwq : wkB σ p t n (2 ^ q) = true := by rw [wk_pow hF hp hqN]; exact hq1
      rcases hb with ⟨-, e⟩ | ⟨s0, hs0, e, hw, hmin⟩
      · rw [e _ hq2] at hwq; cases hwq
      · have hm := hmin _ hq2 hwq
        rw [bc_pow (by omega)] at hm
        rcases (bc_facts (show s0 < 256 by omega)).2 with ⟨e0, -⟩ | ⟨q', hq', eq', e1⟩ | e2
        · subst e0; rw [h0] at hw; cases hw
        · have hle := hm.2 e1.symm
          rw [eq'] at hle hs0 hw
          have hq'N : q' < sN σ := (Nat.pow_lt_pow_iff_right (by decide)).mp hs0
          have hle2 : q' ≤ q := (Nat.pow_le_pow_iff_right (by decide)).mp hle
          rw [wk_pow hF hp hq'N] at hw
          have : ¬ q' < q := fun z => by rw [hqf q' (Nat.zero_le _) z] at hw; cases hw
          rw [e, eq', show q' = q from by omega]
        · omega
  · rw [if_neg hk]
    have h0 : wkB σ p t n 0 = true := by
      rw [wk_0 h6, Bool.eq_false_iff.mpr hk]; rfl
    rcases hb with ⟨-, e⟩ | ⟨s0, hs0, e, hw, hmin⟩
    · rw [e 0 hp1] at h0; cases h0
    · have hm := (hmin 0 hp1 h0).1
      rw [bc_0] at hm
      rcases (bc_facts (show s0 < 256 by omega)).2 with ⟨e0, -⟩ | ⟨q', hq', eq', e1⟩ | e2
      · rw [e, e0]; rfl
      · omega
      · omega
