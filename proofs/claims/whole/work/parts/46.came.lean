/-! came and next of the class -/
/-- does a way fit: 4 times the hour, and the door -/
def wyB (σ α : Sc) (t H k : Nat) : Bool := (decide (k / 4 < H) && decide (k % 4 < sD σ)) && fitB α t (bsN (knB σ t H (k % 4) (k / 4)) (sN σ))
/-- how many below k -/
def ctb (P : Nat → Bool) : Nat → Nat
  | 0 => 0
  | k + 1 => ctb P k + (if P k = true then 1 else 0)
theorem ctb_le {P : Nat → Bool} : ∀ k, ctb P k ≤ k
  | 0 => Nat.le_refl _
  | k + 1 => by
    have := ctb_le (P := P) k
    unfold ctb
    split <;> omega
theorem ctb_skip {P : Nat → Bool} {k : Nat} : ∀ j, (∀ i, k ≤ i → i < k + j → P i = false) → ctb P (k + j) = ctb P k
  | 0, _ => rfl
  | j + 1, h => by
    show ctb P (k + j) + (if P (k + j) = true then 1 else 0) = _
    rw [h (k + j) (by omega) (by omega), ctb_skip j (fun i a b => h i a (by omega))]
    rfl
theorem ctb_to {P : Nat → Bool} {k k' : Nat} (hk : k ≤ k') (h : ∀ i, k ≤ i → i < k' → P i = false) : ctb P k = ctb P k' := by
  obtain ⟨j, rfl⟩ : ∃ j, k' = k + j := ⟨k' - k, by omega⟩
  exact (ctb_skip j h).symm
theorem ctb_t {P : Nat → Bool} {k : Nat} (h : P k = true) : ctb P (k + 1) = ctb P k + 1 := by
  show ctb P k + (if P k = true then 1 else 0) = _
  rw [if_pos h]
theorem ctb_f {P : Nat → Bool} {k : Nat} (h : P k = false) : ctb P (k + 1) = ctb P k := by
  show ctb P k + (if P k = true then 1 else 0) = _
  rw [h]; rfl
def wnB (W : Nat → Bool) (x : Int32) (k : Nat) : Bool := W k && decide (nI (ctb W k) = x)
def caF (W : Nat → Bool) (x : Int32) : Int32 := match sF (wnB W x) 0 244 with | some k => nI (10 * (k / 4) + k % 4) | none => if x = -1 then nI (ctb W 244) else -1
def nxL (kw : Nat → Nat) (all : Nat) : Nat → Nat → Int32 → Nat → Int32
  | 0, _, b, _ => b
  | f + 1, p, b, l => if max (kw p) (all - kw p) < l then nxL kw all f (p + 1) (nI p) (max (kw p) (all - kw p)) else nxL kw all f (p + 1) b l
def kwB (σ α : Sc) (t H p k : Nat) : Bool := wyB σ α t H k && knB σ t H (k % 4) (k / 4) p
def nxF2 (σ α : Sc) (t H : Nat) : Int32 := nxL (fun p => ctb (kwB σ α t H p) 244) (ctb (wyB σ α t H) 244) (sN σ) 0 (-1) (ctb (wyB σ α t H) 244)
def caA (σ α : Sc) (x1 x2 : Int32) : Int32 := if inN x1 8 then caF (wyB σ α x1.toNatClampNeg (σ 5 0).toNatClampNeg) x2 else -1000000001
def nxA (σ α : Sc) (x1 : Int32) : Int32 := if inN x1 8 then nxF2 σ α x1.toNatClampNeg (σ 5 0).toNatClampNeg else -1000000001
theorem wy_off {σ α : Sc} {t H k : Nat} (h : H ≤ k / 4 ∨ sD σ ≤ k % 4) : wyB σ α t H k = false := by
  unfold wyB
  rcases h with h | h
  · rw [decide_eq_false (by omega : ¬ k / 4 < H), Bool.false_and, Bool.false_and]
  · rw [decide_eq_false (by omega : ¬ k % 4 < sD σ), Bool.and_false, Bool.false_and]
theorem wy_at {σ α : Sc} {t H z q : Nat} (h4 : sD σ ≤ 4) (hz : z < H) (hq : q < sD σ) : wyB σ α t H (4 * z + q) = fitB α t (bsN (knB σ t H q z) (sN σ)) := by
  unfold wyB
  rw [show (4 * z + q) / 4 = z from by omega, show (4 * z + q) % 4 = q from by omega, decide_eq_true hz, decide_eq_true hq]
  rfl
section Came
variable {E : Nat → Nat → Int32} {d : Nat} {Q : am_Q} {R : am_R} {b : Bool}
theorem cw_loop {M : am_M} {σ : Sc} {t h N : Nat} (h8 : sN σ ≤ 8) (h4 : sD σ ≤ 4) (hA : WA (aC M) N) (hN : N ≤ 8) (hP : PtOk M σ t h) (hh : h ≤ 99000) (hQ : Q (some (aI (nI (ctb (wyB σ (aC M) t h) 244)))) M R) : ∀ (m z q : Nat), 5 * (61 - z) - q ≤ m → z < min h 61 → q ≤ sD σ → am_WP E (am_WM E (d + 1)) am_L_X1_countWays Q 15 [aO 1 12, aO 0 10, aI (nI (ctb (wyB σ (aC M) t h) (4 * z + q))), aI (nI z), aI (nI q)] [] M R := by
  intro m
  induction m with
  | zero => intro z q hm hz hq; omega
  | succ m ih =>
    intro z q hm hz hq
    have hc := ctb_le (P := wyB σ (aC M) t h) (4 * z + q)
    refine w_X1_countWays_15 ?_
    rw [hP.2.1, hP.2.2.2.2.1]
    by_cases e : q = sD σ
    · subst e
      refine ⟨fun _ => w_X1_countWays_4 ?_, fun y => absurd (ix_le (by omega) (by omega)) y⟩
      rw [hP.2.2.2.1, nI_1]
      have hsk : ctb (wyB σ (aC M) t h) (4 * z + sD σ) = ctb (wyB σ (aC M) t h) (4 * (z + 1) + 0) := ctb_to (by omega) (fun i a b => wy_off (Or.inr (by omega)))
      rw [hsk]
      by_cases ez : z + 1 < min h 61
      · exact ⟨fun y => absurd y (ix_ge ez (by omega)), fun _ => ih (z + 1) 0 (by omega) ez (by omega)⟩
      · refine ⟨fun _ => ?_, fun y => absurd (ix_le (by omega) (by omega)) y⟩
        rw [ctb_to (k := 4 * (z + 1) + 0) (k' := 244) (by omega) (fun i a b => wy_off (Or.inl (by omega)))]
        exact hQ
    · refine ⟨fun y => absurd y (ix_ge (by omega) (by omega)), fun _ => m_X1_knowersOf h8 h4 hP (by omega) (by omega) hh (kv (m_X0_fit hA hN (fun hf => k1e ?_) (fun hf => k0e ?_)))⟩
      · rw [nI_1, nI_1]
        have := ctb_t (P := wyB σ (aC M) t h) (k := 4 * z + q) (by rw [wy_at h4 (by omega) (by omega)]; exact hf)
        rw [← this]
        exact ih z (q + 1) (by omega) hz (by omega)
      · rw [nI_1]
        have := ctb_f (P := wyB σ (aC M) t h) (k := 4 * z + q) (by rw [wy_at h4 (by omega) (by omega)]; exact hf)
        rw [← this]
        exact ih z (q + 1) (by omega) hz (by omega)
theorem m_X1_countWays {M : am_M} {σ : Sc} {t h N : Nat} (h8 : sN σ ≤ 8) (h4 : sD σ ≤ 4) (hA : WA (aC M) N) (hN : N ≤ 8) (hP : PtOk M σ t h) (hh : h ≤ 99000) (hQ : Q (some (aI (nI (ctb (wyB σ (aC M) t h) 244)))) M R) : am_WM E (d + 2) 8 [aO 1 12, aO 0 10] M R Q := by
  refine w_X1_countWays (w_X1_countWays_4 ?_)
  rw [hP.2.2.2.1]
  by_cases ez : 0 < min h 61
  · exact ⟨fun y => absurd y (ix_ge ez (by omega)), fun _ => cw_loop h8 h4 hA hN hP hh hQ 305 0 0 (by omega) ez (by omega)⟩
  · refine ⟨fun _ => ?_, fun y => absurd (ix_le (n := min h 61) (q := 0) (by omega) (by omega)) y⟩
    have : ctb (wyB σ (aC M) t h) 0 = ctb (wyB σ (aC M) t h) 244 := ctb_to (by omega) (fun i a b => wy_off (Or.inl (by omega)))
    rw [← this] at hQ
    exact hQ
theorem wn_loop {M : am_M} {σ : Sc} {t h N : Nat} {x : Int32} (h8 : sN σ ≤ 8) (h4 : sD σ ≤ 4) (hA : WA (aC M) N) (hN : N ≤ 8) (hP : PtOk M σ t h) (hh : h ≤ 99000) (hx : ¬ x = -1) (hQ : Q (some (aI (caF (wyB σ (aC M) t h) x))) M R) : ∀ (m z q : Nat), 5 * (61 - z) - q ≤ m → z < min h 61 → q ≤ sD σ → (∀ i, i < 4 * z + q → wnB (wyB σ (aC M) t h) x i = false) → am_WP E (am_WM E (d + 1)) am_L_X1_wayNumber Q 17 [aO 1 12, aO 0 10, aI x, aI (nI (ctb (wyB σ (aC M) t h) (4 * z + q))), aI (nI z), aI (nI q)] [] M R := by
  intro m
  induction m with
  | zero => intro z q hm hz hq; omega
  | succ m ih =>
    intro z q hm hz hq hw
    have hc := ctb_le (P := wyB σ (aC M) t h) (4 * z + q)
    refine w_X1_wayNumber_17 ?_
    rw [hP.2.1, hP.2.2.2.2.1]
    by_cases e : q = sD σ
    · subst e
      refine ⟨fun _ => w_X1_wayNumber_5 ?_, fun y => absurd (ix_le (by omega) (by omega)) y⟩
      rw [hP.2.2.2.1, nI_1]
      have hsk : ctb (wyB σ (aC M) t h) (4 * z + sD σ) = ctb (wyB σ (aC M) t h) (4 * (z + 1) + 0) := ctb_to (by omega) (fun i a b => wy_off (Or.inr (by omega)))
      have hw2 : ∀ i, i < 4 * (z + 1) + 0 → wnB (wyB σ (aC M) t h) x i = false := fun i hi => by
        by_cases e : i < 4 * z + sD σ
        · exact hw i e
        · unfold wnB
          rw [wy_off (Or.inr (by omega)), Bool.false_and]
      rw [hsk]
      by_cases ez : z + 1 < min h 61
      · exact ⟨fun y => absurd y (ix_ge ez (by omega)), fun _ => ih (z + 1) 0 (by omega) ez (by omega) hw2⟩
      · refine ⟨fun _ => ?_, fun y => absurd (ix_le (by omega) (by omega)) y⟩
        have hn : sF (wnB (wyB σ (aC M) t h) x) 0 244 = none := sF_mkn (fun i _ hi => by
          by_cases e : i < 4 * (z + 1) + 0
          · exact hw2 i e
          · unfold wnB
            rw [wy_off (Or.inl (by omega)), Bool.false_and])
        unfold caF at hQ
        rw [hn] at hQ
        dsimp only at hQ
        rw [if_neg hx] at hQ
        exact hQ
    · have hstep : wnB (wyB σ (aC M) t h) x (4 * z + q) = false → ∀ i, i < 4 * z + (q + 1) → wnB (wyB σ (aC M) t h) x i = false := fun hf i hi => by
        by_cases e : i = 4 * z + q
        · rw [e]; exact hf
        · exact hw i (by omega)
      refine ⟨fun y => absurd y (ix_ge (by omega) (by omega)), fun _ => m_X1_knowersOf h8 h4 hP (by omega) (by omega) hh (kv (m_X0_fit hA hN (fun hf => k1e ⟨fun y => ?_, fun y => ?_⟩) (fun hf => k0e ?_)))⟩
      · have hwt : wyB σ (aC M) t h (4 * z + q) = true := by rw [wy_at h4 (by omega) (by omega)]; exact hf
        rw [nI_1, nI_1, ← ctb_t hwt]
        exact ih z (q + 1) (by omega) hz (by omega) (hstep (by unfold wnB; rw [decide_eq_false y, Bool.and_false]))
      · have hwt : wyB σ (aC M) t h (4 * z + q) = true := by rw [wy_at h4 (by omega) (by omega)]; exact hf
        have hs : sF (wnB (wyB σ (aC M) t h) x) 0 244 = some (4 * z + q) := sF_mk (by unfold wnB; rw [hwt, decide_eq_true y]; rfl) (Nat.zero_le _) (by omega) (fun i _ hi => hw i hi)
        unfold caF at hQ
        rw [hs] at hQ
        dsimp only at hQ
        rw [show (4 * z + q) / 4 = z from by omega, show (4 * z + q) % 4 = q from by omega] at hQ
        rw [show (10 : Int32) * nI z = nI (10 * z) from pk_mul 10 z, nI_add]
        exact hQ
      · have hwt : wyB σ (aC M) t h (4 * z + q) = false := by rw [wy_at h4 (by omega) (by omega)]; exact hf
        rw [nI_1, ← ctb_f hwt]
        exact ih z (q + 1) (by omega) hz (by omega) (hstep (by unfold wnB; rw [hwt, Bool.false_and]))
theorem m_X1_wayNumber {M : am_M} {σ : Sc} {t h N : Nat} {x : Int32} (h8 : sN σ ≤ 8) (h4 : sD σ ≤ 4) (hA : WA (aC M) N) (hN : N ≤ 8) (hP : PtOk M σ t h) (hh : h ≤ 99000) (hx : ¬ x = -1) (hQ : Q (some (aI (caF (wyB σ (aC M) t h) x))) M R) : am_WM E (d + 2) 9 [aO 1 12, aO 0 10, aI x] M R Q := by
  refine w_X1_wayNumber (w_X1_wayNumber_5 ?_)
  rw [hP.2.2.2.1]
  by_cases ez : 0 < min h 61
  · exact ⟨fun y => absurd y (ix_ge ez (by omega)), fun _ => wn_loop h8 h4 hA hN hP hh hx hQ 305 0 0 (by omega) ez (by omega) (fun i hi => absurd hi (by omega))⟩
  · refine ⟨fun _ => ?_, fun y => absurd (ix_le (n := min h 61) (q := 0) (by omega) (by omega)) y⟩
    have hn : sF (wnB (wyB σ (aC M) t h) x) 0 244 = none := sF_mkn (fun i _ hi => by
      unfold wnB
      rw [wy_off (Or.inl (by omega)), Bool.false_and])
    unfold caF at hQ
    rw [hn] at hQ
    dsimp only at hQ
    rw [if_neg hx] at hQ
    exact hQ
theorem aC_off {S : List (Nat × Nat)} {M M' : am_M} (h : eqX S M M') (hS : ∀ k, (10, k) ∉ S) : aC M' = aC M := by
  funext f j
  unfold aC
  rw [h 10 0 (hS 0), h 10 1 (hS 1), h 10 2 (hS 2), h 10 3 (hS 3), h 10 4 (hS 4), h 10 5 (hS 5), h 10 6 (hS 6)]
theorem m_X6_came {M : am_M} {x1 x2 : Int32} {h : Nat} (hF : Wf (vc M (pl b) 6)) (hL : LkOk M (pl b) 6) (h5 : vc M (pl b) 6 5 0 = nI h) (hh : h ≤ 99000) (hA : WA (aC M) (sN (vc M (pl b) 6))) (hQ : ∀ M', eqX psS M M' → Q (some (aI (caA (vc M (pl b) 6) (aC M) x1 x2))) M' (Rs b)) : am_WM E (d + 4) 84 [aO 6 0, aI x1, aI x2] M (Rs b) Q := by
  have h8 := hF.1.1
  have h4 := hF.1.2.2.1
  unfold caA at hQ
  refine w_X6_came (m_X6_isThing (fun t ht e => kv ⟨fun _ => ?_, fun q => absurd q (by decide)⟩) (fun a => kv ⟨fun q => absurd rfl q, fun _ => ?_⟩))
  · subst e
    rw [if_pos (inN_mk ht (by omega)), ix_cl (n := t) (by omega), h5, nI_clamp (by omega)] at hQ
    refine m_X1_goThrough (g := pl b) (c := 6) (pl_ne (by omega)) (by decide) hF hL h5 hh (fun M' hX hP => ⟨rfl, fun hx => ?_, fun hx => ?_⟩)
    · have ea : aC M' = aC M := aC_off hX (fun k => by simp [psS])
      refine m_X1_wayNumber h8 h4 (by rw [ea]; exact hA) h8 hP hh hx (kv ?_)
      rw [ea]
      exact hQ M' hX
    · have ea : aC M' = aC M := aC_off hX (fun k => by simp [psS])
      refine m_X1_countWays h8 h4 (by rw [ea]; exact hA) h8 hP hh (kv ?_)
      rw [ea]
      have := hQ M' hX
      have hn : sF (wnB (wyB (vc M (pl b) 6) (aC M) t h) x2) 0 244 = none := sF_mkn (fun i _ hi => by
        unfold wnB
        have := ctb_le (P := wyB (vc M (pl b) 6) (aC M) t h) i
        rw [hx, decide_eq_false (ix_neg1 (by omega)), Bool.and_false])
      unfold caF at this
      rw [hn] at this
      dsimp only at this
      rw [if_pos hx] at this
      exact this
  · rw [if_neg (inN_not a)] at hQ
    exact hQ M eqX_rfl
end Came
