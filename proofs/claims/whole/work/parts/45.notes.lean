/-! what was asked, the book: views of both sides; the class's past -/
def aC (M : am_M) : Sc := fun f j => match f with
  | 0 => M 10 0 0
  | 1 => tr (M 10 0 0).toNatClampNeg (M 10 2) j
  | 2 => tr (M 10 0 0).toNatClampNeg (M 10 3) j
  | 3 => tr (M 10 0 0).toNatClampNeg (M 10 4) j
  | 4 => M 10 1 0
  | 5 => tr (M 10 1 0).toNatClampNeg (M 10 5) j
  | 6 => tr (M 10 1 0).toNatClampNeg (M 10 6) j
  | _ => 0
def aM (M : am_M) : Sc := fun f j => match f with
  | 0 => M 13 38 0
  | 1 => tr (M 13 38 0).toNatClampNeg (M 13 39) j
  | 2 => tr (M 13 38 0).toNatClampNeg (M 13 40) j
  | 3 => tr (M 13 38 0).toNatClampNeg (M 13 41) j
  | 4 => M 13 43 0
  | 5 => tr (M 13 43 0).toNatClampNeg (M 13 44) j
  | 6 => tr (M 13 43 0).toNatClampNeg (M 13 45) j
  | _ => 0
def nA (α : Sc) : Nat := (α 0 0).toNatClampNeg
def nB (α : Sc) : Nat := (α 4 0).toNatClampNeg
def WA (α : Sc) (N : Nat) : Prop := nA α ≤ 8 ∧ α 0 0 = nI (nA α) ∧ nB α ≤ 15 ∧ α 4 0 = nI (nB α) ∧ (∀ j, j < nA α → (∃ p, p < N ∧ α 1 j = nI p) ∧ (∃ t, t < 8 ∧ α 2 j = nI t) ∧ (α 3 j = 0 ∨ α 3 j = 1)) ∧ (∀ j, j < nB α → ∃ p, p < N ∧ α 5 j = nI p)
abbrev askP (α : Sc) (t z k : Nat) : Prop := α 2 k = nI t → (if bt (nI z) (α 1 k).toNatClampNeg = true then (1 : Int32) else 0) = α 3 k
/-- all that was asked of a thing is so if just these know it -/
def fitB (α : Sc) (t z : Nat) : Bool := (List.range (nA α)).all (fun k => decide (askP α t z k))
theorem fitB_iff {α : Sc} {t z : Nat} : fitB α t z = true ↔ ∀ k, k < nA α → askP α t z k := by
  unfold fitB
  rw [List.all_eq_true]
  exact ⟨fun h k hk => of_decide_eq_true (h k (List.mem_range.mpr hk)), fun h k hk => decide_eq_true (h k (List.mem_range.mp hk))⟩
theorem bt_v {z p : Nat} : (nI z >>> (nI p &&& 31)) &&& 1 = if bt (nI z) p = true then (1 : Int32) else 0 := by
  unfold bt
  rcases and1 (nI z >>> (nI p &&& 31)) with e | e
  · rw [e]; rfl
  · rw [e]; rfl
section Past
variable {E : Nat → Nat → Int32} {d : Nat} {Q : am_Q} {R : am_R} {g c : Nat}
theorem fit_loop {M : am_M} {t z N : Nat} (hA : WA (aC M) N) (hN : N ≤ 8) (h1 : fitB (aC M) t z = true → Q (some (aI 1)) M R) (h0 : fitB (aC M) t z = false → Q (some (aI 0)) M R) : ∀ (k i : Nat), i + k = nA (aC M) → (∀ j, j < i → askP (aC M) t z j) → am_WP E (am_WM E d) am_L_X0_fit Q 2 [aO 0 10, aI (nI t), aI (nI z), aI (nI i)] [] M R := by
  have h8 := hA.1
  have hn : M 10 0 0 = nI (nA (aC M)) := hA.2.1
  intro k
  induction k with
  | zero =>
    intro i hi hb
    refine w_X0_fit_2 ?_
    rw [hn]
    exact ⟨fun _ => ret1 (h1 (fitB_iff.mpr (fun j hj => hb j (by omega)))), fun q => absurd (ix_le (by omega) (by omega)) q⟩
  | succ k ih =>
    intro i hi hb
    have hi2 : i < nA (aC M) := by omega
    have e1 : aC M 1 i = M 10 2 i := tr_lt (show i < nA (aC M) from hi2)
    have e2 : aC M 2 i = M 10 3 i := tr_lt (show i < nA (aC M) from hi2)
    have e3 : aC M 3 i = M 10 4 i := tr_lt (show i < nA (aC M) from hi2)
    obtain ⟨⟨p, hp, ep⟩, -, -⟩ := hA.2.2.2.2.1 i hi2
    have hgo : askP (aC M) t z i → am_WP E (am_WM E d) am_L_X0_fit Q 2 [aO 0 10, aI (nI t), aI (nI z), aI (nI (i + 1))] [] M R := fun hh => ih (i + 1) (by omega) (fun j hj => by
      by_cases e : j = i
      · rw [e]; exact hh
      · exact hb j (by omega))
    refine w_X0_fit_2 ?_
    rw [hn, ix_cl (n := i) (by omega), nI_1, ← e1, ← e2, ← e3, ep, bt_v]
    have hin : vp_in (nI i) 8 := ix_in (by omega) (by omega)
    have e4 : askP (aC M) t z i ↔ (aC M 2 i = nI t → (if bt (nI z) p = true then (1 : Int32) else 0) = aC M 3 i) := by
      unfold askP
      rw [ep, ix_cl (by omega)]
    refine ⟨fun q => absurd q (ix_ge (by omega) (by omega)), fun _ => ⟨hin, fun q => hgo (fun y => absurd y q), fun q => ⟨hin, hin, fun y => hgo (e4.mpr (fun _ => y)), fun y => ret0 (h0 ?_)⟩⟩⟩
    exact Bool.eq_false_iff.mpr (fun w => y (e4.mp (fitB_iff.mp w i hi2) q))
theorem m_X0_fit {M : am_M} {t z N : Nat} (hA : WA (aC M) N) (hN : N ≤ 8) (h1 : fitB (aC M) t z = true → Q (some (aI 1)) M R) (h0 : fitB (aC M) t z = false → Q (some (aI 0)) M R) : am_WM E (d + 1) 3 [aO 0 10, aI (nI t), aI (nI z)] M R Q := by
  refine w_X0_fit ?_
  exact fit_loop hA hN h1 h0 (nA (aC M)) 0 (by omega) (fun j hj => absurd hj (by omega))
def PdOk (M : am_M) (σ : Sc) (t j : Nat) : Prop := match dcF σ t 8 j with
  | none => M 12 0 j = -1
  | some (l, q) => M 12 0 j = nI q ∧ M 12 1 j = nI l
theorem follow_loop {M : am_M} {t p : Nat} (hF : Wf (vc M g c)) (hL : LkOk M g c) (ht : M 12 7 0 = nI t) (hp : p < 8) : ∀ (k l p' : Nat), l + k = 8 → p' < sN (vc M g c) → (match dcF (vc M g c) t k p' with | some (a, q) => Q none (am_up (am_up M 12 0 p (nI q)) 12 1 p (nI (l + a))) R | none => Q none M R) → am_WP E (am_WM E (d + 1)) am_L_X1_followChain Q 12 [aO 1 12, aO 4 c, aI (nI p), aI (nI p'), aI (nI l), aU] [] M R := by
  have h8 := hF.1.1
  have h4 := hF.1.2.2.1
  intro k
  induction k with
  | zero =>
    intro l p' hl hp' h
    have : l = 8 := by omega
    subst this
    exact w_X1_followChain_12 ⟨fun _ => h, fun q => absurd (by decide) q⟩
  | succ k ih =>
    intro l p' hl hp' h
    refine w_X1_followChain_12 ⟨fun q => absurd q (ix_ge (n := 8) (by omega) (by omega)), fun _ => m_X4_has hF.1.2.1 h8 (fun p2 hp2 e => k1e (m_X4_openTo (g := g) h8 hp' (kv ?_))) (fun hne => absurd rfl (hne p' hp'))⟩
    rw [ht]
    unfold dcF at h
    refine m_X6_holds (fun ho => kv ⟨fun _ => ?_, fun q => absurd q (by decide)⟩) (fun ho => kv ⟨fun q => absurd rfl q, fun _ => ?_⟩)
    · rw [if_pos ho] at h
      refine m_X4_sourceOf (g := g) hF.1.2.1 h8 h4 hp' hL (kv ?_)
      rw [nI_1]
      rcases srcF_cases (vc M g c) p' h8 h4 with e | ⟨q2, hq2, e, -⟩ | ⟨q2, hq2, e, -⟩
      · rw [e, if_pos (by decide)] at h
        rw [e]
        refine ⟨fun _ => w_X1_followChain_12 ⟨fun _ => h, fun _ => m_X4_has hF.1.2.1 h8 (fun p2 hp2 e => absurd e.symm (ix_neg1 (by omega))) (fun _ => k0e h)⟩, fun q => absurd (by decide) q⟩
      · have hlt : nI q2 < 10 := nI_lt (b := 10) (by omega) (by omega)
        rw [e, if_neg (ix_lt (by omega)), if_pos hlt, ix_cl (by omega)] at h
        rw [e]
        refine ⟨fun _ => ih (l + 1) q2 (by omega) hq2 ?_, fun q => absurd hlt q⟩
        cases hd : dcF (vc M g c) t k q2 with
        | none => rw [hd] at h; exact h
        | some x =>
          rw [hd] at h
          obtain ⟨a, q3⟩ := x
          have h' : Q none (am_up (am_up M 12 0 p (nI q3)) 12 1 p (nI (l + (a + 1)))) R := h
          show Q none (am_up (am_up M 12 0 p (nI q3)) 12 1 p (nI (l + 1 + a))) R
          rw [show l + 1 + a = l + (a + 1) from by omega]
          exact h'
      · have hge : ¬ nI (10 + q2) < 10 := nI_nlt (b := 10) (by omega) (by omega)
        rw [e, if_neg (ix_lt (by omega)), if_neg hge, ix_cl (by omega), show 10 + q2 - 10 = q2 from by omega] at h
        rw [e]
        refine ⟨fun q => absurd q hge, fun _ => ⟨ix_in hp (by omega), ix_in hp (by omega), ?_⟩⟩
        rw [ix_cl (n := p) (by omega), show nI (10 + q2) - 10 = nI q2 from by rw [show nI (10 + q2) - 10 = nI (10 + q2 - 10) from pk_sub (b := 10) (by omega)]; congr 1; omega]
        exact h
    · rw [if_neg (by rw [ho]; decide)] at h
      exact h
theorem m_X1_followChain {M : am_M} {t p : Nat} (hgc : g ≠ 12) (hc : c ≠ 12) (hF : Wf (vc M g c)) (hL : LkOk M g c) (ht : M 12 7 0 = nI t) (hp : p < sN (vc M g c)) (h : ∀ M', eqX [(12, 0), (12, 1)] M M' → (∀ j, j ≠ p → M' 12 0 j = M 12 0 j ∧ M' 12 1 j = M 12 1 j) → PdOk M' (vc M g c) t p → Q none M' R) : am_WM E (d + 2) 6 [aO 1 12, aO 4 c, aI (nI p)] M R Q := by
  have h8 := hF.1.1
  refine w_X1_followChain ⟨ix_in (by omega) (by omega), ?_⟩
  rw [ix_cl (n := p) (by omega)]
  have hX : eqX [(12, 0), (12, 1)] M (am_up M 12 0 p (-1)) := eqX_up eqX_rfl (by simp)
  have hv : vc (am_up M 12 0 p (-1)) g c = vc M g c := vc_same (fun k => hX g k (by simp [hgc])) (fun k _ => hX c k (by simp [hc]))
  have hL1 : LkOk (am_up M 12 0 p (-1)) g c := LkOk_of hL hv (hX c 9 (by simp [hc]))
  refine follow_loop (by rw [hv]; exact hF) hL1 (by rw [up_k (by decide)]; exact ht) (by omega) 8 0 p (by omega) (by rw [hv]; exact hp) ?_
  rw [hv]
  unfold PdOk at h
  cases hd : dcF (vc M g c) t 8 p with
  | none =>
    rw [hd] at h
    exact h _ hX (fun j hj => ⟨up_i hj, by rw [up_k (by decide)]⟩) up_s
  | some x =>
    rw [hd] at h
    obtain ⟨a, q⟩ := x
    show Q none (am_up (am_up (am_up M 12 0 p (-1)) 12 0 p (nI q)) 12 1 p (nI (0 + a))) R
    refine h _ (eqX_up (eqX_up hX (by simp)) (by simp)) (fun j hj => ⟨?_, ?_⟩) ⟨?_, ?_⟩
    · rw [up_k (by decide), up_i hj, up_i hj]
    · rw [up_i hj, up_k (by decide), up_k (by decide)]
    · rw [up_k (by decide), up_s]
    · rw [up_s, Nat.zero_add]
def psS : List (Nat × Nat) := [(12, 0), (12, 1), (12, 2), (12, 3), (12, 4), (12, 5), (12, 6), (12, 7)]
def PtOk (M : am_M) (σ : Sc) (t h : Nat) : Prop := M 12 3 0 = nI (sN σ) ∧ M 12 4 0 = nI (sD σ) ∧ M 12 5 0 = nI h ∧ M 12 6 0 = nI (min h 61) ∧ M 12 7 0 = nI t ∧ ∀ j, j < sN σ → PdOk M σ t j
theorem go_loop {M0 : am_M} {σ : Sc} {t h : Nat} (hgc : g ≠ 12) (hc : c ≠ 12) (hv0 : vc M0 g c = σ) (hF : Wf σ) (hL : LkOk M0 g c) (hQ : ∀ M', eqX psS M0 M' → PtOk M' σ t h → Q none M' R) : ∀ (k i : Nat) (M : am_M), i + k = sN σ → eqX psS M0 M → (M 12 3 0 = nI (sN σ) ∧ M 12 4 0 = nI (sD σ) ∧ M 12 5 0 = nI h ∧ M 12 6 0 = nI (min h 61) ∧ M 12 7 0 = nI t ∧ ∀ j, j < i → PdOk M σ t j) → am_WP E (am_WM E (d + 2)) am_L_X1_goThrough Q 45 [aO 1 12, aU, aO 4 c, aU, aI (nI i)] [] M R := by
  have h8 := hF.1.1
  intro k
  induction k with
  | zero =>
    intro i M hi hX hI
    refine w_X1_goThrough_45 ?_
    rw [hI.1]
    refine ⟨fun _ => hQ M hX ⟨hI.1, hI.2.1, hI.2.2.1, hI.2.2.2.1, hI.2.2.2.2.1, fun j hj => hI.2.2.2.2.2 j (by omega)⟩, fun q => absurd (ix_le (by omega) (by omega)) q⟩
  | succ k ih =>
    intro i M hi hX hI
    refine w_X1_goThrough_45 ?_
    rw [hI.1, nI_1]
    have hv : vc M g c = σ := by
      rw [← hv0]
      exact vc_same (fun k => hX g k (by simp [psS, hgc])) (fun k _ => hX c k (by simp [psS, hc]))
    have hL1 : LkOk M g c := LkOk_of hL (hv.trans hv0.symm) (hX c 9 (by simp [psS, hc]))
    refine ⟨fun q => absurd q (ix_ge (by omega) (by omega)), fun _ => m_X1_followChain hgc hc (by rw [hv]; exact hF) hL1 hI.2.2.2.2.1 (by rw [hv]; omega) (fun M' hX' hj hP => ⟨rfl, ?_⟩)⟩
    rw [hv] at hP
    refine ih (i + 1) M' (by omega) (eqX_tr hX (eqX_sub hX' (by simp [psS]))) ⟨?_, ?_, ?_, ?_, ?_, fun j hj' => ?_⟩
    · rw [hX' 12 3 (by simp)]; exact hI.1
    · rw [hX' 12 4 (by simp)]; exact hI.2.1
    · rw [hX' 12 5 (by simp)]; exact hI.2.2.1
    · rw [hX' 12 6 (by simp)]; exact hI.2.2.2.1
    · rw [hX' 12 7 (by simp)]; exact hI.2.2.2.2.1
    · by_cases e : j = i
      · rw [e]; exact hP
      · have := hI.2.2.2.2.2 j (by omega)
        unfold PdOk at this ⊢
        rw [(hj j e).1, (hj j e).2]
        exact this
theorem m_X1_goThrough {M : am_M} {t h : Nat} (hgc : g ≠ 12) (hc : c ≠ 12) (hF : Wf (vc M g c)) (hL : LkOk M g c) (h5 : vc M g c 5 0 = nI h) (hh : h ≤ 99000) (hQ : ∀ M', eqX psS M M' → PtOk M' (vc M g c) t h → Q none M' R) : am_WM E (d + 3) 5 [aO 1 12, aO 2 g, aO 4 c, aI (nI t)] M R Q := by
  have e5 : M c 2 0 = nI h := h5
  have eN : M c 0 0 = nI (sN (vc M g c)) := hF.1.2.1
  have eD : M g 2 0 = nI (sD (vc M g c)) := hF.1.2.2.2.1
  refine w_X1_goThrough ?_
  rw [up_o (o' := g) (k' := 2) hgc, up_o (o' := c) (k' := 2) hc, up_o (o' := c) (k' := 2) hc, up_s, e5, eN, eD]
  have em : (if (61 : Int32) < nI h then (61 : Int32) else nI h) = nI (min h 61) := by
    by_cases e : 61 < h
    · rw [if_pos (c := (61 : Int32) < nI h) (nI_lt (a := 61) e (by omega)), Nat.min_eq_right (by omega)]; rfl
    · rw [if_neg (c := (61 : Int32) < nI h) (nI_nlt (a := 61) (b := h) (by omega) (by omega)), Nat.min_eq_left (by omega)]
  rw [em]
  refine go_loop hgc hc (h := h) rfl hF hL hQ (sN (vc M g c)) 0 _ (by omega) (eqX_up (eqX_up (eqX_up (eqX_up (eqX_up eqX_rfl (by simp [psS])) (by simp [psS])) (by simp [psS])) (by simp [psS])) (by simp [psS])) ⟨?_, ?_, ?_, ?_, up_s, fun j hj => absurd hj (by omega)⟩
  · rw [up_k (by decide), up_k (by decide), up_k (by decide), up_k (by decide), up_s]
  · rw [up_k (by decide), up_k (by decide), up_k (by decide), up_s]
  · rw [up_k (by decide), up_k (by decide), up_s]
  · rw [up_k (by decide), up_s]
theorem knof_loop {M : am_M} {σ : Sc} {t h q z : Nat} (h8 : sN σ ≤ 8) (h4 : sD σ ≤ 4) (hP : PtOk M σ t h) (hq : q < sD σ) (hz : z ≤ 100) (hh : h ≤ 99000) (hQ : Q (some (aI (nI (bsN (knB σ t h q z) (sN σ))))) M R) : ∀ (k i y : Nat), i + k = sN σ → bsI (knB σ t h q z) i y → am_WP E (am_WM E d) am_L_X1_knowersOf Q 5 [aO 1 12, aI (nI q), aI (nI z), aI (nI y), aI (nI i)] [] M R := by
  intro k
  induction k with
  | zero =>
    intro i y hi hy
    have : i = sN σ := by omega
    subst this
    refine w_X1_knowersOf_5 ?_
    rw [hP.1]
    refine ⟨fun _ => ?_, fun q => absurd (ix_le (by omega) (by omega)) q⟩
    rw [bsN_eq hy]; exact hQ
  | succ k ih =>
    intro i y hi hy
    have hd := hP.2.2.2.2.2 i (by omega)
    unfold PdOk at hd
    have hin : vp_in (nI i) 8 := ix_in (by omega) (by omega)
    refine w_X1_knowersOf_5 ?_
    rw [hP.1, ix_cl (n := i) (by omega), sh1 (by omega), nI_or, nI_1, nI_1, hP.2.2.1]
    refine ⟨fun q => absurd q (ix_ge (by omega) (by omega)), fun _ => ⟨hin, ?_⟩⟩
    cases hv : dcF σ t 8 i with
    | none =>
      rw [hv] at hd
      have e : M 12 0 i = -1 := hd
      have hk : knB σ t h q z i = false := by unfold knB; rw [hv]
      rw [e]
      exact ⟨fun _ => ih (i + 1) y (by omega) (bsI_f hy hk), fun y => absurd y.symm (ix_neg1 (by omega))⟩
    | some x =>
      obtain ⟨l, q2⟩ := x
      rw [hv] at hd
      obtain ⟨d1, d2⟩ : M 12 0 i = nI q2 ∧ M 12 1 i = nI l := hd
      have hb := dcF_bd h4 h8 8 i l q2 hv
      have hk : knB σ t h q z i = (decide (q2 = q) && decide (z + 1 + l ≤ h)) := by unfold knB; rw [hv]
      rw [d1, d2, nI_add, ix_eq (by omega) (by omega)]
      refine ⟨fun e => ih (i + 1) y (by omega) (bsI_f hy (by rw [hk, decide_eq_false e, Bool.false_and])), fun e => ⟨hin, fun w => ih (i + 1) y (by omega) (bsI_f hy ?_), fun w => ih (i + 1) _ (by omega) (bsI_t hy ?_)⟩⟩
      · rw [nI_ltI (by omega) (by omega)] at w
        rw [hk, decide_eq_false (fun y : z + 1 + l ≤ h => by omega), Bool.and_false]
      · rw [nI_ltI (by omega) (by omega)] at w
        rw [hk, decide_eq_true e, decide_eq_true (show z + 1 + l ≤ h by omega)]
        rfl
theorem m_X1_knowersOf {M : am_M} {σ : Sc} {t h q z : Nat} (h8 : sN σ ≤ 8) (h4 : sD σ ≤ 4) (hP : PtOk M σ t h) (hq : q < sD σ) (hz : z ≤ 100) (hh : h ≤ 99000) (hQ : Q (some (aI (nI (bsN (knB σ t h q z) (sN σ))))) M R) : am_WM E (d + 1) 7 [aO 1 12, aI (nI q), aI (nI z)] M R Q := by
  refine w_X1_knowersOf ?_
  exact knof_loop h8 h4 hP hq hz hh hQ (sN σ) 0 0 (by omega) bsI_0
end Past
