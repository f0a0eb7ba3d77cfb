/-! the class's reader: a clause, the whole text -/
section HouseC
variable {E : Nat → Nat → Int32} {d : Nat} {Q : am_Q} {R : am_R} {n a g : Nat} {L : Nat → Int32} {ρ : Sc}
theorem skany_loop (hn : n ≤ 240) {M0 : am_M} (hQ : ∀ M', eqX [(1, 2)] M0 M' → Q none M' R) : ∀ (k a : Nat) (M : am_M), a + k = n → M 1 1 0 = nI n → M 1 2 0 = nI a → eqX [(1, 2)] M0 M → am_WP E (am_WM E (d + 1)) am_L_X3_skipBlanks Q 0 [aO 3 1] [] M R := by
  intro k
  induction k with
  | zero =>
    intro a M ha h1 h2 hX
    refine w_X3_skipBlanks_0 ?_
    rw [h1, h2]
    exact ⟨fun _ => hQ M hX, fun y => absurd (ix_le (by omega) (by omega)) y⟩
  | succ k ih =>
    intro a M ha h1 h2 hX
    refine w_X3_skipBlanks_0 ?_
    rw [h1, h2]
    refine ⟨fun y => absurd y (ix_ge (by omega) (by omega)), fun _ => w_X3_letterHere ?_⟩
    rw [h1, h2, ix_cl (n := a) (by omega)]
    refine ⟨fun y => absurd y (ix_lt (by omega)), fun _ => ⟨fun y => absurd y (ix_ge (by omega) (by omega)), fun _ => ⟨ix_in (by omega) (by omega), kv ⟨fun y => hQ M hX, fun y => ?_⟩⟩⟩⟩
    rw [nI_1]
    exact ih (a + 1) _ (by omega) (by rw [up_k (by decide)]; exact h1) up_s (eqX_up hX (by simp))
theorem m_X3_skipAny {M : am_M} (hn : n ≤ 240) (ha : a ≤ n) (h1 : M 1 1 0 = nI n) (h2 : M 1 2 0 = nI a) (hQ : ∀ M', eqX [(1, 2)] M M' → Q none M' R) : am_WM E (d + 2) 25 [aO 3 1] M R Q := by
  refine w_X3_skipBlanks ?_
  rw [h1, h2]
  by_cases e : n ≤ a
  · exact ⟨fun _ => hQ M eqX_rfl, fun y => absurd (ix_le (by omega) (by omega)) y⟩
  · refine ⟨fun y => absurd y (ix_ge (by omega) (by omega)), fun _ => w_X3_letterHere ?_⟩
    rw [h1, h2, ix_cl (n := a) (by omega)]
    refine ⟨fun y => absurd y (ix_lt (by omega)), fun _ => ⟨fun y => absurd y (ix_ge (by omega) (by omega)), fun _ => ⟨ix_in (by omega) (by omega), kv ⟨fun y => hQ M eqX_rfl, fun y => ?_⟩⟩⟩⟩
    rw [nI_1]
    exact skany_loop hn hQ (n - (a + 1)) (a + 1) _ (by omega) (by rw [up_k (by decide)]; exact h1) up_s (eqX_up eqX_rfl (by simp))
theorem m_X3_isWord {M : am_M} {x : Int32} (h1 : (x = 119 ∨ x = 112 ∨ x = 100 ∨ x = 101 ∨ x = 115) → Q (some (aI 1)) M R) (h0 : ¬ (x = 119 ∨ x = 112 ∨ x = 100 ∨ x = 101 ∨ x = 115) → Q (some (aI 0)) M R) : am_WM E (d + 1) 27 [aI x] M R Q := by
  refine w_X3_isWord ⟨fun y => ret1 (h1 (Or.inl y)), fun y => ⟨fun y2 => ret1 (h1 (Or.inr (Or.inl y2))), fun y2 => ⟨fun y3 => ret1 (h1 (Or.inr (Or.inr (Or.inl y3)))), fun y3 => ⟨fun y4 => ret1 (h1 (Or.inr (Or.inr (Or.inr (Or.inl y4))))), fun y4 => ⟨fun y5 => ret0 (h0 ?_), fun y5 => ret1 (h1 (Or.inr (Or.inr (Or.inr (Or.inr y5)))))⟩⟩⟩⟩⟩
  rintro (z | z | z | z | z)
  · exact y z
  · exact y2 z
  · exact y3 z
  · exact y4 z
  · exact y5 z
theorem m_X3_readClause {M : am_M} (hg : g = 2 ∨ g = 3) (hRg : R g 10 = g + 2) (hn : n ≤ 240) (hR : RdC M n L a) (ha : a < n) (hv : rvC M g = ρ) (hP : PW ρ) (hF : CF M g n (CL n L ρ a) Q R) (hK : CK M g n L (CL n L ρ a) Q R) : am_WM E (d + 5) 29 [aO 3 1, aO 2 g] M R Q := by
  have h8 := hP.1.1.1
  have h4 := hP.1.1.2.2.1
  have h8C := hP.1.1.2.2.2.2.1
  obtain ⟨ki, hki, eki⟩ := hP.2.1
  have e00 : M g 0 0 = ρ 0 0 := by rw [← hv]; rfl
  have eN : M (g + 2) 0 0 = nI (sN ρ) := by rw [← hP.1.1.2.1, ← hv]; rfl
  have eD : M g 2 0 = nI (sD ρ) := by rw [← hP.1.1.2.2.2.1, ← hv]; rfl
  have eC : M g 3 0 = nI (sC ρ) := by rw [← hP.1.1.2.2.2.2.2.1, ← hv]; rfl
  have eF : M g 4 0 = nI ki := by rw [← eki, ← hv]; rfl
  have hX1 : eqX [(1, 2), (1, 3)] M (am_up M 1 2 0 (nI (a + 1))) := eqX_up eqX_rfl (by simp)
  have hR1 : RdC (am_up M 1 2 0 (nI (a + 1))) n L (a + 1) := RdC_at hR hX1 up_s
  have hv1 : rvC (am_up M 1 2 0 (nI (a + 1))) g = ρ := (rv_1 hg hX1 rd2_1).trans hv
  have h15 : am_up M 1 2 0 (nI (a + 1)) 1 5 0 = M 1 5 0 := up_k (by decide)
  have hfail : ∀ f, 1 ≤ f → f ≤ 4 → CL n L ρ a = Sum.inl (f, a) → am_WM E (d + 4) 23 [aO 3 1, aI (M 1 2 0), aI (nI f)] M R (fun r M7 R8 => r = none ∧ Q none M7 R8) := fun f h1 h2 e => by
    refine m_X3_failAt hR.2.2.2 (fun M' hX e4 e5 => ⟨rfl, hF f a e M' (frD_of hX rd45_1) e4 ⟨by rw [e5, hR.2.2.1], a, by omega, by rw [hX 1 2 (by simp)]; exact hR.2.2.1⟩⟩)
  have hF1 : ∀ {o : Out}, CL n L ρ a = o → CF (am_up M 1 2 0 (nI (a + 1))) g n o (fun r M' R' => r = none ∧ Q none M' R') R := fun {o} e f p e' M' hfr e4 e5 => ⟨rfl, hF f p (e.trans e') M' (frD_tr (frD_of hX1 rd2_1) hfr) e4 e5⟩
  have hK1 : ∀ {o : Out}, CL n L ρ a = o → CK (am_up M 1 2 0 (nI (a + 1))) g n L o (fun r M' R' => r = none ∧ Q none M' R') R := fun {o} e ρ' e2 e' M' hfr hR' e5 hv' => ⟨rfl, hK ρ' e2 (e.trans e') M' (frD_tr (frD_of hX1 rd2_1) hfr) hR' (by rw [e5, h15]) hv'⟩
  refine w_X3_readClause (m_X3_letterHere hn hR (by omega) (kv ?_))
  by_cases w0 : ltF n L a = 119
  · rw [w0]
    have eCL : CL n L ρ a = if ρ 0 0 = 0 then clW n L ρ (a + 1) else Sum.inl (3, a) := by unfold CL; rw [if_pos w0]
    refine m_X3_isWord (fun _ => k1e ?_) (fun z => absurd (Or.inl rfl) z)
    rw [e00]
    refine ⟨fun y => ?_, fun y => ⟨fun _ => ?_, fun z => absurd rfl z⟩⟩
    · rw [if_neg y] at eCL
      refine w_X3_isOneTooMany ⟨fun z => absurd z (by decide), fun _ => ⟨fun z => absurd z (by decide), fun _ => ⟨fun z => absurd z (by decide), fun _ => ⟨fun _ => ?_, fun z => absurd (by decide) z⟩⟩⟩⟩
      rw [e00]
      obtain ⟨w, hw, ew⟩ := hP.1.1.2.2.2.2.2.2.1
      refine ⟨fun z => ?_, fun z => ret1 (k1e (hfail 3 (by omega) (by omega) eCL))⟩
      rw [ew] at z y
      have z' : nI w ≤ nI 0 := z
      rw [nI_leI (by omega) (by omega)] at z'
      exact absurd (by rw [show w = 0 from by omega]; rfl) y
    · rw [if_pos y] at eCL
      refine w_X3_isOneTooMany ⟨fun z => absurd z (by decide), fun _ => ⟨fun z => absurd z (by decide), fun _ => ⟨fun z => absurd z (by decide), fun _ => ⟨fun _ => ?_, fun z => absurd (by decide) z⟩⟩⟩⟩
      rw [e00, y]
      refine ⟨fun _ => ret0 (k0e ⟨fun z => absurd z (by decide), fun _ => ⟨fun z => absurd z (by decide), fun _ => ⟨fun z => absurd z (by decide), fun _ => ⟨fun _ => ?_, fun z => absurd (by decide) z⟩⟩⟩⟩), fun z => absurd (by decide) z⟩
      rw [hR.2.2.1, nI_1]
      exact m_X3_readWall hg hn hR1 (by omega) hv1 (hF1 eCL) (hK1 eCL)
  by_cases w1 : ltF n L a = 112
  · rw [w1]
    have eCL : CL n L ρ a = if ρ 0 0 = 0 then Sum.inl (1, a) else if sN ρ = 8 then Sum.inl (3, a) else clP n L ρ (a + 1) := by unfold CL; rw [if_neg w0, if_pos w1]
    refine m_X3_isWord (fun _ => k1e ?_) (fun z => absurd (Or.inr (Or.inl rfl)) z)
    rw [e00]
    refine ⟨fun y => ?_, fun y => ⟨fun z => absurd z (by decide), fun _ => hfail 1 (by omega) (by omega) (by rw [eCL, if_pos y])⟩⟩
    rw [if_neg y] at eCL
    refine w_X3_isOneTooMany ⟨fun z => absurd z (by decide), fun _ => ⟨fun z => absurd z (by decide), fun _ => ⟨fun _ => ?_, fun z => absurd (by decide) z⟩⟩⟩
    rw [hRg, eN]
    refine ⟨fun z => ret0 (k0e ⟨fun z => absurd z (by decide), fun _ => ⟨fun z => absurd z (by decide), fun _ => ⟨fun _ => ?_, fun z => absurd (by decide) z⟩⟩⟩), fun z => ret1 (k1e (hfail 3 (by omega) (by omega) (eCL.trans (if_pos ?_))))⟩
    · have z' : nI (sN ρ) < nI 8 := z
      rw [nI_ltI (by omega) (by omega)] at z'
      rw [if_neg (by omega)] at eCL
      rw [hR.2.2.1, nI_1]
      exact m_X3_readPicture hg hRg hn hR1 (by omega) hv1 hP z' (hF1 eCL) (hK1 eCL)
    · have z' : ¬ nI (sN ρ) < nI 8 := z
      rw [nI_ltI (by omega) (by omega)] at z'
      omega
  by_cases w2 : ltF n L a = 100
  · rw [w2]
    have eCL : CL n L ρ a = if ρ 0 0 = 0 then Sum.inl (1, a) else if sD ρ = 4 then Sum.inl (3, a) else clD n L ρ (a + 1) := by unfold CL; rw [if_neg w0, if_neg w1, if_pos w2]
    refine m_X3_isWord (fun _ => k1e ?_) (fun z => absurd (Or.inr (Or.inr (Or.inl rfl))) z)
    rw [e00]
    refine ⟨fun y => ?_, fun y => ⟨fun z => absurd z (by decide), fun _ => hfail 1 (by omega) (by omega) (by rw [eCL, if_pos y])⟩⟩
    rw [if_neg y] at eCL
    refine w_X3_isOneTooMany ⟨fun _ => ?_, fun z => absurd (by decide) z⟩
    rw [eD]
    refine ⟨fun z => ret0 (k0e ⟨fun _ => ?_, fun z => absurd (by decide) z⟩), fun z => ret1 (k1e (hfail 3 (by omega) (by omega) (eCL.trans (if_pos ?_))))⟩
    · have z' : nI (sD ρ) < nI 4 := z
      rw [nI_ltI (by omega) (by omega)] at z'
      rw [if_neg (by omega)] at eCL
      rw [hR.2.2.1, nI_1]
      exact m_X3_readDoor hg hRg hn hR1 (by omega) hv1 hP z' (hF1 eCL) (hK1 eCL)
    · have z' : ¬ nI (sD ρ) < nI 4 := z
      rw [nI_ltI (by omega) (by omega)] at z'
      omega
  by_cases w3 : ltF n L a = 101
  · rw [w3]
    have eCL : CL n L ρ a = if ρ 0 0 = 0 then Sum.inl (1, a) else if sC ρ = 8 then Sum.inl (3, a) else clE n L ρ (a + 1) := by unfold CL; rw [if_neg w0, if_neg w1, if_neg w2, if_pos w3]
    refine m_X3_isWord (fun _ => k1e ?_) (fun z => absurd (Or.inr (Or.inr (Or.inr (Or.inl rfl)))) z)
    rw [e00]
    refine ⟨fun y => ?_, fun y => ⟨fun z => absurd z (by decide), fun _ => hfail 1 (by omega) (by omega) (by rw [eCL, if_pos y])⟩⟩
    rw [if_neg y] at eCL
    refine w_X3_isOneTooMany ⟨fun z => absurd z (by decide), fun _ => ⟨fun _ => ?_, fun z => absurd (by decide) z⟩⟩
    rw [eC]
    refine ⟨fun z => ret0 (k0e ⟨fun z => absurd z (by decide), fun _ => ⟨fun _ => ?_, fun z => absurd (by decide) z⟩⟩), fun z => ret1 (k1e (hfail 3 (by omega) (by omega) (eCL.trans (if_pos ?_))))⟩
    · have z' : nI (sC ρ) < nI 8 := z
      rw [nI_ltI (by omega) (by omega)] at z'
      rw [if_neg (by omega)] at eCL
      rw [hR.2.2.1, nI_1]
      exact m_X3_readComing hg hn hR1 (by omega) hv1 hP z' (hF1 eCL) (hK1 eCL)
    · have z' : ¬ nI (sC ρ) < nI 8 := z
      rw [nI_ltI (by omega) (by omega)] at z'
      omega
  by_cases w4 : ltF n L a = 115
  · rw [w4]
    have eCL : CL n L ρ a = if ρ 0 0 = 0 then Sum.inl (1, a) else if ρ 20 0 = 8 then Sum.inl (3, a) else clS n L ρ (a + 1) := by unfold CL; rw [if_neg w0, if_neg w1, if_neg w2, if_neg w3, if_pos w4]
    refine m_X3_isWord (fun _ => k1e ?_) (fun z => absurd (Or.inr (Or.inr (Or.inr (Or.inr rfl)))) z)
    rw [e00]
    refine ⟨fun y => ?_, fun y => ⟨fun z => absurd z (by decide), fun _ => hfail 1 (by omega) (by omega) (by rw [eCL, if_pos y])⟩⟩
    rw [if_neg y] at eCL
    refine w_X3_isOneTooMany ⟨fun z => absurd z (by decide), fun _ => ⟨fun z => absurd z (by decide), fun _ => ⟨fun z => absurd z (by decide), fun _ => ⟨fun z => absurd z (by decide), fun _ => ?_⟩⟩⟩⟩
    rw [eF]
    refine ⟨fun z => ret0 (k0e ⟨fun z => absurd z (by decide), fun _ => ⟨fun z => absurd z (by decide), fun _ => ⟨fun z => absurd z (by decide), fun _ => ⟨fun z => absurd z (by decide), fun _ => ?_⟩⟩⟩⟩), fun z => ret1 (k1e (hfail 3 (by omega) (by omega) (eCL.trans (if_pos ?_))))⟩
    · have z' : nI ki < nI 8 := z
      rw [nI_ltI (by omega) (by omega)] at z'
      have h20 : ¬ ρ 20 0 = 8 := fun q => by
        rw [eki] at q
        have q' : nI ki = nI 8 := q
        rw [ix_eq (by omega) (by omega)] at q'
        omega
      rw [if_neg h20] at eCL
      rw [hR.2.2.1, nI_1]
      exact m_X3_readFirst hg hRg hn hR1 (by omega) hv1 hP (hF1 eCL) (hK1 eCL)
    · have z' : ¬ nI ki < nI 8 := z
      rw [nI_ltI (by omega) (by omega)] at z'
      rw [eki, show ki = 8 from by omega]; rfl
  · have eCL : CL n L ρ a = Sum.inl (1, a) := by unfold CL; rw [if_neg w0, if_neg w1, if_neg w2, if_neg w3, if_neg w4]
    refine m_X3_isWord (fun z => ?_) (fun _ => k0e (hfail 1 (by omega) (by omega) eCL))
    rcases z with z | z | z | z | z
    · exact absurd z w0
    · exact absurd z w1
    · exact absurd z w2
    · exact absurd z w3
    · exact absurd z w4
theorem PL_end {k : Nat} {ρ : Sc} {a : Nat} (h : n ≤ a) : PL n L k ρ a = Sum.inr ρ := by
  cases k with
  | zero => rfl
  | succ k => unfold PL; rw [if_neg (by omega)]
theorem into_loop {M0 : am_M} {res : Flt ⊕ Sc} (hg : g = 2 ∨ g = 3) (hRg : R g 10 = g + 2) (hn : n ≤ 240)
    (hF : ∀ f p, res = Sum.inl (f, p) → 1 ≤ f → f ≤ 4 → ∀ M', frD g M0 M' → M' 1 5 0 = nI p → Q (some (aI (nI f))) M' R)
    (hK : ∀ ρ', res = Sum.inr ρ' → PW ρ' → ∀ M', frD g M0 M' → M' 1 5 0 = -1 → rvC M' g = ρ' → Q (some (aI 0)) M' R) :
    ∀ (k i a : Nat) (ρ : Sc) (M : am_M), i + k = n → i ≤ a → a ≤ n → PL n L k ρ a = res → frD g M0 M → RdC M n L a → M 1 5 0 = -1 → rvC M g = ρ → PW ρ → am_WP E (am_WM E (d + 5)) am_L_X3_readInto Q 25 [aO 3 1, aO 2 g, aI (nI i)] [] M R := by
  intro k
  induction k with
  | zero =>
    intro i a ρ M hi hia han he hfr hR h5 hv hP
    have hq := hK ρ he.symm hP M hfr h5 hv
    refine w_X3_readInto_25 ?_
    rw [hR.1, hR.2.2.1, hR.2.2.2]
    exact ⟨fun _ => hq, fun _ => ⟨fun _ => hq, fun y => absurd (ix_le (by omega) (by omega)) y⟩⟩
  | succ k ih =>
    intro i a ρ M hi hia han he hfr hR h5 hv hP
    refine w_X3_readInto_25 ?_
    rw [hR.1, hR.2.2.1, hR.2.2.2]
    refine ⟨fun y => absurd y (ix_ge (n := 240) (by omega) (by omega)), fun _ => ⟨fun y => ?_, fun y => ⟨fun z => absurd rfl z, fun _ => ?_⟩⟩⟩
    · rw [nI_leI (by omega) (by omega)] at y
      rw [PL_end y] at he
      exact hK ρ he.symm hP M hfr h5 hv
    · rw [nI_leI (by omega) (by omega)] at y
      have hok := CL_ok (L := L) hn (show a < n by omega) hP
      have he : (match CL n L ρ a with | Sum.inl x => Sum.inl x | Sum.inr (ρ', a') => PL n L k ρ' (skp n L a')) = res := by
        unfold PL at he
        rw [if_pos (by omega)] at he
        exact he
      refine m_X3_readClause hg hRg hn hR (by omega) hv hP (fun f p e M1 hfr1 e4 e5 => ⟨rfl, ?_⟩) (fun ρ' e2 e M1 hfr1 hR1 e5 hv1 => ⟨rfl, ?_⟩)
      · rw [e] at he hok
        obtain ⟨h1, h2, -⟩ := hok
        have h1 : 1 ≤ f := h1
        have h2 : f ≤ 4 := h2
        obtain ⟨e51, a', ha', e52⟩ := e5
        refine m_X3_skipAny hn ha' (by rw [hfr1.2.2]; exact hR.1) e52 (fun M2 hX2 => ⟨rfl, ?_⟩)
        have e42 : M2 1 4 0 = nI f := by rw [hX2 1 4 (by simp)]; exact e4
        have hq := hF f p he.symm h1 h2 M2 (frD_tr hfr (frD_tr hfr1 (frD_of hX2 (fun o k h => by simp at h; omega)))) (by rw [hX2 1 5 (by simp)]; exact e51)
        rw [← e42] at hq
        have hne := f_ne e42 h1 h2
        exact w_X3_readInto_25 ⟨fun _ => hq, fun _ => ⟨fun _ => hq, fun _ => ⟨fun _ => hq, fun z => absurd z hne⟩⟩⟩
      · rw [e] at he hok
        obtain ⟨hP1, h1, h2⟩ := hok
        have h1 : a + 1 ≤ e2 := h1
        have h2 : e2 ≤ n := h2
        have hs := skp_le (L := L) h2
        refine m_X3_skipBlanks hn hR1 h2 (fun M2 hX2 e22 => ⟨rfl, ?_⟩)
        have hX2' : eqX [(1, 2), (1, 3)] M1 M2 := eqX_sub hX2 (by simp)
        rw [nI_1]
        exact ih (i + 1) (skp n L e2) ρ' M2 (by omega) (by omega) hs.2 he (frD_tr hfr (frD_tr hfr1 (frD_of hX2' rd2_1))) (RdC_at hR1 hX2' e22) (by rw [hX2 1 5 (by simp), e5]; exact h5) ((rv_1 hg hX2' rd2_1).trans hv1) hP1
theorem m_X3_readInto {M : am_M} (hg : g = 2 ∨ g = 3) (hRg : R g 10 = g + 2) (hn : n ≤ 240) (hT1 : M 1 1 0 = nI n) (hT2 : ∀ j, j < n → M 1 0 j = L j)
    (hF : ∀ f p, PL n L n (fun _ _ => 0) (skp n L 0) = Sum.inl (f, p) → 1 ≤ f → f ≤ 4 → ∀ M', frD g M M' → M' 1 5 0 = nI p → Q (some (aI (nI f))) M' R)
    (hK : ∀ ρ', PL n L n (fun _ _ => 0) (skp n L 0) = Sum.inr ρ' → PW ρ' → ∀ M', frD g M M' → M' 1 5 0 = -1 → rvC M' g = ρ' → Q (some (aI 0)) M' R) : am_WM E (d + 6) 22 [aO 3 1, aO 2 g] M R Q := by
  refine w_X3_readInto (w_X2_clear ?_)
  rw [hRg]
  refine w_X4_clear ⟨rfl, rfl, ?_⟩
  have hfr : ∀ o, o ≠ 1 → o ≠ g → o ≠ g + 2 → (am_up (am_up (am_up (am_up (am_up (am_up (am_up (am_up (am_up (am_up (am_up (am_up M g 0 0 0) g 1 0 0) g 2 0 0) g 3 0 0) g 4 0 0) (g + 2) 0 0 0) (g + 2) 1 0 0) (g + 2) 2 0 0) (g + 2) 3 0 0) 1 2 0 0) 1 4 0 0) 1 5 0 (-1)) o = M o := fun o a1 a2 a3 => by
    funext k
    rw [am_up_off o k (fun z => a1 z.1), am_up_off o k (fun z => a1 z.1), am_up_off o k (fun z => a1 z.1), am_up_off o k (fun z => a3 z.1), am_up_off o k (fun z => a3 z.1), am_up_off o k (fun z => a3 z.1), am_up_off o k (fun z => a3 z.1), am_up_off o k (fun z => a2 z.1), am_up_off o k (fun z => a2 z.1), am_up_off o k (fun z => a2 z.1), am_up_off o k (fun z => a2 z.1), am_up_off o k (fun z => a2 z.1)]
  have hr1 : ∀ k, k ≠ 2 → k ≠ 4 → k ≠ 5 → (am_up (am_up (am_up (am_up (am_up (am_up (am_up (am_up (am_up (am_up (am_up (am_up M g 0 0 0) g 1 0 0) g 2 0 0) g 3 0 0) g 4 0 0) (g + 2) 0 0 0) (g + 2) 1 0 0) (g + 2) 2 0 0) (g + 2) 3 0 0) 1 2 0 0) 1 4 0 0) 1 5 0 (-1)) 1 k = M 1 k := fun k a1 a2 a3 => by
    rw [am_up_off 1 k (by omega), am_up_off 1 k (by omega), am_up_off 1 k (by omega), am_up_off 1 k (by omega), am_up_off 1 k (by omega), am_up_off 1 k (by omega), am_up_off 1 k (by omega), am_up_off 1 k (by omega), am_up_off 1 k (by omega), am_up_off 1 k (by omega), am_up_off 1 k (by omega), am_up_off 1 k (by omega)]
  have hrv : rvC (am_up (am_up (am_up (am_up (am_up (am_up (am_up (am_up (am_up (am_up (am_up (am_up M g 0 0 0) g 1 0 0) g 2 0 0) g 3 0 0) g 4 0 0) (g + 2) 0 0 0) (g + 2) 1 0 0) (g + 2) 2 0 0) (g + 2) 3 0 0) 1 2 0 0) 1 4 0 0) 1 5 0 (-1)) g = fun _ _ => 0 := by
    have hz : ∀ f, csc (am_up (am_up (am_up (am_up (am_up (am_up (am_up (am_up (am_up (am_up (am_up (am_up M g 0 0 0) g 1 0 0) g 2 0 0) g 3 0 0) g 4 0 0) (g + 2) 0 0 0) (g + 2) 1 0 0) (g + 2) 2 0 0) (g + 2) 3 0 0) 1 2 0 0) 1 4 0 0) 1 5 0 (-1)) g f = 0 := by
      intro f
      rcases hg with rfl | rfl
      · unfold csc; split <;> rfl
      · unfold csc; split <;> rfl
    unfold rvC
    rw [show csc (am_up (am_up (am_up (am_up (am_up (am_up (am_up (am_up (am_up (am_up (am_up (am_up M g 0 0 0) g 1 0 0) g 2 0 0) g 3 0 0) g 4 0 0) (g + 2) 0 0 0) (g + 2) 1 0 0) (g + 2) 2 0 0) (g + 2) 3 0 0) 1 2 0 0) 1 4 0 0) 1 5 0 (-1)) g = fun _ => 0 from funext hz]
    funext f j
    unfold mk
    split <;> rfl
  have h4 : (am_up (am_up (am_up (am_up (am_up (am_up (am_up (am_up (am_up (am_up (am_up (am_up M g 0 0 0) g 1 0 0) g 2 0 0) g 3 0 0) g 4 0 0) (g + 2) 0 0 0) (g + 2) 1 0 0) (g + 2) 2 0 0) (g + 2) 3 0 0) 1 2 0 0) 1 4 0 0) 1 5 0 (-1)) 1 4 0 = 0 := by rw [up_k (by decide), up_s]
  have h2 : (am_up (am_up (am_up (am_up (am_up (am_up (am_up (am_up (am_up (am_up (am_up (am_up M g 0 0 0) g 1 0 0) g 2 0 0) g 3 0 0) g 4 0 0) (g + 2) 0 0 0) (g + 2) 1 0 0) (g + 2) 2 0 0) (g + 2) 3 0 0) 1 2 0 0) 1 4 0 0) 1 5 0 (-1)) 1 2 0 = nI 0 := by rw [up_k (by decide), up_k (by decide), up_s]; rfl
  have h5 : (am_up (am_up (am_up (am_up (am_up (am_up (am_up (am_up (am_up (am_up (am_up (am_up M g 0 0 0) g 1 0 0) g 2 0 0) g 3 0 0) g 4 0 0) (g + 2) 0 0 0) (g + 2) 1 0 0) (g + 2) 2 0 0) (g + 2) 3 0 0) 1 2 0 0) 1 4 0 0) 1 5 0 (-1)) 1 5 0 = -1 := up_s
  generalize am_up (am_up (am_up (am_up (am_up (am_up (am_up (am_up (am_up (am_up (am_up (am_up M g 0 0 0) g 1 0 0) g 2 0 0) g 3 0 0) g 4 0 0) (g + 2) 0 0 0) (g + 2) 1 0 0) (g + 2) 2 0 0) (g + 2) 3 0 0) 1 2 0 0) 1 4 0 0) 1 5 0 (-1) = M1 at *
  have hR1 : RdC M1 n L 0 := ⟨by rw [hr1 1 (by decide) (by decide) (by decide)]; exact hT1, fun j hj => by rw [hr1 0 (by decide) (by decide) (by decide)]; exact hT2 j hj, h2, h4⟩
  have hs := skp_le (n := n) (L := L) (a := 0) (by omega)
  refine m_X3_skipBlanks hn hR1 (by omega) (fun M2 hX2 e2 => ⟨rfl, ?_⟩)
  have hX2' : eqX [(1, 2), (1, 3)] M1 M2 := eqX_sub hX2 (by simp)
  have hf1 : frD g M M1 := ⟨hfr, hr1 0 (by decide) (by decide) (by decide), hr1 1 (by decide) (by decide) (by decide)⟩
  exact into_loop hg hRg hn hF hK n 0 (skp n L 0) (fun _ _ => 0) M2 (by omega) (by omega) hs.2 rfl (frD_tr hf1 (frD_of hX2' rd2_1)) (RdC_at hR1 hX2' e2) (by rw [hX2 1 5 (by simp)]; exact h5) ((rv_1 hg hX2' rd2_1).trans hrv) PW_0
end HouseC
