/-! the class's reader: letters, numbers, ends -/
def RdC (M : am_M) (n : Nat) (L : Nat → Int32) (a : Nat) : Prop := M 1 1 0 = nI n ∧ (∀ j, j < n → M 1 0 j = L j) ∧ M 1 2 0 = nI a ∧ M 1 4 0 = 0
theorem RdC_at {M M' : am_M} {n a a' : Nat} {L : Nat → Int32} (h : RdC M n L a) (hX : eqX [(1, 2), (1, 3)] M M') (ha : M' 1 2 0 = nI a') : RdC M' n L a' := by
  refine ⟨?_, fun j hj => ?_, ha, ?_⟩
  · rw [hX 1 1 (by simp)]; exact h.1
  · rw [hX 1 0 (by simp)]; exact h.2.1 j hj
  · rw [hX 1 4 (by simp)]; exact h.2.2.2
section Lex
variable {E : Nat → Nat → Int32} {d : Nat} {Q : am_Q} {R : am_R} {n a : Nat} {L : Nat → Int32}
theorem m_X3_letterHere {M : am_M} (hn : n ≤ 240) (hR : RdC M n L a) (ha : a ≤ n) (hQ : Q (some (aI (ltF n L a))) M R) : am_WM E (d + 1) 24 [aO 3 1] M R Q := by
  refine w_X3_letterHere ?_
  rw [hR.1, hR.2.2.1, ix_cl (n := a) (by omega)]
  unfold ltF at hQ
  refine ⟨fun y => absurd y (ix_lt (by omega)), fun _ => ⟨fun y => ?_, fun y => ?_⟩⟩
  · rw [nI_leI (by omega) (by omega)] at y
    rw [if_neg (by omega)] at hQ
    exact hQ
  · rw [nI_leI (by omega) (by omega)] at y
    rw [if_pos (by omega), ← hR.2.1 a (by omega)] at hQ
    exact ⟨ix_in (by omega) (by omega), hQ⟩
theorem skip_loop (hn : n ≤ 240) {M0 : am_M} : ∀ (k a : Nat) (M : am_M), a + k = n → RdC M n L a → eqX [(1, 2)] M0 M → (∀ M', eqX [(1, 2)] M0 M' → M' 1 2 0 = nI (skp n L a) → Q none M' R) → am_WP E (am_WM E (d + 1)) am_L_X3_skipBlanks Q 0 [aO 3 1] [] M R := by
  intro k
  induction k with
  | zero =>
    intro a M ha hR hX hQ
    refine w_X3_skipBlanks_0 ?_
    rw [hR.1, hR.2.2.1]
    refine ⟨fun _ => hQ M hX ?_, fun y => absurd (ix_le (by omega) (by omega)) y⟩
    rw [skp_end (by omega)]; exact hR.2.2.1
  | succ k ih =>
    intro a M ha hR hX hQ
    refine w_X3_skipBlanks_0 ?_
    rw [hR.1, hR.2.2.1]
    refine ⟨fun y => absurd y (ix_ge (by omega) (by omega)), fun _ => m_X3_letterHere hn hR (by omega) (kv ?_)⟩
    have el : ltF n L a = L a := by unfold ltF; rw [if_pos (by omega)]
    rw [el]
    refine ⟨fun y => hQ M hX ?_, fun y => ?_⟩
    · rw [skp_stop (by omega) y]; exact hR.2.2.1
    · rw [skp_step (by omega) y] at hQ
      have hX1 : eqX [(1, 2), (1, 3)] M (am_up M 1 2 0 (nI (a + 1))) := eqX_up eqX_rfl (by simp)
      have := ih (a + 1) (am_up M 1 2 0 (nI (a + 1))) (by omega) (RdC_at hR hX1 up_s) (eqX_up hX (by simp)) hQ
      rw [hR.2.2.1, nI_1]
      exact this
theorem m_X3_skipBlanks {M : am_M} (hn : n ≤ 240) (hR : RdC M n L a) (ha : a ≤ n) (hQ : ∀ M', eqX [(1, 2)] M M' → M' 1 2 0 = nI (skp n L a) → Q none M' R) : am_WM E (d + 2) 25 [aO 3 1] M R Q := by
  have key := skip_loop (E := E) (d := d) (Q := Q) (R := R) hn (n - a) a M (by omega) hR eqX_rfl hQ
  refine w_X3_skipBlanks ?_
  rw [hR.1, hR.2.2.1]
  by_cases e : n ≤ a
  · refine ⟨fun _ => hQ M eqX_rfl ?_, fun y => absurd (ix_le (by omega) (by omega)) y⟩
    rw [skp_end e]; exact hR.2.2.1
  · refine ⟨fun y => absurd y (ix_ge (by omega) (by omega)), fun _ => m_X3_letterHere hn hR (by omega) (kv ?_)⟩
    have el : ltF n L a = L a := by unfold ltF; rw [if_pos (by omega)]
    rw [el]
    refine ⟨fun y => hQ M eqX_rfl ?_, fun y => ?_⟩
    · rw [skp_stop (by omega) y]; exact hR.2.2.1
    · rw [skp_step (by omega) y] at hQ
      have hX1 : eqX [(1, 2), (1, 3)] M (am_up M 1 2 0 (nI (a + 1))) := eqX_up eqX_rfl (by simp)
      have := skip_loop (E := E) (d := d) (Q := Q) (R := R) hn (M0 := M) (n - (a + 1)) (a + 1) (am_up M 1 2 0 (nI (a + 1))) (by omega) (RdC_at hR hX1 up_s) (eqX_up eqX_rfl (by simp)) hQ
      rw [hR.2.2.1, nI_1]
      exact this
theorem m_X3_failAt {M : am_M} {x1 x2 : Int32} (h4 : M 1 4 0 = 0) (hQ : ∀ M', eqX [(1, 4), (1, 5)] M M' → M' 1 4 0 = x2 → M' 1 5 0 = x1 → Q none M' R) : am_WM E (d + 1) 23 [aO 3 1, aI x1, aI x2] M R Q := by
  refine w_X3_failAt ⟨fun y => absurd h4 y, fun _ => hQ _ (eqX_up (eqX_up eqX_rfl (by simp)) (by simp)) ?_ up_s⟩
  rw [up_k (by decide), up_s]
theorem m_X3_isFigure {M : am_M} {x : Int32} (h1 : figB x = true → Q (some (aI 1)) M R) (h0 : figB x = false → Q (some (aI 0)) M R) : am_WM E (d + 1) 26 [aI x] M R Q := by
  refine w_X3_isFigure ⟨fun y => ret0 (h0 (decide_eq_false (fun z => z.1 y))), fun y => ⟨fun y2 => ret0 (h0 (decide_eq_false (fun z => z.2 y2))), fun y2 => ret1 (h1 (decide_eq_true ⟨y, y2⟩))⟩⟩
/-- the place of a fault; the reader stands within the text -/
def FP (n : Nat) (M : am_M) (p : Nat) : Prop := M 1 5 0 = nI p ∧ ∃ a, a ≤ n ∧ M 1 2 0 = nI a
def rdS4 : List (Nat × Nat) := [(1, 2), (1, 3), (1, 4), (1, 5)]
theorem num_loop {M0 : am_M} {lo hi : Int32} {s : Nat} (hn : n ≤ 240) (hs : s ≤ n) (h5 : figB (ltF n L s) = true)
    (hF : (3 < (fgF L (n - s) s 0 0).2.2 ∨ nI (fgF L (n - s) s 0 0).2.1 < lo ∨ ¬ nI (fgF L (n - s) s 0 0).2.1 ≤ hi) → ∀ M', eqX rdS4 M0 M' → M' 1 4 0 = 2 → FP n M' s → Q (some (aI 0)) M' R)
    (hK : ¬ (3 < (fgF L (n - s) s 0 0).2.2 ∨ nI (fgF L (n - s) s 0 0).2.1 < lo ∨ ¬ nI (fgF L (n - s) s 0 0).2.1 ≤ hi) → ∀ M', eqX [(1, 2), (1, 3)] M0 M' → RdC M' n L (fgF L (n - s) s 0 0).1 → M' 1 3 0 = nI s → Q (some (aI (nI (fgF L (n - s) s 0 0).2.1))) M' R) :
    ∀ (k a v c : Nat) (M : am_M), a + k = n → s ≤ a → c = a - s → fgF L k a v c = fgF L (n - s) s 0 0 → RdC M n L a → M 1 3 0 = nI s → eqX [(1, 2), (1, 3)] M0 M → am_WP E (am_WM E (d + 1)) am_L_X3_readNumber Q 47 [aO 3 1, aI lo, aI hi, aI (nI v), aI (nI c)] [] M R := by
  have hend : ∀ (a v c : Nat) (M : am_M), (a, v, c) = fgF L (n - s) s 0 0 → c ≤ 240 → a ≤ n → RdC M n L a → M 1 3 0 = nI s → eqX [(1, 2), (1, 3)] M0 M → (((3 : Int32) < nI c → am_WM E (d + 1) 23 [aO 3 1, aI (M 1 3 0), aI 2] M R (fun r M1 R2 => r = none ∧ Q (some (aI 0)) M1 R2)) ∧ (¬ (3 : Int32) < nI c → (((nI v : Int32) < lo → am_WM E (d + 1) 23 [aO 3 1, aI (M 1 3 0), aI 2] M R (fun r M3 R4 => r = none ∧ Q (some (aI 0)) M3 R4)) ∧ (¬ (nI v : Int32) < lo → (((nI v : Int32) ≤ hi → Q (some (aI (nI v))) M R) ∧ (¬ (nI v : Int32) ≤ hi → am_WM E (d + 1) 23 [aO 3 1, aI (M 1 3 0), aI 2] M R (fun r M5 R6 => r = none ∧ Q (some (aI 0)) M5 R6))))))) := by
    intro a v c M e hc han hR h3 hX
    rw [← e] at hF hK
    have hf : (3 < c ∨ nI v < lo ∨ ¬ nI v ≤ hi) → am_WM E (d + 1) 23 [aO 3 1, aI (M 1 3 0), aI 2] M R (fun r M1 R2 => r = none ∧ Q (some (aI 0)) M1 R2) := fun hb => by
      refine m_X3_failAt hR.2.2.2 (fun M' hX' e4 e5 => ⟨rfl, hF hb M' (eqX_tr (eqX_sub hX (by simp [rdS4])) (eqX_sub hX' (by simp [rdS4]))) e4 ⟨by rw [e5, h3], a, han, by rw [hX' 1 2 (by simp)]; exact hR.2.2.1⟩⟩)
    have e3 : (3 : Int32) < nI c ↔ 3 < c := nI_ltI (a := 3) (by omega) (by omega)
    rw [e3]
    refine ⟨fun y => hf (Or.inl y), fun y => ⟨fun y2 => hf (Or.inr (Or.inl y2)), fun y2 => ⟨fun y3 => hK (fun z => ?_) M hX hR h3, fun y3 => hf (Or.inr (Or.inr y3))⟩⟩⟩
    rcases z with z | z | z
    · exact y z
    · exact y2 z
    · exact z y3
  intro k
  induction k with
  | zero =>
    intro a v c M ha hsa hc he hR h3 hX
    refine w_X3_readNumber_47 ?_
    rw [hR.1, hR.2.2.1]
    exact ⟨fun _ => hend a v c M he (by omega) (by omega) hR h3 hX, fun y => absurd (ix_le (by omega) (by omega)) y⟩
  | succ k ih =>
    intro a v c M ha hsa hc he hR h3 hX
    have el : ltF n L a = L a := by unfold ltF; rw [if_pos (by omega)]
    have hX1 : eqX [(1, 2), (1, 3)] M (am_up M 1 2 0 (nI (a + 1))) := eqX_up eqX_rfl (by simp)
    have hR1 : RdC (am_up M 1 2 0 (nI (a + 1))) n L (a + 1) := RdC_at hR hX1 up_s
    have h31 : am_up M 1 2 0 (nI (a + 1)) 1 3 0 = nI s := by rw [up_k (by decide)]; exact h3
    have he : (if figB (L a) = true then fgF L k (a + 1) (if c < 3 then v * 10 + ((L a).toNatClampNeg - 48) else v) (c + 1) else (a, v, c)) = fgF L (n - s) s 0 0 := he
    refine w_X3_readNumber_47 ?_
    rw [hR.1]
    refine ⟨fun y => absurd y (by rw [hR.2.2.1]; exact ix_ge (by omega) (by omega)), fun _ => m_X3_letterHere hn hR (by omega) (kv ?_)⟩
    rw [el]
    refine m_X3_isFigure (fun hfig => k1e ?_) (fun hfig => k0e ?_)
    · rw [if_pos hfig] at he
      rw [nI_1]
      have e3 : (3 : Int32) ≤ nI c ↔ 3 ≤ c := nI_leI (a := 3) (by omega) (by omega)
      rw [e3, hR.2.2.1, nI_1]
      refine ⟨fun y => ?_, fun y => m_X3_letterHere hn hR (by omega) (kv ?_)⟩
      · rw [if_neg (by omega)] at he
        exact ih (a + 1) v (c + 1) _ (by omega) (by omega) (by omega) he hR1 h31 (eqX_tr hX hX1)
      · rw [if_pos (by omega)] at he
        obtain ⟨g, hg, eg, eg2⟩ := fig_nI hfig
        rw [eg2] at he
        rw [el, eg, show nI v * 10 = nI (v * 10) from pk_mul v 10, nI_add, show nI (v * 10 + (48 + g)) - 48 = nI (v * 10 + (48 + g) - 48) from pk_sub (b := 48) (by omega), show v * 10 + (48 + g) - 48 = v * 10 + g from by omega, hR.2.2.1, nI_1]
        exact ih (a + 1) (v * 10 + g) (c + 1) _ (by omega) (by omega) (by omega) he hR1 h31 (eqX_tr hX hX1)
    · rw [if_neg (by rw [hfig]; decide)] at he
      exact hend a v c M he (by omega) (by omega) hR h3 hX
theorem m_X3_readNumber {M : am_M} {lo hi : Int32} (hn : n ≤ 240) (hR : RdC M n L a) (ha : a ≤ n)
    (hF : ∀ f p, NU n L lo hi a = Sum.inl (f, p) → ∀ M', eqX rdS4 M M' → M' 1 4 0 = nI f → FP n M' p → Q (some (aI 0)) M' R)
    (hK : ∀ v s e, NU n L lo hi a = Sum.inr (v, s, e) → ∀ M', eqX [(1, 2), (1, 3)] M M' → RdC M' n L e → M' 1 3 0 = nI s → Q (some (aI (nI v))) M' R) : am_WM E (d + 3) 36 [aO 3 1, aI lo, aI hi] M R Q := by
  have hs := skp_le (L := L) ha
  refine w_X3_readNumber ⟨fun _ => m_X3_skipBlanks hn hR ha (fun M1 hX1 e1 => ⟨rfl, ?_⟩), fun y => absurd hR.2.2.2 y⟩
  rw [e1]
  have hR1 : RdC M1 n L (skp n L a) := RdC_at hR (eqX_sub hX1 (by simp)) e1
  have hX2 : eqX [(1, 2), (1, 3)] M (am_up M1 1 3 0 (nI (skp n L a))) := eqX_up (eqX_sub hX1 (by simp)) (by simp)
  have hR2 : RdC (am_up M1 1 3 0 (nI (skp n L a))) n L (skp n L a) := RdC_at hR hX2 (by rw [up_k (by decide)]; exact e1)
  refine m_X3_letterHere hn hR2 hs.2 (kv (m_X3_isFigure (fun hf => kv ⟨fun _ => ?_, fun y => absurd y (by decide)⟩) (fun hf => kv ⟨fun y => absurd rfl y, fun _ => ?_⟩)))
  · refine num_loop (M0 := M) (s := skp n L a) hn hs.2 hf (fun hb M' hX e4 e5 => hF 2 (skp n L a) ?_ M' hX e4 e5) (fun hb M' hX hR' h3 => hK _ _ _ ?_ M' hX hR' h3) (n - skp n L a) (skp n L a) 0 0 _ (by omega) (Nat.le_refl _) (by omega) rfl hR2 up_s hX2
    · unfold NU; rw [if_pos hf, if_pos hb]
    · unfold NU; rw [if_pos hf, if_neg hb]
  · rw [hR2.2.2.1]
    refine m_X3_failAt hR2.2.2.2 (fun M' hX' e4 e5 => ⟨rfl, hF 1 (skp n L a) ?_ M' (eqX_tr (eqX_sub hX2 (by simp [rdS4])) (eqX_sub hX' (by simp [rdS4]))) e4 ⟨e5, skp n L a, hs.2, by rw [hX' 1 2 (by simp)]; exact hR2.2.2.1⟩⟩)
    unfold NU; rw [if_neg (by rw [hf]; decide)]
theorem m_X3_readNumber_f {M : am_M} {lo hi : Int32} (h4 : ¬ M 1 4 0 = 0) (hQ : Q (some (aI 0)) M R) : am_WM E (d + 1) 36 [aO 3 1, aI lo, aI hi] M R Q :=
  w_X3_readNumber ⟨fun y => absurd y h4, fun _ => hQ⟩
theorem m_X3_readEnd {M : am_M} (hn : n ≤ 240) (hR : RdC M n L a) (ha : a ≤ n)
    (hF : ∀ f p, EN n L a = Sum.inl (f, p) → ∀ M', eqX rdS4 M M' → M' 1 4 0 = nI f → FP n M' p → Q none M' R)
    (hK : ∀ e, EN n L a = Sum.inr e → ∀ M', eqX [(1, 2), (1, 3)] M M' → RdC M' n L e → Q none M' R) : am_WM E (d + 3) 37 [aO 3 1] M R Q := by
  have hs := skp_le (L := L) ha
  refine w_X3_readEnd ⟨fun _ => m_X3_skipBlanks hn hR ha (fun M1 hX1 e1 => ⟨rfl, ?_⟩), fun y => absurd hR.2.2.2 y⟩
  have hR1 : RdC M1 n L (skp n L a) := RdC_at hR (eqX_sub hX1 (by simp)) e1
  refine m_X3_letterHere hn hR1 hs.2 (kv ⟨fun y => ?_, fun y => ?_⟩)
  · rw [e1, nI_1]
    have hX2 : eqX [(1, 2), (1, 3)] M (am_up M1 1 2 0 (nI (skp n L a + 1))) := eqX_up (eqX_sub hX1 (by simp)) (by simp)
    exact hK _ (by unfold EN; rw [if_pos y]) _ hX2 (RdC_at hR hX2 up_s)
  · rw [e1]
    exact m_X3_failAt hR1.2.2.2 (fun M' hX' e4 e5 => ⟨rfl, hF 1 (skp n L a) (by unfold EN; rw [if_neg y]) M' (eqX_tr (eqX_sub hX1 (by simp [rdS4])) (eqX_sub hX' (by simp [rdS4]))) e4 ⟨e5, skp n L a, hs.2, by rw [hX' 1 2 (by simp)]; exact hR1.2.2.1⟩⟩)
theorem m_X3_readEnd_f {M : am_M} (h4 : ¬ M 1 4 0 = 0) (hQ : Q none M R) : am_WM E (d + 1) 37 [aO 3 1] M R Q :=
  w_X3_readEnd ⟨fun y => absurd y h4, fun _ => hQ⟩
end Lex
