/-! the class: is it so, with looks as they would be -/
section Ful
variable {E : Nat → Nat → Int32} {d : Nat} {Q : am_Q} {M : am_M} {R : am_R} {g c : Nat}
/-- what the search wishes -/
def WsOk (M : am_M) (p t : Nat) (set : Int32) (n : Nat) : Prop := M 11 2 0 = nI p ∧ M 11 3 0 = nI t ∧ M 11 4 0 = set ∧ M 11 5 0 = nI n
theorem ful_loop {τ : Sc} {p t n h : Nat} {set : Int32} (hw : WsOk M p t set n) (hT : Wf τ) (hF : Wf (vc M g c)) (hL : LkV M g c τ) (h5 : τ 5 0 = nI h) (hh : h ≤ 99000) (ht : t < 8) (hn : n ≤ 1000) (h1 : (∀ q, q < sN τ → bt set q = true → kn τ t n q = false) → Q (some (aI 1)) M R) (h0 : ¬ (∀ q, q < sN τ → bt set q = true → kn τ t n q = false) → Q (some (aI 0)) M R) : ∀ (k i : Nat), i + k = sN τ → (∀ q, q < i → bt set q = true → kn τ t n q = false) → am_WP E (am_WM E (d + 2)) am_L_X5_isFulfilled Q 24 [aO 5 11, aO 2 g, aO 4 c, aI (nI i)] [] M R := by
  obtain ⟨w1, w2, w3, w4⟩ := hw
  have eN : sN (vc M g c) = sN τ := by unfold sN; rw [hL.1 2 (by decide)]
  have h8 := hT.1.1
  have hN : M c 0 0 = nI (sN τ) := by rw [← eN]; exact hF.1.2.1
  intro k
  induction k with
  | zero =>
    intro i hi ha
    have : i = sN τ := by omega
    subst this
    refine w_X5_isFulfilled_24 ?_
    rw [hN]
    exact ⟨fun _ => ret1 (h1 ha), fun q => absurd (ix_le (by omega) (by omega)) q⟩
  | succ k ih =>
    intro i hi ha
    refine w_X5_isFulfilled_24 ?_
    rw [hN, w3, nI_1]
    have key := hu_le hT h5 (t := t) (k := n) (p := i) ht (by omega) (by omega) hn
    refine ⟨fun q => absurd q (ix_ge (by omega) (by omega)), fun _ => m_X6_holds (fun b => k1e ?_) (fun b => k0e (ih (i + 1) (by omega) (fun q hq hs => ?_)))⟩
    · rw [w2]
      refine m_X4_hoursUntilV hT hF hL h5 (by omega) ht (by omega) (kv ?_)
      rw [w4]
      refine ⟨fun q => ih (i + 1) (by omega) (fun q' hq' hs => ?_), fun q => ret0 (h0 (fun z => ?_))⟩
      · by_cases e : q' = i
        · subst e
          exact Bool.eq_false_iff.mpr (fun e => key.mp e q)
        · exact ha q' (by omega) hs
      · have := z i (by omega) b
        rw [key.mpr q] at this
        cases this
    · by_cases e : q = i
      · subst e; rw [b] at hs; cases hs
      · exact ha q (by omega) hs
theorem m_X5_isFulfilled {τ : Sc} {p t n h : Nat} {set : Int32} (hw : WsOk M p t set n) (hT : Wf τ) (hF : Wf (vc M g c)) (hL : LkV M g c τ) (h5 : τ 5 0 = nI h) (hh : h ≤ 99000) (ht : t < 8) (hp : p < sN τ) (hn : n ≤ 1000) (h1 : soP τ p t set n → Q (some (aI 1)) M R) (h0 : ¬ soP τ p t set n → Q (some (aI 0)) M R) : am_WM E (d + 3) 62 [aO 5 11, aO 2 g, aO 4 c] M R Q := by
  have hw' := hw
  obtain ⟨w1, w2, w3, w4⟩ := hw
  refine w_X5_isFulfilled ?_
  rw [w1, w2]
  have key := hu_le hT h5 (t := t) (k := n) (p := p) ht hp (by omega) hn
  refine m_X4_hoursUntilV hT hF hL h5 (by omega) ht hp (kv ?_)
  rw [w4]
  refine ⟨fun q => ?_, fun q => ret0 (h0 (fun z => key.mp z.1 (by rw [Int32.not_le] at q; exact q)))⟩
  have hk : kn τ t n p = true := key.mpr (by rw [Int32.not_lt]; exact q)
  exact ful_loop hw' hT hF hL h5 hh ht hn (fun a => h1 ⟨hk, a⟩) (fun a => h0 (fun z => a z.2)) (sN τ) 0 (by omega) (fun q hq => absurd hq (by omega))
end Ful
