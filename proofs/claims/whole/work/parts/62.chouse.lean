/-! house of the class, over the state -/
def hoP (τ : Sc) : Flt ⊕ Sc := PL (τ 0 0).toNatClampNeg (τ 1) (τ 0 0).toNatClampNeg (fun _ _ => 0) (skp (τ 0 0).toNatClampNeg (τ 1) 0)
def hoσ (ρ σ : Sc) : Sc := fun f j => match f with
  | 7 => σ 7 0
  | 20 => 0
  | f => ρ f j
def hsA (τ : Sc) : Int32 := match hoP τ with
  | Sum.inl x => (-10) - nI x.1
  | Sum.inr ρ => ρ 2 0
def hsS (s : St) : St := match hoP s.2.2.1 with
  | Sum.inl x => (s.1, s.2.1, (fun _ _ => 0), nI x.2, s.2.2.2.2)
  | Sum.inr ρ => (hoσ ρ s.1, (fun _ _ => 0), (fun _ _ => 0), -1, (fun _ => false), s.2.2.2.2.2)
theorem PL_ok {n : Nat} {L : Nat → Int32} (hn : n ≤ 240) : ∀ (k a : Nat) (ρ ρ' : Sc), PW ρ → PL n L k ρ a = Sum.inr ρ' → PW ρ'
  | 0, _, ρ, ρ', hP, h => by cases h; exact hP
  | k + 1, a, ρ, ρ', hP, h => by
    unfold PL at h
    split at h
    · next ha =>
      have hok := CL_ok (L := L) hn ha hP
      cases e : CL n L ρ a with
      | inl x => rw [e] at h; cases h
      | inr x =>
        rw [e] at h hok
        obtain ⟨ρ1, a1⟩ := x
        exact PL_ok hn k (skp n L a1) ρ1 ρ' hok.1 h
    · cases h; exact hP
theorem ho_wf {ρ σ : Sc} (hP : PW ρ) (h7 : ¬ σ 7 0 < 0) : Wf (hoσ ρ σ) := by
  have := sus7_wf hP.1 h7
  exact this
theorem hs_ok {s : St} (hS : SOk s) : SOk (hsS s) := by
  have hT : TOk (fun _ _ => (0 : Int32)) := ⟨0, by omega, rfl, fun j hj => absurd hj (by omega)⟩
  obtain ⟨n, hn, en, -⟩ := hS.2.2.2.1
  unfold hsS
  cases e : hoP s.2.2.1 with
  | inl x => exact ⟨hS.1, hS.2.1, hS.2.2.1, hT, hS.2.2.2.2⟩
  | inr ρ =>
    have hP : PW ρ := by
      unfold hoP at e
      rw [en, ix_cl (by omega)] at e
      exact PL_ok hn n _ _ ρ PW_0 e
    exact ⟨ho_wf hP hS.1.2.2.2.2.1, ⟨0, by omega, hP.2.2.1⟩, te_wa, hT, fun i hi hk => by cases hk⟩
theorem ho_view {M : am_M} {g : Nat} {ρ σ : Sc} {v : Int32} (hv : rvC M g = ρ) (h7 : v = σ 7 0) : sus (vc M g (g + 2)) 7 v = hoσ ρ σ := by
  subst hv
  subst h7
  funext f j
  match f with
  | 0 => rfl
  | 1 => rfl
  | 2 => rfl
  | 3 => rfl
  | 4 => rfl
  | 5 => rfl
  | 6 => rfl
  | 7 => rfl
  | 8 => rfl
  | 9 => rfl
  | 10 => rfl
  | 11 => rfl
  | 12 => rfl
  | 13 => rfl
  | 14 => rfl
  | 15 => rfl
  | 16 => rfl
  | 17 => rfl
  | 18 => rfl
  | 19 => rfl
  | 20 => rfl
  | f + 21 => rfl
theorem tC_0 {M : am_M} (h : M 1 1 0 = 0) : tC M = fun _ _ => 0 := by
  funext f j
  unfold tC
  rw [h]
  match f with
  | 0 => rfl
  | 1 => rfl
  | f + 2 => rfl
theorem dr_pl {b : Bool} : dr b = pl (!b) := by cases b <;> rfl
theorem dr_or (b : Bool) : dr b = 2 ∨ dr b = 3 := by cases b <;> simp [dr]
theorem pl_dr {b : Bool} : pl b ≠ dr b ∧ pl b ≠ dr b + 2 ∧ pl b ≠ 1 ∧ pl b ≠ 0 := by cases b <;> decide
section CHouse
variable {E : Nat → Nat → Int32} {d : Nat} {Q : am_Q} {b : Bool} {s : St}
theorem c_house {M : am_M} (hE : stepE E) (hR : CRel M b s) (hS : SOk s) (hQ : ∀ M' b', M' 13 = M 13 → CRel M' b' (hsS s) → Q (some (aI (hsA s.2.2.1))) M' (Rs b')) : am_WM E (d + 7) 64 [aO 6 0] M (Rs b) Q := by
  obtain ⟨n, hn, en, -⟩ := hS.2.2.2.1
  have hT1 : M 1 1 0 = nI n := by rw [← en, ← hR.2.2.2.1]; rfl
  have hT2 : ∀ j, j < n → M 1 0 j = s.2.2.1 1 j := fun j hj => by
    rw [← hR.2.2.2.1]
    exact (tr_lt (show j < (M 1 1 0).toNatClampNeg by rw [hT1, ix_cl (by omega)]; exact hj)).symm
  have eho : hoP s.2.2.1 = PL n (s.2.2.1 1) n (fun _ _ => 0) (skp n (s.2.2.1 1) 0) := by unfold hoP; rw [en, ix_cl (by omega)]
  obtain ⟨p1, p2, p3, p4⟩ := pl_dr (b := b)
  have hg := dr_or b
  refine w_X6_house (m_X3_readInto (L := s.2.2.1 1) hg Rs_dr hn hT1 hT2 (fun f p e hf1 hf4 M1 hfr e5 => kv (w_X3_empty ⟨rfl, ?_⟩)) (fun ρ e hP M1 hfr e5 hv => kv (w_X3_empty ⟨rfl, ?_⟩)))
  · have es : hsS s = (s.1, s.2.1, (fun _ _ => 0), nI p, s.2.2.2.2) := by unfold hsS; rw [eho, e]
    have ea : hsA s.2.2.1 = (-10) - nI f := by unfold hsA; rw [eho, e]
    rw [es, ea] at hQ
    refine ⟨fun z => absurd z (nI_ne0 (by omega) (by omega)), fun _ => ?_⟩
    show Q (some (aI ((-10) - nI f))) (am_up (am_up M1 0 8 0 (M1 1 5 0)) 1 1 0 0) (Rs b)
    rw [e5]
    have h : ∀ o, o ≠ 0 → o ≠ 1 → o ≠ dr b → o ≠ dr b + 2 → (am_up (am_up M1 0 8 0 (nI p)) 1 1 0 0) o = M o := fun o a0 a1 a2 a3 => by
      funext k
      rw [am_up_off o k (fun z => a1 z.1), am_up_off o k (fun z => a0 z.1), hfr.1 o a1 a2 a3]
    have h07 : (am_up (am_up M1 0 8 0 (nI p)) 1 1 0 0) 0 7 = M 0 7 := by
      rw [am_up_off 0 7 (by omega), am_up_off 0 7 (by omega), hfr.1 0 (by omega) (by omega) (by omega)]
    have hpl : (am_up (am_up M1 0 8 0 (nI p)) 1 1 0 0) (pl b) = M (pl b) := h _ p4 p3 p1 p2
    have hv2 : ∀ c, 6 ≤ c → vc (am_up (am_up M1 0 8 0 (nI p)) 1 1 0 0) (pl b) c = vc M (pl b) c := fun c hc => vc_same (fun k => by rw [hpl]) (fun k _ => by rw [h c (by omega) (by omega) (by omega) (by omega)])
    obtain ⟨c1, c2, c3, c4, c5, c6, c7⟩ := hR
    refine hQ _ b (h 13 (by omega) (by omega) (by omega) (by omega)) ⟨(hv2 6 (by omega)).trans c1, LkOk_of c2 (hv2 6 (by omega)) (by rw [h 6 (by omega) (by omega) (by omega) (by omega)]), ?_, tC_0 up_s, ?_, by rw [h07]; exact c6, fun i hi hk => ⟨(hv2 (8 + i) (by omega)).trans (c7 i hi hk).1, LkOk_of (c7 i hi hk).2 (hv2 (8 + i) (by omega)) (by rw [h (8 + i) (by omega) (by omega) (by omega) (by omega)])⟩⟩
    · show aC _ = s.2.1
      rw [← c3]; unfold aC; rw [h 10 (by omega) (by omega) (by omega) (by omega)]
    · show am_up (am_up M1 0 8 0 (nI p)) 1 1 0 0 0 8 0 = nI p
      rw [up_o (by decide), up_s]
  · have es : hsS s = (hoσ ρ s.1, (fun _ _ => 0), (fun _ _ => 0), -1, (fun _ => false), s.2.2.2.2.2) := by unfold hsS; rw [eho, e]
    have ea : hsA s.2.2.1 = ρ 2 0 := by unfold hsA; rw [eho, e]
    rw [es, ea] at hQ
    refine ⟨fun _ => ?_, fun z => absurd rfl z⟩
    rw [show am_upR (am_upR (Rs b) 0 1 (Rs b 0 2)) 0 2 (Rs b 0 1) = Rs (!b) from Rs_swap]
    show am_WM E (d + 6) 39 [aO 4 6, aO 4 (Rs (!b) (pl (!b)) 10)] (am_up (am_up M1 0 8 0 (M1 1 5 0)) 1 1 0 0) (Rs (!b)) _
    rw [Rs_pl, ← dr_pl, e5]
    have hM4 : ∀ o, o ≠ 0 → o ≠ 1 → (am_up (am_up M1 0 8 0 (-1)) 1 1 0 0) o = M1 o := fun o a0 a1 => by
      funext k
      rw [am_up_off o k (fun z => a1 z.1), am_up_off o k (fun z => a0 z.1)]
    have h48 : am_up (am_up M1 0 8 0 (-1)) 1 1 0 0 0 8 0 = -1 := by rw [up_o (by decide), up_s]
    have h411 : am_up (am_up M1 0 8 0 (-1)) 1 1 0 0 1 1 0 = 0 := up_s
    generalize hM4e : am_up (am_up M1 0 8 0 (-1)) 1 1 0 0 = M4 at hM4 h48 h411 ⊢
    have hv4 : rvC M4 (dr b) = ρ := (rvC_off (hM4 _ (by omega) (by omega)) (hM4 _ (by omega) (by omega))).trans hv
    have hN8 : sN (vc M4 (dr b) (dr b + 2)) ≤ 8 := by
      unfold sN
      rw [rvC_vc 2 (by omega), hv4]
      exact hP.1.1.1
    refine m_X4_copyFrom (c := 6) (c1 := dr b + 2) (by omega) (fun M6 hX6 hC6 => ⟨rfl, ?_⟩)
    have hv6 : vc M6 (dr b) 6 = vc M4 (dr b) (dr b + 2) := CpOk_vc hC6 (fun k => hX6 (dr b) k (by simp [cpS]; omega)) hN8
    have e7 : M4 6 3 0 = s.1 7 0 := by
      rw [hM4 6 (by decide) (by decide), hfr.1 6 (by omega) (by omega) (by omega), ← hR.1]
      rfl
    have hgc : dr b ≠ 6 := by omega
    have hv7 : vc (am_up M6 6 3 0 (M4 6 3 0)) (dr b) 6 = hoσ ρ s.1 := by
      rw [vc_ups hgc (by omega), hv6]
      exact ho_view hv4 e7
    show am_WM E (d + 6) 46 [aO 4 6, aO 2 (pl (!b))] (am_up M6 6 3 0 (am_up (am_up M1 0 8 0 (M1 1 5 0)) 1 1 0 0 6 3 0)) (Rs (!b)) _
    rw [← dr_pl, e5, hM4e]
    refine m_X4_lookAll (g := dr b) (c := 6) hE hgc (by rw [hv7]; exact (ho_wf hP hS.1.2.2.2.2.1).1) (fun M8 hX8 hv8 hL8 => ⟨rfl, ?_⟩)
    rw [hv7] at hv8
    refine w_X0_empty ⟨rfl, ?_⟩
    show Q (some (aI (am_up (am_up (am_up M8 10 0 0 0) 10 1 0 0) 0 7 0 0 6 0 0))) (am_up (am_up (am_up M8 10 0 0 0) 10 1 0 0) 0 7 0 0) (Rs (!b))
    have e60 : am_up (am_up (am_up M8 10 0 0 0) 10 1 0 0) 0 7 0 0 6 0 0 = ρ 2 0 := by
      rw [up_o (by decide), up_o (by decide), up_o (by decide)]
      have : vc M8 (dr b) 6 2 0 = ρ 2 0 := by rw [hv8]; rfl
      exact this
    rw [e60]
    have hM8 : ∀ o, o ≠ 6 → M8 o = M4 o := fun o ho => by
      funext k
      rw [hX8 o k (by simp; omega), am_up_off o k (fun z => ho z.1), hX6 o k (by simp [cpS]; omega)]
    have hMf : ∀ o, o ≠ 0 → o ≠ 10 → (am_up (am_up (am_up M8 10 0 0 0) 10 1 0 0) 0 7 0 0) o = M8 o := fun o a0 a1 => by
      funext k
      rw [am_up_off o k (fun z => a0 z.1), am_up_off o k (fun z => a1 z.1), am_up_off o k (fun z => a1 z.1)]
    have hvf : vc (am_up (am_up (am_up M8 10 0 0 0) 10 1 0 0) 0 7 0 0) (dr b) 6 = vc M8 (dr b) 6 := vc_same (fun k => by rw [hMf (dr b) (by omega) (by omega)]) (fun k _ => by rw [hMf 6 (by omega) (by omega)])
    refine hQ _ (!b) ?_ ⟨?_, ?_, ?_, ?_, ?_, ⟨0, by omega, up_s, fun i _ => Nat.zero_testBit i⟩, fun i hi hk => by cases hk⟩
    · rw [hMf 13 (by omega) (by omega), hM8 13 (by omega), hM4 13 (by omega) (by omega), hfr.1 13 (by omega) (by omega) (by omega)]
    · show vc _ (pl (!b)) 6 = hoσ ρ s.1
      rw [← dr_pl, hvf, hv8]
    · rw [← dr_pl]
      exact LkOk_of hL8 hvf (by rw [hMf 6 (by omega) (by omega)])
    · show aC _ = fun _ _ => 0
      have : aC (am_up (am_up (am_up M8 10 0 0 0) 10 1 0 0) 0 7 0 0) = aC (am_up (am_up M8 10 0 0 0) 10 1 0 0) := aC_off (S := [(0, 7)]) (eqX_up eqX_rfl (by simp)) (fun k => by simp)
      rw [this, aC_te]
    · refine tC_0 ?_
      rw [hMf 1 (by omega) (by omega), hM8 1 (by omega)]
      exact h411
    · show am_up (am_up (am_up M8 10 0 0 0) 10 1 0 0) 0 7 0 0 0 8 0 = -1
      rw [up_k (by decide), up_o (by decide), up_o (by decide), hM8 0 (by omega)]
      exact h48
end CHouse
