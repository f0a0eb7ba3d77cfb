/-! house of the reference, over the state: the loop -/
theorem tM_0 {M : am_M} (h : M 13 14 0 = 0) : tM M = fun _ _ => 0 := by
  funext f j
  unfold tM
  rw [h]
  match f with
  | 0 => rfl
  | 1 => rfl
  | f + 2 => rfl
section RHouse
variable {E : Nat → Nat → Int32} {d : Nat} {Q : am_Q} {R : am_R} {n : Nat} {L : Nat → Int32}
theorem house_loop {M0 : am_M} {res : Flt ⊕ Sc} (hn : n ≤ 240) (hL : ∀ j, j < n → ∃ c, c < 256 ∧ L j = nI c)
    (hF : ∀ f p, res = Sum.inl (f, p) → 1 ≤ f → f ≤ 4 → ∀ M', frM M0 M' → M' 13 15 0 = nI p → Q (some (aI ((-10) - nI f))) (am_up M' 13 14 0 0) R)
    (hK : ∀ ρ', res = Sum.inr ρ' → PW ρ' → ∀ M', (∀ o, o ≠ 13 → M' o = M0 o) → (∀ k, 34 ≤ k ∨ k = 12 ∨ k = 13 → M' 13 k = M0 13 k) → M' 13 14 0 = 0 → M' 13 15 0 = -1 → (∀ σ : Sc, σ 7 0 = M0 13 12 0 → vm M' = hoσ ρ' σ) → Q (some (aI (ρ' 2 0))) (am_up (am_up (am_up (am_up M' 13 38 0 0) 13 43 0 0) 13 47 0 0) 13 47 1 0) R) :
    ∀ (k i a : Nat) (ρ : Sc) (M : am_M), i + k = n → i ≤ a → a ≤ n → PL n L k ρ (skp n L a) = res → frM M0 M → RdM M n L a → M 13 15 0 = -1 → rvM M = ρ → PW ρ → am_WP E (am_WM E (d + 6)) am_L_X7_house Q 46 [aO 7 13, aI 0] [] M R := by
  intro k
  induction k with
  | zero =>
    intro i a ρ M hi hia han he hfr hR h15 hv hP
    have hs := skp_le (L := L) han
    refine w_X7_house_46 ⟨fun z => absurd rfl z, fun _ => m_X7_here hn hR han (fun M1 hX1 e1 => kv ?_)⟩
    have h13 : ∀ k, k ≠ 16 → M1 13 k = M 13 k := fun k hk => hX1 13 k (by simp; omega)
    have hlt : ltF n L (skp n L a) = -1 := by unfold ltF; rw [if_neg (by omega)]
    rw [hlt]
    refine ⟨fun _ => ⟨fun _ => ?_, fun z => absurd (by decide) z⟩, fun z => absurd (by decide) z⟩
    have hu : ∀ k, k ≠ 14 → k ≠ 16 → am_up M1 13 14 0 0 13 k = M 13 k := fun k a1 a2 => by rw [am_up_off 13 k (by omega), h13 k a2]
    have hv1 : rvM (am_up M1 13 14 0 0) = ρ := rvM_same hv ⟨by rw [hu 19 (by decide) (by decide)], by rw [hu 19 (by decide) (by decide)]⟩ (fun k hk => by rw [hu k (by omega) (by omega)]) (fun k j h1 h2 _ => by rw [hu k (by omega) (by omega)]) (fun k j hk _ => by rw [hu k (by omega) (by omega)]) (fun k j h1 h2 _ => by rw [hu k (by omega) (by omega)])
    refine m_X7_takeRead (d := d + 5) hv1 hP (fun M2 hf2 hk2 hvm => ⟨rfl, ix_in (n := 0) (by omega) (by omega), by decide, ix_in (n := 1) (by omega) (by omega), by decide, ?_⟩)
    have e2 : am_up (am_up (am_up (am_up M2 13 38 0 0) 13 43 0 0) 13 47 0 0) 13 47 1 0 13 2 0 = ρ 2 0 := by
      rw [up_k (by decide), up_k (by decide), up_k (by decide), up_k (by decide)]
      have := congrFun (congrFun (hvm (fun _ _ => M1 13 12 0) (by rw [up_k (by decide)])) 2) 0
      exact this
    rw [show Int32.toNatClampNeg 0 = 0 from rfl, show Int32.toNatClampNeg 1 = 1 from rfl, e2]
    refine hK ρ he.symm hP M2 (fun o ho => ?_) (fun k hk => ?_) ?_ ?_ (fun σ h7 => hvm σ ?_)
    · rw [hf2 o ho]
      funext q
      rw [am_up_off o q (fun z => ho z.1), hX1 o q (by simp; omega), hfr.1 o ho]
    · rw [hk2 k (by omega), hu k (by omega) (by omega), hfr.2 k (by omega)]
    · rw [hk2 14 (by omega)]; exact up_s
    · rw [hk2 15 (by omega), hu 15 (by decide) (by decide)]; exact h15
    · rw [up_k (by decide), h13 12 (by decide), hfr.2 12 (by omega)]; exact h7
  | succ k ih =>
    intro i a ρ M hi hia han he hfr hR h15 hv hP
    have hs := skp_le (L := L) han
    refine w_X7_house_46 ⟨fun z => absurd rfl z, fun _ => m_X7_here hn hR han (fun M1 hX1 e1 => kv ?_)⟩
    have h13 : ∀ k, k ≠ 16 → M1 13 k = M 13 k := fun k hk => hX1 13 k (by simp; omega)
    by_cases hend : n ≤ skp n L a
    · have hlt : ltF n L (skp n L a) = -1 := by unfold ltF; rw [if_neg (by omega)]
      rw [PL_end hend] at he
      rw [hlt]
      refine ⟨fun _ => ⟨fun _ => ?_, fun z => absurd (by decide) z⟩, fun z => absurd (by decide) z⟩
      have hu : ∀ k, k ≠ 14 → k ≠ 16 → am_up M1 13 14 0 0 13 k = M 13 k := fun k a1 a2 => by rw [am_up_off 13 k (by omega), h13 k a2]
      have hv1 : rvM (am_up M1 13 14 0 0) = ρ := rvM_same hv ⟨by rw [hu 19 (by decide) (by decide)], by rw [hu 19 (by decide) (by decide)]⟩ (fun k hk => by rw [hu k (by omega) (by omega)]) (fun k j h1 h2 _ => by rw [hu k (by omega) (by omega)]) (fun k j hk _ => by rw [hu k (by omega) (by omega)]) (fun k j h1 h2 _ => by rw [hu k (by omega) (by omega)])
      refine m_X7_takeRead (d := d + 5) hv1 hP (fun M2 hf2 hk2 hvm => ⟨rfl, ix_in (n := 0) (by omega) (by omega), by decide, ix_in (n := 1) (by omega) (by omega), by decide, ?_⟩)
      have e2 : am_up (am_up (am_up (am_up M2 13 38 0 0) 13 43 0 0) 13 47 0 0) 13 47 1 0 13 2 0 = ρ 2 0 := by
        rw [up_k (by decide), up_k (by decide), up_k (by decide), up_k (by decide)]
        have := congrFun (congrFun (hvm (fun _ _ => M1 13 12 0) (by rw [up_k (by decide)])) 2) 0
        exact this
      rw [show Int32.toNatClampNeg 0 = 0 from rfl, show Int32.toNatClampNeg 1 = 1 from rfl, e2]
      refine hK ρ he.symm hP M2 (fun o ho => ?_) (fun k hk => ?_) ?_ ?_ (fun σ h7 => hvm σ ?_)
      · rw [hf2 o ho]
        funext q
        rw [am_up_off o q (fun z => ho z.1), hX1 o q (by simp; omega), hfr.1 o ho]
      · rw [hk2 k (by omega), hu k (by omega) (by omega), hfr.2 k (by omega)]
      · rw [hk2 14 (by omega)]; exact up_s
      · rw [hk2 15 (by omega), hu 15 (by decide) (by decide)]; exact h15
      · rw [up_k (by decide), h13 12 (by decide), hfr.2 12 (by omega)]; exact h7
    · have hlt : skp n L a < n := by omega
      obtain ⟨c, hc, ec⟩ := hL _ hlt
      have hl : ltF n L (skp n L a) = nI c := by unfold ltF; rw [if_pos hlt, ec]
      have hok := CL_ok (L := L) hn hlt hP
      have he : (match CL n L ρ (skp n L a) with | Sum.inl x => Sum.inl x | Sum.inr (ρ', a') => PL n L k ρ' (skp n L a')) = res := by
        unfold PL at he
        rw [if_pos hlt] at he
        exact he
      rw [hl]
      have hR1 : RdM M1 n L (skp n L a) := RdM_at hR (h13 13 (by decide)) (h13 14 (by decide)) e1
      have hv1 : rvM M1 = ρ := rvM_same hv ⟨by rw [h13 19 (by decide)], by rw [h13 19 (by decide)]⟩ (fun k hk => by rw [h13 k (by omega)]) (fun k j h1 h2 _ => by rw [h13 k (by omega)]) (fun k j hk _ => by rw [h13 k (by omega)]) (fun k j h1 h2 _ => by rw [h13 k (by omega)])
      have hfr1 : frM M0 M1 := frM_tr hfr (frM_of hX1 (fun o k h => by simp at h; omega))
      refine ⟨fun z => absurd z (ix_lt (by omega)), fun _ => m_X7_takeClause (d := d) hn hR1 (skp_id han) hlt hv1 hP (fun f p e M2 hfr2 e15 => kv ?_) (fun ρ' e2 e M2 hfr2 e15 hR2 hv2 => kv ?_)⟩
      · rw [e] at he hok
        obtain ⟨h1, h2, -⟩ := hok
        have h1 : 1 ≤ f := h1
        have h2 : f ≤ 4 := h2
        have hne0 : ¬ nI f = 0 := nI_ne0 (by omega) (by omega)
        have hne : ¬ nI f ≤ 0 := nI_nle (by omega) (by omega)
        exact w_X7_house_46 ⟨fun _ => ⟨fun z => absurd z hne, fun _ => hF f p he.symm h1 h2 M2 (frM_tr hfr1 hfr2) e15⟩, fun z => absurd z hne0⟩
      · rw [e] at he hok
        obtain ⟨hP1, h1, h2⟩ := hok
        have h1 : skp n L a + 1 ≤ e2 := h1
        have h2 : e2 ≤ n := h2
        exact ih (i + 1) e2 ρ' M2 (by omega) (by omega) h2 he (frM_tr hfr1 hfr2) hR2 (by rw [e15, h13 15 (by decide)]; exact h15) hv2 hP1
theorem r_house {M : am_M} {s : St} (hR : MRel M s) (hS : SOk s) (hQ : KM M R (hsS s) (hsA s.2.2.1) Q) : am_WM E (d + 7) 120 [aO 7 13] M R Q := by
  obtain ⟨n, hn, en, hLt⟩ := hS.2.2.2.1
  have hT1 : M 13 14 0 = nI n := by rw [← en, ← hR.2.2.1]; rfl
  have hT2 : ∀ j, j < n → M 13 13 j = s.2.2.1 1 j := fun j hj => by
    rw [← hR.2.2.1]
    exact (tr_lt (show j < (M 13 14 0).toNatClampNeg by rw [hT1, ix_cl (by omega)]; exact hj)).symm
  have eho : hoP s.2.2.1 = PL n (s.2.2.1 1) n (fun _ _ => 0) (skp n (s.2.2.1 1) 0) := by unfold hoP; rw [en, ix_cl (by omega)]
  refine w_X7_house ⟨ix_in (n := 0) (by omega) (by omega), ix_in (n := 1) (by omega) (by omega), ?_⟩
  rw [show Int32.toNatClampNeg 0 = 0 from rfl, show Int32.toNatClampNeg 1 = 1 from rfl]
  have hz : ∀ f, msc (am_up (am_up (am_up (am_up (am_up (am_up (am_up (am_up M 13 15 0 (-1)) 13 16 0 0) 13 19 0 0) 13 19 1 0) 13 20 0 0) 13 26 0 0) 13 29 0 0) 13 33 0 0) f = 0 := by
    intro f
    unfold msc
    split <;> rfl
  have hrv : rvM (am_up (am_up (am_up (am_up (am_up (am_up (am_up (am_up M 13 15 0 (-1)) 13 16 0 0) 13 19 0 0) 13 19 1 0) 13 20 0 0) 13 26 0 0) 13 29 0 0) 13 33 0 0) = fun _ _ => 0 := by
    unfold rvM
    rw [show msc (am_up (am_up (am_up (am_up (am_up (am_up (am_up (am_up M 13 15 0 (-1)) 13 16 0 0) 13 19 0 0) 13 19 1 0) 13 20 0 0) 13 26 0 0) 13 29 0 0) 13 33 0 0) = fun _ => 0 from funext hz]
    funext f j
    unfold mk
    split <;> rfl
  have hfr : frM M (am_up (am_up (am_up (am_up (am_up (am_up (am_up (am_up M 13 15 0 (-1)) 13 16 0 0) 13 19 0 0) 13 19 1 0) 13 20 0 0) 13 26 0 0) 13 29 0 0) 13 33 0 0) := frM_up (frM_up (frM_up (frM_up (frM_up (frM_up (frM_up (frM_up ⟨fun _ _ => rfl, fun _ _ => rfl⟩ (by omega)) (by omega)) (by omega)) (by omega)) (by omega)) (by omega)) (by omega)) (by omega)
  have h15 : am_up (am_up (am_up (am_up (am_up (am_up (am_up (am_up M 13 15 0 (-1)) 13 16 0 0) 13 19 0 0) 13 19 1 0) 13 20 0 0) 13 26 0 0) 13 29 0 0) 13 33 0 0 13 15 0 = -1 := rfl
  have h16 : am_up (am_up (am_up (am_up (am_up (am_up (am_up (am_up M 13 15 0 (-1)) 13 16 0 0) 13 19 0 0) 13 19 1 0) 13 20 0 0) 13 26 0 0) 13 29 0 0) 13 33 0 0 13 16 0 = nI 0 := rfl
  generalize am_up (am_up (am_up (am_up (am_up (am_up (am_up (am_up M 13 15 0 (-1)) 13 16 0 0) 13 19 0 0) 13 19 1 0) 13 20 0 0) 13 26 0 0) 13 29 0 0) 13 33 0 0 = M1 at hz hrv hfr h15 h16 ⊢
  have hR1 : RdM M1 n (s.2.2.1 1) 0 := ⟨by rw [hfr.2 14 (by omega)]; exact hT1, fun j hj => by rw [hfr.2 13 (by omega)]; exact hT2 j hj, h16⟩
  obtain ⟨c1, c2, c3, c4, c5, c6⟩ := hR
  refine house_loop (d := d) (M0 := M) hn hLt (fun f p e hf1 hf4 M2 hf2 e15 => ?_) (fun ρ e hP M2 ho hk h14 h152 hvm => ?_) n 0 0 (fun _ _ => 0) M1 (by omega) (by omega) (by omega) rfl hfr hR1 h15 hrv PW_0
  · have es : hsS s = (s.1, s.2.1, (fun _ _ => 0), nI p, s.2.2.2.2) := by unfold hsS; rw [eho, e]
    have ea : hsA s.2.2.1 = (-10) - nI f := by unfold hsA; rw [eho, e]
    rw [es, ea] at hQ
    have hu : ∀ k, k < 14 ∨ 33 < k → am_up M2 13 14 0 0 13 k = M 13 k := fun k hk => by rw [am_up_off 13 k (by omega), hf2.2 k (by omega)]
    have evm : vm (am_up M2 13 14 0 0) = vm M := by
      funext f j
      unfold vm
      rw [hu 0 (by omega), hu 1 (by omega), hu 2 (by omega), hu 3 (by omega), hu 4 (by omega), hu 5 (by omega), hu 6 (by omega), hu 7 (by omega), hu 8 (by omega), hu 9 (by omega), hu 10 (by omega), hu 11 (by omega), hu 12 (by omega)]
    refine hQ _ (fun o ho => ?_) ⟨evm.trans c1, ?_, tM_0 up_s, ?_, fun i hi => by rw [hu 47 (by omega)]; exact c5 i hi, fun i hi hk => ?_⟩
    · funext q
      rw [am_up_off o q (fun z => ho z.1), hf2.1 o ho]
    · show aM _ = s.2.1
      rw [← c2]; unfold aM
      rw [hu 38 (by omega), hu 39 (by omega), hu 40 (by omega), hu 41 (by omega), hu 43 (by omega), hu 44 (by omega), hu 45 (by omega)]
    · show am_up M2 13 14 0 0 13 15 0 = nI p
      rw [up_k (by decide)]; exact e15
    · show vi _ i = s.2.2.2.2.2 i
      rw [← c6 i hi hk]; exact vi_off (hu 46 (by omega)) (fun f _ => by rw [evm])
  · have es : hsS s = (hoσ ρ s.1, (fun _ _ => 0), (fun _ _ => 0), -1, (fun _ => false), s.2.2.2.2.2) := by unfold hsS; rw [eho, e]
    have ea : hsA s.2.2.1 = ρ 2 0 := by unfold hsA; rw [eho, e]
    rw [es, ea] at hQ
    have hu : ∀ k, k ≠ 38 → k ≠ 43 → k ≠ 47 → am_up (am_up (am_up (am_up M2 13 38 0 0) 13 43 0 0) 13 47 0 0) 13 47 1 0 13 k = M2 13 k := fun k a1 a2 a3 => by rw [am_up_off 13 k (by omega), am_up_off 13 k (by omega), am_up_off 13 k (by omega), am_up_off 13 k (by omega)]
    have evm : vm (am_up (am_up (am_up (am_up M2 13 38 0 0) 13 43 0 0) 13 47 0 0) 13 47 1 0) = vm M2 := by
      funext f j
      unfold vm
      rw [hu 0 (by omega) (by omega) (by omega), hu 1 (by omega) (by omega) (by omega), hu 2 (by omega) (by omega) (by omega), hu 3 (by omega) (by omega) (by omega), hu 4 (by omega) (by omega) (by omega), hu 5 (by omega) (by omega) (by omega), hu 6 (by omega) (by omega) (by omega), hu 7 (by omega) (by omega) (by omega), hu 8 (by omega) (by omega) (by omega), hu 9 (by omega) (by omega) (by omega), hu 10 (by omega) (by omega) (by omega), hu 11 (by omega) (by omega) (by omega), hu 12 (by omega) (by omega) (by omega)]
    refine hQ _ (fun o ho2 => ?_) ⟨?_, ?_, tM_0 (by rw [hu 14 (by omega) (by omega) (by omega)]; exact h14), by rw [hu 15 (by omega) (by omega) (by omega)]; exact h152, fun i hi => ?_, fun i hi hk => by cases hk⟩
    · funext q
      rw [am_up_off o q (fun z => ho2 z.1), am_up_off o q (fun z => ho2 z.1), am_up_off o q (fun z => ho2 z.1), am_up_off o q (fun z => ho2 z.1), ho o ho2]
    · show vm _ = hoσ ρ s.1
      rw [evm]
      exact hvm s.1 (by rw [← c1]; rfl)
    · show aM _ = fun _ _ => 0
      have : aM (am_up (am_up (am_up (am_up M2 13 38 0 0) 13 43 0 0) 13 47 0 0) 13 47 1 0) = aM (am_up (am_up M2 13 38 0 0) 13 43 0 0) := aM_off (S := [(13, 47)]) (eqX_up (eqX_up eqX_rfl (by simp)) (by simp)) (fun k a1 a2 a3 => by simp; omega)
      rw [this, aM_te]
    · show am_up (am_up (am_up (am_up M2 13 38 0 0) 13 43 0 0) 13 47 0 0) 13 47 1 0 13 47 i = if false = true then 1 else 0
      rw [if_neg (by decide)]
      rcases (by omega : i = 0 ∨ i = 1) with rfl | rfl
      · rw [up_i (by decide), up_s]
      · rw [up_s]
end RHouse
