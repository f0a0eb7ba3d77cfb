/-! contracts over the state: feed, hang, turn, wall, seed, ask, write, tear -/
section Moves
variable {E : Nat → Nat → Int32} {d : Nat} {Q : am_Q} {M : am_M} {R : am_R} {b : Bool} {s : St} {x1 x2 x3 : Int32}
theorem c_feed (hR : CRel M b s) (hS : SOk s) (hQ : KC M b (s.1, s.2.1, feS s.2.2.1 x1, s.2.2.2) (feA s.2.2.1 x1) Q) : am_WM E (d + 2) 63 [aO 6 0, aI x1] M (Rs b) Q := by
  obtain ⟨n, hn, e, -⟩ := hS.2.2.2.1
  have en : M 1 1 0 = nI n := by rw [← e, ← hR.2.2.2.1]; rfl
  have hsame : ∀ {a : Int32}, feS s.2.2.1 x1 = s.2.2.1 → feA s.2.2.1 x1 = a → Q (some (aI a)) M (Rs b) := fun {a} h1 h2 => by
    rw [h1, h2] at hQ
    exact hQ M rfl hR
  refine w_X6_feed ?_
  rcases inN_or (x := x1) (n := 256) (by omega) with ⟨m, hm, e1, hin⟩ | ⟨hx, hno⟩
  · refine ⟨fun q => absurd q (by rw [e1]; exact ix_lt (by omega)), fun _ => ⟨fun _ => w_X3_append ?_, fun q => absurd (by rw [e1]; exact ix_le (n := m) (q := 255) (by omega) (by omega)) q⟩⟩
    rw [up_s, up_k (o' := 1) (k' := 1) (i' := 0) (by decide), en, ix_cl (n := n) (by omega), nI_1]
    by_cases ef : n = 240
    · have e240 : s.2.2.1 0 0 = 240 := by rw [e, ef]; rfl
      refine ⟨fun q => absurd q (nI_nlt (b := 240) (by omega) (by omega)), fun _ => ⟨_, rfl, hsame ?_ ?_⟩⟩
      · unfold feS; rw [if_pos hin, if_pos e240]
      · unfold feA; rw [if_pos hin, if_pos e240]
    · have e240 : ¬ s.2.2.1 0 0 = 240 := fun z => by
        rw [e] at z
        have z' : nI n = nI 240 := z
        rw [ix_eq (by omega) (by omega)] at z'
        exact ef z'
      refine ⟨fun _ => ⟨ix_in (by omega) (by omega), _, rfl, ?_⟩, fun q => absurd (nI_lt (b := 240) (by omega) (by omega)) q⟩
      unfold feA feS at hQ
      rw [if_pos hin, if_pos hin, if_neg e240, if_neg e240, e, nI_1] at hQ
      refine hQ _ (by funext k; rw [am_up_off 13 k (by simp), am_up_off 13 k (by simp)]) ?_
      refine CRel_1 (S := [(1, 0), (1, 1)]) (eqX_up (eqX_up eqX_rfl (by simp)) (by simp)) (fun o k h => by simp at h; omega) hR ?_
      rw [tC_psh en (by omega), hR.2.2.2.1]
  · refine ⟨fun _ => hsame ?_ ?_, fun q => ⟨fun q2 => absurd q2 (fun z => hx.elim q (fun y => ix_ge (q := 255) (n := 256) (by omega) (by omega) (Int32.le_trans y z))), fun _ => hsame ?_ ?_⟩⟩
    · unfold feS; rw [if_neg hno]
    · unfold feA; rw [if_neg hno]
    · unfold feS; rw [if_neg hno]
    · unfold feA; rw [if_neg hno]
theorem r_feed (hR : MRel M s) (hS : SOk s) (hQ : KM M R (s.1, s.2.1, feS s.2.2.1 x1, s.2.2.2) (feA s.2.2.1 x1) Q) : am_WM E (d + 2) 106 [aO 7 13, aI x1] M R Q := by
  obtain ⟨n, hn, e, -⟩ := hS.2.2.2.1
  have en : M 13 14 0 = nI n := by rw [← e, ← hR.2.2.1]; rfl
  have hsame : ∀ {a : Int32}, feS s.2.2.1 x1 = s.2.2.1 → feA s.2.2.1 x1 = a → Q (some (aI a)) M R := fun {a} h1 h2 => by
    rw [h1, h2] at hQ
    exact hQ M (fun _ _ => rfl) hR
  refine w_X7_feed (m_X7_in (fun q => kv ⟨fun _ => ?_, fun z => absurd z (by decide)⟩) (fun q => kv ⟨fun z => absurd rfl z, fun _ => ?_⟩))
  · rw [Int32.toInt_toInt64] at q
    have q0 : (0 : Int) ≤ x1.toInt := q.1
    have q1 : x1.toInt ≤ 255 := q.2
    have hin : inN x1 256 := ⟨q0, by omega⟩
    rw [up_s, up_k (o' := 13) (k' := 14) (i' := 0) (by decide), en, ix_cl (n := n) (by omega), nI_1]
    by_cases ef : n = 240
    · have e240 : s.2.2.1 0 0 = 240 := by rw [e, ef]; rfl
      refine ⟨fun q => absurd (by rw [ef]; rfl) q, fun _ => hsame ?_ ?_⟩
      · unfold feS; rw [if_pos hin, if_pos e240]
      · unfold feA; rw [if_pos hin, if_pos e240]
    · have e240 : ¬ s.2.2.1 0 0 = 240 := fun z => by
        rw [e] at z
        have z' : nI n = nI 240 := z
        rw [ix_eq (by omega) (by omega)] at z'
        exact ef z'
      refine ⟨fun _ => ⟨ix_in (by omega) (by omega), ?_⟩, fun q => absurd (by rw [e]; exact q) e240⟩
      unfold feA feS at hQ
      rw [if_pos hin, if_pos hin, if_neg e240, if_neg e240, e, nI_1] at hQ
      refine hQ _ (fun o ho => by funext k; rw [am_up_off o k (fun z => ho z.1), am_up_off o k (fun z => ho z.1)]) ?_
      refine MRel_1 (S := [(13, 13), (13, 14)]) (eqX_up (eqX_up eqX_rfl (by simp)) (by simp)) (fun o k h => by simp at h; omega) hR ?_
      rw [tM_psh en (by omega), hR.2.2.1]
  · rw [Int32.toInt_toInt64] at q
    have hno : ¬ inN x1 256 := fun z => q ⟨z.1, by show x1.toInt ≤ (255 : Int); have := z.2; omega⟩
    refine hsame ?_ ?_
    · unfold feS; rw [if_neg hno]
    · unfold feA; rw [if_neg hno]
theorem c_hang (hE : stepE E) (hR : CRel M b s) (hS : SOk s) (hQ : KC M b (hgS s.1 x1 x2 x3, s.2) (hgA s.1 x1 x2 x3) Q) : am_WM E (d + 5) 70 [aO 6 0, aI x1, aI x2, aI x3] M (Rs b) Q := by
  have hF := CR_F hR hS
  have h8 := hF.1.1
  have hgc : pl b ≠ 6 := pl_ne (by omega)
  have hsame : ∀ {a : Int32}, hgS s.1 x1 x2 x3 = s.1 → hgA s.1 x1 x2 x3 = a → Q (some (aI a)) M (Rs b) := fun {a} h1 h2 => by
    rw [h1, h2] at hQ
    exact hQ M rfl hR
  refine w_X6_hang (m_X4_has hF.1.2.1 h8 (fun p hp e => k1e (m_X2_hasCell (c := 6) (fun a => kv ⟨fun _ => m_X4_whatIsOn (g := pl b) (c := 6) hF.1.2.1 h8 hF.1.2.2.2.1 hF.1.2.2.1 (kv ⟨fun y => ?_, fun y => ?_⟩), fun q => absurd q (by decide)⟩) (fun a => kv ⟨fun q => absurd rfl q, fun _ => ?_⟩))) (fun a => k0e ?_))
  · have hi : inN x1 (sN s.1) ∧ cellP s.1 x2 x3 := by rw [← hR.1, e]; exact ⟨inN_mk hp (by omega), a⟩
    have hon : onF s.1 x2 x3 = -1 := by rw [← hR.1]; exact y
    unfold hgA hgS at hQ
    rw [if_pos hi, if_pos hi, if_pos hon, if_pos hon, e, ix_cl (n := p) (by omega)] at hQ
    subst e
    refine ⟨ix_in (by omega) (by omega), ix_in (by omega) (by omega), ?_⟩
    rw [ix_cl (n := p) (by omega)]
    have hv1 : vc (am_up M 6 5 p x2) (pl b) 6 = sup (vc M (pl b) 6) 11 p x2 := vc_up hgc (by omega) hp
    have hv2 : vc (am_up (am_up M 6 5 p x2) 6 6 p x3) (pl b) 6 = sup (sup s.1 11 p x2) 12 p x3 := by
      rw [vc_up hgc (by omega) (by rw [hv1]; unfold sN; rw [sup_off (by decide)]; exact hp), hv1, hR.1]
      rfl
    have hX2 : eqX [(6, 5), (6, 6)] M (am_up (am_up M 6 5 p x2) 6 6 p x3) := eqX_up (eqX_up eqX_rfl (by simp)) (by simp)
    refine m_X4_lookAll (g := pl b) (c := 6) hE hgc (M := am_up (am_up M 6 5 p x2) 6 6 p x3) (by rw [hv2]; exact hg_wg hS.1.1) (fun M3 hX3 hv3 hL3 => ⟨rfl, ix_in (by omega) (by omega), ?_⟩)
    rw [hv2] at hv3
    have e9 : M3 6 9 p = lk (sup (sup s.1 11 p x2) 12 p x3) p := by
      rw [← hv3]
      refine hL3 p ?_
      rw [hv3]
      unfold sN
      rw [hg_off (by decide) (by decide), ← hR.1]
      exact hp
    show Q (some (aI (M3 6 9 p))) M3 (Rs b)
    rw [e9]
    have hX : eqX [(6, 5), (6, 6), (6, 9)] M M3 := eqX_tr (eqX_sub hX2 (by simp)) (eqX_sub hX3 (by simp))
    exact hQ M3 (eq13 hX (by simp)) (CRel_6 hX (fun o k h => by simp at h; omega) hR hv3 hL3)
  · have hi : inN x1 (sN s.1) ∧ cellP s.1 x2 x3 := by rw [← hR.1, e]; exact ⟨inN_mk hp (by omega), a⟩
    have hon : ¬ onF s.1 x2 x3 = -1 := by rw [← hR.1]; exact y
    refine hsame ?_ ?_
    · unfold hgS; rw [if_pos hi, if_neg hon]
    · unfold hgA; rw [if_pos hi, if_neg hon]
  · have hno : ¬ (inN x1 (sN s.1) ∧ cellP s.1 x2 x3) := fun z => a (by show cellP (vc M (pl b) 6) x2 x3; rw [hR.1]; exact z.2)
    refine hsame ?_ ?_
    · unfold hgS; rw [if_neg hno]
    · unfold hgA; rw [if_neg hno]
  · have hno : ¬ (inN x1 (sN s.1) ∧ cellP s.1 x2 x3) := fun z => inN_not a (by rw [hR.1]; exact z.1)
    refine hsame ?_ ?_
    · unfold hgS; rw [if_neg hno]
    · unfold hgA; rw [if_neg hno]
theorem r_hang (hR : MRel M s) (hS : SOk s) (hQ : KM M R (hgS s.1 x1 x2 x3, s.2) (hgA s.1 x1 x2 x3) Q) : am_WM E (d + 4) 129 [aO 7 13, aI x1, aI x2, aI x3] M R Q := by
  have hF := MR_F hR hS
  have h8 := hF.1.1
  obtain ⟨w, hw, ew⟩ := hF.1.2.2.2.2.2.2.1
  obtain ⟨h', hh', eh⟩ := hF.1.2.2.2.2.2.2.2.1
  have hsame : ∀ {a : Int32}, hgS s.1 x1 x2 x3 = s.1 → hgA s.1 x1 x2 x3 = a → Q (some (aI a)) M R := fun {a} h1 h2 => by
    rw [h1, h2] at hQ
    exact hQ M (fun _ _ => rfl) hR
  refine w_X7_hang (m_X7_isPicture hF.1.2.1 h8 (fun p hp e => k1e (m_X7_isCell ew eh hw hh' (fun a => kv ⟨fun _ => m_X7_onCell hF.1.2.1 h8 hF.1.2.2.2.1 hF.1.2.2.1 (kv ⟨fun y => ?_, fun y => ?_⟩), fun q => absurd q (by decide)⟩) (fun a => kv ⟨fun q => absurd rfl q, fun _ => ?_⟩))) (fun a => k0e ?_))
  · have hi : inN x1 (sN s.1) ∧ cellP s.1 x2 x3 := by rw [← hR.1, e]; exact ⟨inN_mk hp (by omega), a⟩
    have hon : onF s.1 x2 x3 = -1 := by
      rw [← hR.1]
      rcases onF_cases (vm M) x2 x3 with z | ⟨q, hq, z, -⟩ | ⟨q, hq, z⟩
      · exact z
      · rw [z] at y; exact absurd y (ix_lt (by omega))
      · have h4 := hF.1.2.2.1
        rw [z] at y; exact absurd y (ix_lt (by omega))
    have him := hg_im (σ := s.1) (x1 := x1) (x2 := x2) (x3 := x3)
    unfold hgS at him
    unfold hgA hgS at hQ
    rw [if_pos hi, if_pos hi, if_pos hon, if_pos hon, e, ix_cl (n := p) (by omega)] at hQ
    rw [if_pos hi, if_pos hon, e, ix_cl (n := p) (by omega)] at him
    subst e
    rw [show (8 : Int32) + nI p = nI (8 + p) from nI_add 8 p, ix_cl (n := 8 + p) (by omega), ix_cl (n := p) (by omega)]
    refine ⟨ix_in (by omega) (by omega), ix_in (by omega) (by omega), ?_⟩
    have hv1 : vm (am_up M 13 11 p x2) = sup (vm M) 11 p x2 := vm_up11 h8 hp
    have hN1 : sN (vm (am_up M 13 11 p x2)) = sN (vm M) := by rw [hv1]; unfold sN; rw [sup_off (by decide)]
    have hv2 : vm (am_up (am_up M 13 11 p x2) 13 11 (8 + p) x3) = sup (sup s.1 11 p x2) 12 p x3 := by
      rw [vm_up12 (by rw [hN1]; exact h8) (by rw [hN1]; exact hp), hv1, hR.1]
    have hX2 : eqX [(13, 11)] M (am_up (am_up M 13 11 p x2) 13 11 (8 + p) x3) := eqX_up (eqX_up eqX_rfl (by simp)) (by simp)
    refine m_X7_looksAt (by rw [hv2]; exact hg_wg hS.1.1) (by rw [hv2]; unfold sN; rw [hg_off (by decide) (by decide), ← hR.1]; exact hp) (kv ?_)
    rw [hv2]
    exact hQ _ (eqo hX2 (fun o k h => by simp at h; omega)) (MRel_6 hX2 (fun o k h => by simp at h; rcases h with ⟨rfl, rfl⟩; exact ⟨rfl, rfl⟩) hR hv2 him)
  · have hi : inN x1 (sN s.1) ∧ cellP s.1 x2 x3 := by rw [← hR.1, e]; exact ⟨inN_mk hp (by omega), a⟩
    have hon : ¬ onF s.1 x2 x3 = -1 := fun z => y (by rw [hR.1, z]; decide)
    refine hsame ?_ ?_
    · unfold hgS; rw [if_pos hi, if_neg hon]
    · unfold hgA; rw [if_pos hi, if_neg hon]
  · have hno : ¬ (inN x1 (sN s.1) ∧ cellP s.1 x2 x3) := fun z => a (by rw [hR.1]; exact z.2)
    refine hsame ?_ ?_
    · unfold hgS; rw [if_neg hno]
    · unfold hgA; rw [if_neg hno]
  · have hno : ¬ (inN x1 (sN s.1) ∧ cellP s.1 x2 x3) := fun z => inN_not a (by rw [hR.1]; exact z.1)
    refine hsame ?_ ?_
    · unfold hgS; rw [if_neg hno]
    · unfold hgA; rw [if_neg hno]
theorem c_turn (hE : stepE E) (hR : CRel M b s) (hS : SOk s) (hQ : KC M b (tnS s.1 x1 x2, s.2) (tnA s.1 x1 x2) Q) : am_WM E (d + 5) 71 [aO 6 0, aI x1, aI x2] M (Rs b) Q := by
  have hF := CR_F hR hS
  have h8 := hF.1.1
  have hgc : pl b ≠ 6 := pl_ne (by omega)
  have hsame : ∀ {a : Int32}, tnS s.1 x1 x2 = s.1 → tnA s.1 x1 x2 = a → Q (some (aI a)) M (Rs b) := fun {a} h1 h2 => by
    rw [h1, h2] at hQ
    exact hQ M rfl hR
  refine w_X6_turn (m_X4_has hF.1.2.1 h8 (fun p hp e => kv ⟨fun _ => ?_, fun q => absurd q (by decide)⟩) (fun a => kv ⟨fun q => absurd rfl q, fun _ => ?_⟩))
  · have hi : inN x1 (sN s.1) := by rw [← hR.1, e]; exact inN_mk hp (by omega)
    rcases inN_or (x := x2) (n := 4) (by omega) with ⟨w, hw, e2, hin2⟩ | ⟨hx, hno⟩
    · unfold tnA tnS at hQ
      rw [if_pos hi, if_pos hi, if_pos hin2, if_pos hin2, e, ix_cl (n := p) (by omega), e2] at hQ
      subst e; subst e2
      refine ⟨fun q => absurd q (ix_lt (by omega)), fun _ => ⟨fun _ => m_X4_lookTo (g := pl b) (c := 6) hE hgc hF.1 hR.2.1 hp hw (fun M3 hX3 hv3 hL3 => ⟨rfl, ix_in (by omega) (by omega), ?_⟩), fun q => absurd (nI_lt (b := 4) hw (by omega)) q⟩⟩
      rw [hR.1] at hv3
      have e9 : M3 6 9 p = lk (sup s.1 13 p (nI w)) p := by
        rw [← hv3]
        refine hL3 p ?_
        rw [hv3]
        unfold sN
        rw [sup_off (by decide), ← hR.1]
        exact hp
      rw [ix_cl (n := p) (by omega)]
      show Q (some (aI (M3 6 9 p))) M3 (Rs b)
      rw [e9]
      exact hQ M3 (eq13 hX3 (by simp)) (CRel_6 hX3 (fun o k h => by simp at h; omega) hR hv3 hL3)
    · have g1 : tnS s.1 x1 x2 = s.1 := by unfold tnS; rw [if_pos hi, if_neg hno]
      have g2 : tnA s.1 x1 x2 = -1000000002 := by unfold tnA; rw [if_pos hi, if_neg hno]
      exact ⟨fun _ => hsame g1 g2, fun q => ⟨fun y => absurd y (Int32.not_lt.mpr (hx.resolve_left q)), fun _ => hsame g1 g2⟩⟩
  · have hno : ¬ inN x1 (sN s.1) := fun z => inN_not a (by rw [hR.1]; exact z)
    refine hsame ?_ ?_
    · unfold tnS; rw [if_neg hno]
    · unfold tnA; rw [if_neg hno]
theorem r_turn (hR : MRel M s) (hS : SOk s) (hQ : KM M R (tnS s.1 x1 x2, s.2) (tnA s.1 x1 x2) Q) : am_WM E (d + 4) 130 [aO 7 13, aI x1, aI x2] M R Q := by
  have hF := MR_F hR hS
  have h8 := hF.1.1
  have hsame : ∀ {a : Int32}, tnS s.1 x1 x2 = s.1 → tnA s.1 x1 x2 = a → Q (some (aI a)) M R := fun {a} h1 h2 => by
    rw [h1, h2] at hQ
    exact hQ M (fun _ _ => rfl) hR
  refine w_X7_turn (m_X7_isPicture hF.1.2.1 h8 (fun p hp e => kv ⟨fun _ => m_X7_in (fun q => kv ⟨fun _ => ?_, fun z => absurd z (by decide)⟩) (fun q => kv ⟨fun z => absurd rfl z, fun _ => ?_⟩), fun q => absurd q (by decide)⟩) (fun a => kv ⟨fun q => absurd rfl q, fun _ => ?_⟩))
  · have hi : inN x1 (sN s.1) := by rw [← hR.1, e]; exact inN_mk hp (by omega)
    rw [Int32.toInt_toInt64] at q
    have q0 : (0 : Int) ≤ x2.toInt := q.1
    have q1 : x2.toInt ≤ 3 := q.2
    have hin2 : inN x2 4 := ⟨q0, by omega⟩
    have him := tn_im (σ := s.1) (x1 := x1) (x2 := x2)
    unfold tnS at him
    unfold tnA tnS at hQ
    rw [if_pos hi, if_pos hi, if_pos hin2, if_pos hin2, e, ix_cl (n := p) (by omega)] at hQ
    rw [if_pos hi, if_pos hin2, e, ix_cl (n := p) (by omega)] at him
    subst e
    rw [n_16, ix_cl (n := 16 + p) (by omega)]
    refine ⟨ix_in (by omega) (by omega), ?_⟩
    have hv2 : vm (am_up M 13 11 (16 + p) x2) = sup s.1 13 p x2 := by rw [vm_up13 h8 hp, hR.1]
    have hX2 : eqX [(13, 11)] M (am_up M 13 11 (16 + p) x2) := eqX_up eqX_rfl (by simp)
    have hg : Wg (sup s.1 13 p x2) := by
      rw [i_of (x := x2) (n := x2.toInt.toNat) (by omega)]
      exact Wg_way hS.1.1 (by omega)
    refine m_X7_looksAt (by rw [hv2]; exact hg) (by rw [hv2]; unfold sN; rw [sup_off (by decide), ← hR.1]; exact hp) (kv ?_)
    rw [hv2]
    exact hQ _ (eqo hX2 (fun o k h => by simp at h; omega)) (MRel_6 hX2 (fun o k h => by simp at h; rcases h with ⟨rfl, rfl⟩; exact ⟨rfl, rfl⟩) hR hv2 him)
  · have hi : inN x1 (sN s.1) := by rw [← hR.1, e]; exact inN_mk hp (by omega)
    rw [Int32.toInt_toInt64] at q
    have hno : ¬ inN x2 4 := fun z => q ⟨z.1, by show x2.toInt ≤ (3 : Int); have := z.2; omega⟩
    refine hsame ?_ ?_
    · unfold tnS; rw [if_pos hi, if_neg hno]
    · unfold tnA; rw [if_pos hi, if_neg hno]
  · have hno : ¬ inN x1 (sN s.1) := fun z => inN_not a (by rw [hR.1]; exact z)
    refine hsame ?_ ?_
    · unfold tnS; rw [if_neg hno]
    · unfold tnA; rw [if_neg hno]
theorem c_wall (hE : stepE E) (hR : CRel M b s) (hS : SOk s) (hx : x2 = 0 ∨ x2 = 1) (hQ : KC M b (waS s.1 x1 x2, s.2) (wllA s.1 x1) Q) : am_WM E (d + 5) 72 [aO 6 0, aI x1, aI x2] M (Rs b) Q := by
  have hF := CR_F hR hS
  have h8 := hF.1.1
  have hgc : pl b ≠ 6 := pl_ne (by omega)
  have e2 : x2 = if decide (¬ x2 = 0) = true then 1 else 0 := by rcases hx with rfl | rfl <;> rfl
  refine w_X6_wall (m_X4_has hF.1.2.1 h8 (fun p hp e => kv ⟨fun _ => ?_, fun q => absurd q (by decide)⟩) (fun a => kv ⟨fun q => absurd rfl q, fun _ => ?_⟩))
  · have hi : inN x1 (sN s.1) := by rw [← hR.1, e]; exact inN_mk hp (by omega)
    unfold wllA waS at hQ
    rw [if_pos hi, if_pos hi, e, ix_cl (n := p) (by omega)] at hQ
    subst e
    have hgo : ∀ (r : Int32), (if bt (s.1 6 0) p = true then (1 : Int32) else 0) = r → am_WM E (d + 4) 44 [aO 4 6, aI (nI p), aI x2] M (Rs b) (fun q M7 R8 => q = none ∧ am_WM E (d + 4) 46 [aO 4 (R8 0 3), aO 2 (R8 0 1)] M7 R8 (fun q M9 R10 => q = none ∧ Q (some (aI r)) M9 R10)) := fun r hr => by
      rw [hr] at hQ
      have key : am_WM E (d + 4) 44 [aO 4 6, aI (nI p), aI (if decide (¬ x2 = 0) = true then 1 else 0)] M (Rs b) (fun q M7 R8 => q = none ∧ am_WM E (d + 4) 46 [aO 4 (R8 0 3), aO 2 (R8 0 1)] M7 R8 (fun q M9 R10 => q = none ∧ Q (some (aI r)) M9 R10)) := by
        refine m_X4_turnToWall (g := pl b) (c := 6) hgc (by omega) (fun M2 hX2 hv2 => ⟨rfl, ?_⟩)
        rw [hR.1] at hv2
        refine m_X4_lookAll (g := pl b) (c := 6) hE hgc (by rw [hv2]; exact (wlS_wf hS.1 (by rw [← hR.1]; exact hp)).1) (fun M3 hX3 hv3 hL3 => ⟨rfl, ?_⟩)
        have hX : eqX [(6, 1), (6, 9)] M M3 := eqX_tr (eqX_sub hX2 (by simp)) (eqX_sub hX3 (by simp))
        exact hQ M3 (eq13 hX (by simp)) (CRel_6 hX (fun o k h => by simp at h; omega) hR (hv3.trans hv2) hL3)
      rw [← e2] at key
      exact key
    refine m_X4_isTurnedToWall (g := pl b) (fun hb => k1e (hgo 1 ?_)) (fun hb => k0e (hgo 0 ?_))
    · have hb : bt (vc M (pl b) 6 6 0) p = true := hb
      rw [hR.1] at hb; rw [hb]; rfl
    · have hb : bt (vc M (pl b) 6 6 0) p = false := hb
      rw [hR.1] at hb; rw [hb]; rfl
  · have hno : ¬ inN x1 (sN s.1) := fun z => inN_not a (by rw [hR.1]; exact z)
    unfold wllA waS at hQ
    rw [if_neg hno, if_neg hno] at hQ
    exact hQ M rfl hR
theorem r_wall (hR : MRel M s) (hS : SOk s) (hx : x2 = 0 ∨ x2 = 1) (hQ : KM M R (waS s.1 x1 x2, s.2) (wllA s.1 x1) Q) : am_WM E (d + 3) 131 [aO 7 13, aI x1, aI x2] M R Q := by
  have hF := MR_F hR hS
  have h8 := hF.1.1
  refine w_X7_wall (m_X7_isPicture hF.1.2.1 h8 (fun p hp e => kv ⟨fun _ => ?_, fun q => absurd q (by decide)⟩) (fun a => kv ⟨fun q => absurd rfl q, fun _ => ?_⟩))
  · have hi : inN x1 (sN s.1) := by rw [← hR.1, e]; exact inN_mk hp (by omega)
    have him := wa_im (σ := s.1) (x1 := x1) (x2 := x2)
    unfold waS at him
    unfold wllA waS at hQ
    rw [if_pos hi, if_pos hi, e, ix_cl (n := p) (by omega)] at hQ
    rw [if_pos hi, e, ix_cl (n := p) (by omega)] at him
    subst e
    have e6 : M 13 11 32 = s.1 6 0 := by rw [← hR.1]; rfl
    obtain ⟨w, hw, ew⟩ := hS.1.2.2.1
    have hin : vp_in 32 34 := ix_in (n := 32) (by omega) (by omega)
    rw [show Int32.toNatClampNeg 32 = 32 from rfl, e6, sh1 (by omega), show (s.1 6 0 >>> (nI p &&& 31)) &&& 1 = if bt (s.1 6 0) p = true then (1 : Int32) else 0 from by rw [ew]; exact bt_v]
    have hv : ∀ v, vm (am_up M 13 11 32 v) = sus s.1 6 v := fun v => by rw [vm_up6 h8, hR.1]
    have hX : ∀ v, eqX [(13, 11)] M (am_up M 13 11 32 v) := fun v => eqX_up eqX_rfl (by simp)
    have hT : ∀ o k, (o, k) ∈ [(13, 11)] → o = 13 ∧ nwF k = true := fun o k h => by simp at h; rcases h with ⟨rfl, rfl⟩; exact ⟨rfl, rfl⟩
    refine ⟨hin, fun z => ⟨hin, hin, ?_⟩, fun z => ⟨hin, hin, ?_⟩⟩
    · rw [z] at hQ him
      exact hQ _ (eqo (hX _) (fun o k h => (hT o k h).1)) (MRel_6 (hX _) hT hR (hv _) him)
    · rw [hx.resolve_left z] at hQ him
      exact hQ _ (eqo (hX _) (fun o k h => (hT o k h).1)) (MRel_6 (hX _) hT hR (hv _) him)
  · have hno : ¬ inN x1 (sN s.1) := fun z => inN_not a (by rw [hR.1]; exact z)
    unfold wllA waS at hQ
    rw [if_neg hno, if_neg hno] at hQ
    exact hQ M (fun _ _ => rfl) hR
theorem c_seed (hR : CRel M b s) (hQ : KC M b (sdS s.1 x1, s.2) (sdA s.1 x1) Q) : am_WM E (d + 1) 89 [aO 6 0, aI x1] M (Rs b) Q := by
  unfold sdS sdA at hQ
  refine w_X6_seed ⟨fun y => ?_, fun y => ?_⟩
  · rw [if_neg (Int32.not_lt.mpr y), if_neg (Int32.not_lt.mpr y)] at hQ
    have e7 : M 6 3 0 = s.1 7 0 := by rw [← hR.1]; rfl
    rw [e7]
    have hX : eqX [(6, 3)] M (am_up M 6 3 0 x1) := eqX_up eqX_rfl (by simp)
    have hv : vc (am_up M 6 3 0 x1) (pl b) 6 = sus s.1 7 x1 := by rw [vc_ups (pl_ne (by omega)) (by omega), hR.1]; rfl
    refine hQ _ (eq13 hX (by simp)) (CRel_6 hX (fun o k h => by simp at h; omega) hR hv (fun p hp => ?_))
    rw [hv] at hp ⊢
    rw [lk_seed, am_up_off 6 9 (by decide), hR.2.1 p ?_, hR.1]
    unfold sN at hp ⊢
    rw [sus_off (by decide)] at hp
    rw [hR.1]; exact hp
  · rw [if_pos (Int32.not_le.mp y), if_pos (Int32.not_le.mp y)] at hQ
    exact hQ M rfl hR
theorem r_seed (hR : MRel M s) (hQ : KM M R (sdS s.1 x1, s.2) (sdA s.1 x1) Q) : am_WM E (d + 1) 163 [aO 7 13, aI x1] M R Q := by
  have him := sd_im (σ := s.1) (x := x1)
  unfold sdS at him
  unfold sdS sdA at hQ
  refine w_X7_seed ⟨fun y => ?_, fun y => ?_⟩
  · rw [if_neg (Int32.not_lt.mpr y), if_neg (Int32.not_lt.mpr y)] at hQ
    rw [if_neg (Int32.not_lt.mpr y)] at him
    have e7 : M 13 12 0 = s.1 7 0 := by rw [← hR.1]; rfl
    rw [e7]
    have hX : eqX [(13, 12)] M (am_up M 13 12 0 x1) := eqX_up eqX_rfl (by simp)
    exact hQ _ (eqo hX (fun o k h => by simp at h; omega)) (MRel_6 hX (fun o k h => by simp at h; rcases h with ⟨rfl, rfl⟩; exact ⟨rfl, rfl⟩) hR (by rw [vm_up7, hR.1]) him)
  · rw [if_pos (Int32.not_le.mp y), if_pos (Int32.not_le.mp y)] at hQ
    exact hQ M (fun _ _ => rfl) hR
theorem CRel_n {S : List (Nat × Nat)} {M M' : am_M} {b : Bool} {s : St} {α : Sc} (hX : eqX S M M') (hS : ∀ o k, (o, k) ∈ S → o = 10) (hC : CRel M b s) (hv : aC M' = α) : CRel M' b (s.1, α, s.2.2) := by
  have h : ∀ o, o ≠ 10 → M' o = M o := fun o a => by
    funext k
    exact hX o k (fun z => a (hS o k z))
  have hpl : M' (pl b) = M (pl b) := h _ (pl_ne (by omega))
  have hv2 : ∀ c, c ≠ 10 → vc M' (pl b) c = vc M (pl b) c := fun c a => vc_same (fun k => by rw [hpl]) (fun k _ => by rw [h c a])
  obtain ⟨c1, c2, c3, c4, c5, c6, c7⟩ := hC
  refine ⟨(hv2 6 (by decide)).trans c1, LkOk_of c2 (hv2 6 (by decide)) (by rw [h 6 (by decide)]), hv, ?_, by rw [h 0 (by decide)]; exact c5, by rw [h 0 (by decide)]; exact c6, fun i hi hk => ⟨by rw [hv2 _ (by omega)]; exact (c7 i hi hk).1, LkOk_of (c7 i hi hk).2 (hv2 _ (by omega)) (by rw [h _ (by omega)])⟩⟩
  show tC M' = s.2.2.1
  rw [← c4]; exact tC_off (fun k => by rw [h 1 (by decide)])
theorem MRel_n {S : List (Nat × Nat)} {M M' : am_M} {s : St} {α : Sc} (hX : eqX S M M') (hS : ∀ o k, (o, k) ∈ S → o = 13 ∧ 38 ≤ k ∧ k ≤ 45) (hM : MRel M s) (hv : aM M' = α) : MRel M' (s.1, α, s.2.2) := by
  have h : ∀ k, k < 38 ∨ 45 < k → M' 13 k = M 13 k := fun k a => hX 13 k (fun z => by have := (hS 13 k z).2; omega)
  have evm : vm M' = vm M := vm_off (S := S) hX (fun k hk z => by have := (hS 13 k z).2; omega)
  obtain ⟨c1, c2, c3, c4, c5, c6⟩ := hM
  refine ⟨evm.trans c1, hv, ?_, by rw [h 15 (by omega)]; exact c4, fun i hi => by rw [h 47 (by omega)]; exact c5 i hi, fun i hi hk => ?_⟩
  · show tM M' = s.2.2.1
    rw [← c3]; exact tM_off (fun k hk => h k (by omega))
  · show vi M' i = s.2.2.2.2.2 i
    rw [← c6 i hi hk]; exact vi_off (h 46 (by omega)) (fun f _ => by rw [evm])
theorem ntS_t : ∀ o k, (o, k) ∈ ntS → o = 10 := fun o k h => by simp [ntS] at h; omega
theorem mnS_t : ∀ o k, (o, k) ∈ mnS → o = 13 ∧ 38 ≤ k ∧ k ≤ 45 := fun o k h => by simp [mnS] at h; omega
theorem c_ask (hR : CRel M b s) (hS : SOk s) (hx : x3 = 0 ∨ x3 = 1) (hQ : KC M b (s.1, asS s.1 s.2.1 x1 x2 x3, s.2.2) (asA s.1 s.2.1 x1 x2) Q) : am_WM E (d + 2) 83 [aO 6 0, aI x1, aI x2, aI x3] M (Rs b) Q :=
  m_X6_ask (CR_F hR hS).1 (CR_A hR hS) hx (fun M' hX ha => by
    rw [hR.1, hR.2.2.1] at ha ⊢
    exact hQ M' (eq13 hX (by simp [ntS])) (CRel_n hX ntS_t hR ha))
theorem r_ask (hR : MRel M s) (hS : SOk s) (hx : x3 = 0 ∨ x3 = 1) (hQ : KM M R (s.1, asS s.1 s.2.1 x1 x2 x3, s.2.2) (asA s.1 s.2.1 x1 x2) Q) : am_WM E (d + 3) 155 [aO 7 13, aI x1, aI x2, aI x3] M R Q :=
  m_X7_ask (MR_F hR hS).1 (MR_A hR hS) hx (fun M' hX ha => by
    rw [hR.1, hR.2.1] at ha ⊢
    exact hQ M' (eqo hX (fun o k z => (mnS_t o k z).1)) (MRel_n hX mnS_t hR ha))
theorem c_write (hR : CRel M b s) (hS : SOk s) (hQ : KC M b (s.1, wrS s.1 s.2.1 x1 x2, s.2.2) (wrA s.1 s.2.1 x1 x2) Q) : am_WM E (d + 2) 86 [aO 6 0, aI x1, aI x2] M (Rs b) Q :=
  m_X6_write (CR_F hR hS).1 (CR_A hR hS) (fun M' hX ha => by
    rw [hR.1, hR.2.2.1] at ha ⊢
    exact hQ M' (eq13 hX (by simp [ntS])) (CRel_n hX ntS_t hR ha))
theorem r_write (hR : MRel M s) (hS : SOk s) (hQ : KM M R (s.1, wrS s.1 s.2.1 x1 x2, s.2.2) (wrA s.1 s.2.1 x1 x2) Q) : am_WM E (d + 3) 160 [aO 7 13, aI x1, aI x2] M R Q :=
  m_X7_write (MR_F hR hS).1 (MR_A hR hS) (fun M' hX ha => by
    rw [hR.1, hR.2.1] at ha ⊢
    exact hQ M' (eqo hX (fun o k z => (mnS_t o k z).1)) (MRel_n hX mnS_t hR ha))
theorem c_tear (hR : CRel M b s) (hQ : KC M b (s.1, (fun _ _ => 0), s.2.2) (s.2.1 0 0 + s.2.1 4 0) Q) : am_WM E (d + 2) 87 [aO 6 0] M (Rs b) Q :=
  m_X6_tear (fun M' hX ha => by
    rw [hR.2.2.1]
    exact hQ M' (eq13 hX (by simp [ntS])) (CRel_n hX ntS_t hR ha))
theorem r_tear (hR : MRel M s) (hQ : KM M R (s.1, (fun _ _ => 0), s.2.2) (s.2.1 0 0 + s.2.1 4 0) Q) : am_WM E (d + 1) 161 [aO 7 13] M R Q :=
  m_X7_tear (fun M' hX ha => by
    rw [hR.2.1]
    exact hQ M' (eqo hX (fun o k z => (mnS_t o k z).1)) (MRel_n hX mnS_t hR ha))
end Moves
