/-! contracts over the state: hour, drift -/
def hrS (σ : Sc) (x : Int32) : Sc := if rfH σ x = 0 then pN σ x.toNatClampNeg else σ
def hrA (σ : Sc) (x : Int32) : Int32 := if rfH σ x = 0 then pN σ x.toNatClampNeg 5 0 else rfH σ x
theorem rfH_0 {σ : Sc} {x : Int32} (h : rfH σ x = 0) : (∃ n, 1 ≤ n ∧ n ≤ 60 ∧ x = nI n) ∧ σ 5 0 ≤ 90000 := by
  unfold rfH at h
  split at h
  · next hx =>
    split at h
    · exact absurd h (by decide)
    · split at h
      · next h5 =>
        have a := hx.1
        have c := hx.2
        exact ⟨⟨x.toInt.toNat, by omega, by omega, i_of (by omega)⟩, h5⟩
      · exact absurd h (by decide)
  · exact absurd h (by decide)
theorem h90 {σ : Sc} {h : Nat} (e : σ 5 0 = nI h) (hh : h ≤ 90060) (h5 : σ 5 0 ≤ 90000) : h ≤ 90000 := by
  rw [e] at h5
  have h5' : nI h ≤ nI 90000 := h5
  rw [nI_leI (by omega) (by omega)] at h5'
  exact h5'
theorem pN_im {σ : Sc} {k : Nat} : ∀ f, imF f = true → pN σ k f = σ f := fun f hf => pN_off (fun z => by rw [z] at hf; cases hf) (fun z => by rw [z] at hf; cases hf) k
theorem hr_im {σ : Sc} {x : Int32} : ∀ f, imF f = true → hrS σ x f = σ f := fun f hf => by
  unfold hrS
  split
  · exact pN_im f hf
  · rfl
theorem hr_ok {s : St} {x : Int32} (hS : SOk s) : SOk (hrS s.1 x, s.2) := by
  obtain ⟨h, hh, e⟩ := hS.2.1
  refine SOk_6 hS ?_ ?_ hr_im
  · unfold hrS
    split
    · next hr =>
      obtain ⟨⟨n, h1, h2, ex⟩, h5⟩ := rfH_0 hr
      rw [ex, ix_cl (by omega)]
      exact pN_wf hS.1 e n (by omega)
    · exact hS.1
  · unfold hrS
    split
    · next hr =>
      obtain ⟨⟨n, h1, h2, ex⟩, h5⟩ := rfH_0 hr
      have := h90 e hh h5
      rw [ex, ix_cl (by omega)]
      exact ⟨h + n, by omega, pN_5 e n⟩
    · exact hS.2.1
theorem lk_pass {σ : Sc} (p : Nat) : lk (passF σ) p = lk σ p := lk_congr (fun f a c _ => passG_off a c) p
theorem dust_off {σ : Sc} {f : Nat} (h1 : f ≠ 7) (h2 : f ≠ 13) : dustF σ f = σ f := by
  unfold dustF
  split
  · exact sus_off h1
  · rw [sup_off h2, sus_off h1]
theorem dust_wf {σ : Sc} (hF : Wf σ) : Wf (dustF σ) := by
  obtain ⟨z, hz, ez, ecl⟩ := seed_nI hF.2.2.2.2.1
  unfold dustF
  rw [ecl]
  have h1 := nxS_lt z
  have h2 := nxS_lt (nxS z)
  generalize nxS (nxS z) = z2 at *
  generalize nxS z = z1 at *
  split
  · exact sus7_wf hF (nI_pos (by omega))
  · exact tw_wf (sus7_wf hF (nI_pos (by omega))) (Nat.mod_lt _ (by decide))
def dN (σ : Sc) : Nat → Sc
  | 0 => σ
  | k + 1 => passF (dustF (dN σ k))
theorem dN_5 {σ : Sc} {h : Nat} (h5 : σ 5 0 = nI h) : ∀ k, dN σ k 5 0 = nI (h + k)
  | 0 => h5
  | k + 1 => by
    show passG (dustF (dN σ k)) (comesF (dustF (dN σ k))) 5 0 = _
    rw [passG_5, dust_off (by decide) (by decide), dN_5 h5 k, nI_1]
    rfl
theorem pass_wf {σ : Sc} {h : Nat} (hF : Wf σ) (h5 : σ 5 0 = nI h) (hh : h < 100000) : Wf (passF σ) := passG_wf hF (fun q _ => comesF_small hF (nI q)) h5 hh
theorem dN_wf {σ : Sc} {h : Nat} (hF : Wf σ) (h5 : σ 5 0 = nI h) : ∀ k, h + k ≤ 100000 → Wf (dN σ k)
  | 0, _ => hF
  | k + 1, hk => pass_wf (dust_wf (dN_wf hF h5 k (by omega))) (by rw [dust_off (by decide) (by decide)]; exact dN_5 h5 k) (by omega)
theorem dN_im {σ : Sc} : ∀ (k : Nat) f, imF f = true → dN σ k f = σ f
  | 0, _, _ => rfl
  | k + 1, f, hf => by
    show passG (dustF (dN σ k)) (comesF (dustF (dN σ k))) f = _
    rw [passG_off (fun z => by rw [z] at hf; cases hf) (fun z => by rw [z] at hf; cases hf), dust_off (fun z => by rw [z] at hf; cases hf) (fun z => by rw [z] at hf; cases hf)]
    exact dN_im k f hf
def dfS (σ : Sc) (x : Int32) : Sc := if rfH σ x = 0 then dN σ x.toNatClampNeg else σ
def dfA (σ : Sc) (x : Int32) : Int32 := if rfH σ x = 0 then dN σ x.toNatClampNeg 5 0 else rfH σ x
theorem df_im {σ : Sc} {x : Int32} : ∀ f, imF f = true → dfS σ x f = σ f := fun f hf => by
  unfold dfS
  split
  · exact dN_im _ f hf
  · rfl
theorem df_ok {s : St} {x : Int32} (hS : SOk s) : SOk (dfS s.1 x, s.2) := by
  obtain ⟨h, hh, e⟩ := hS.2.1
  refine SOk_6 hS ?_ ?_ df_im
  · unfold dfS
    split
    · next hr =>
      obtain ⟨⟨n, h1, h2, ex⟩, h5⟩ := rfH_0 hr
      rw [ex, ix_cl (by omega)]
      exact dN_wf hS.1 e n (by omega)
    · exact hS.1
  · unfold dfS
    split
    · next hr =>
      obtain ⟨⟨n, h1, h2, ex⟩, h5⟩ := rfH_0 hr
      have := h90 e hh h5
      rw [ex, ix_cl (by omega)]
      exact ⟨h + n, by omega, dN_5 e n⟩
    · exact hS.2.1
section Hours
variable {E : Nat → Nat → Int32} {d : Nat} {Q : am_Q} {R : am_R} {b : Bool} {s : St} {x1 : Int32}
def hoS : List (Nat × Nat) := [(6, 2), (6, 3), (6, 7), (6, 8), (6, 9), (6, 10)]
theorem hoS_t : ∀ o k, (o, k) ∈ hoS → o = 6 := fun o k h => by simp [hoS] at h; omega
theorem hour6_loop {M0 : am_M} {σ : Sc} {n h : Nat} (hF : Wf σ) (h5 : σ 5 0 = nI h) (hh : h ≤ 99000) (hn : n ≤ 60) (hQ : ∀ M', eqX hoS M0 M' → vc M' (pl b) 6 = pN σ n → LkOk M' (pl b) 6 → Q (some (aI (pN σ n 5 0))) M' (Rs b)) : ∀ (k i : Nat) (M : am_M), i + k = n → eqX hoS M0 M → vc M (pl b) 6 = pN σ i → LkOk M (pl b) 6 → am_WP E (am_WM E (d + 2)) am_L_X6_hour Q 14 [aO 6 0, aI (nI n), aU, aI (nI i)] [] M (Rs b) := by
  intro k
  induction k with
  | zero =>
    intro i M hi hX hv hL
    have : i = n := by omega
    subst this
    refine w_X6_hour_14 ⟨fun _ => ?_, fun y => absurd (ix_le (by omega) (by omega)) y⟩
    have := hQ M hX hv hL
    rw [← hv] at this
    exact this
  | succ k ih =>
    intro i M hi hX hv hL
    refine w_X6_hour_14 ⟨fun y => absurd y (ix_ge (by omega) (by omega)), fun _ => m_X4_passOneHour (g := pl b) (c := 6) (pl_ne (by omega)) (by rw [hv]; exact pN_wf hF h5 i (by omega)) hL (fun M' hX' hv' => ⟨rfl, ?_⟩)⟩
    rw [nI_1]
    refine ih (i + 1) M' (by omega) (eqX_tr hX (eqX_sub hX' (by simp [hoS]))) (by rw [hv', hv]; rfl) (fun p hp => ?_)
    rw [hv'] at hp ⊢
    rw [lk_pass, hX' 6 9 (by simp)]
    refine hL p ?_
    unfold sN at hp ⊢
    unfold passF at hp
    rw [passG_off (by decide) (by decide)] at hp
    exact hp
theorem c_hour {M : am_M} (hR : CRel M b s) (hS : SOk s) (hQ : KC M b (hrS s.1 x1, s.2) (hrA s.1 x1) Q) : am_WM E (d + 3) 73 [aO 6 0, aI x1] M (Rs b) Q := by
  obtain ⟨h, hh, e⟩ := hS.2.1
  unfold hrS hrA at hQ
  refine w_X6_hour (m_X6_refusalOfHours (kv ?_))
  rw [hR.1]
  refine ⟨fun z => ?_, fun z => ?_⟩
  · rw [if_pos z, if_pos z] at hQ
    obtain ⟨⟨n, h1, h2, ex⟩, h5⟩ := rfH_0 z
    subst ex
    rw [ix_cl (by omega)] at hQ
    exact hour6_loop hS.1 e (by omega) h2 (fun M' hX hv hL => hQ M' (eq13 hX (by simp [hoS])) (CRel_6 hX hoS_t hR hv hL)) n 0 M (by omega) eqX_rfl hR.1 hR.2.1
  · rw [if_neg z, if_neg z] at hQ
    exact hQ M rfl hR
theorem hour7_loop {M0 : am_M} {σ : Sc} {n h : Nat} (hF : Wf σ) (h5 : σ 5 0 = nI h) (hh : h ≤ 99000) (hn : n ≤ 60) (hQ : ∀ M', eqX [(13, 11), (13, 34)] M0 M' → vm M' = pN σ n → Q (some (aI (pN σ n 5 0))) M' R) : ∀ (k i : Nat) (M : am_M), i + k = n → eqX [(13, 11), (13, 34)] M0 M → vm M = pN σ i → am_WP E (am_WM E (d + 5)) am_L_X7_hour Q 8 [aO 7 13, aI (nI n), aI 0, aI (nI i)] [] M R := by
  intro k
  induction k with
  | zero =>
    intro i M hi hX hv
    have : i = n := by omega
    subst this
    refine w_X7_hour_8 ⟨fun _ => ⟨fun y => absurd rfl y, fun _ => ⟨ix_in (n := 33) (by omega) (by omega), ?_⟩⟩, fun y => absurd (ix_le (by omega) (by omega)) y⟩
    have := hQ M hX hv
    rw [← hv] at this
    exact this
  | succ k ih =>
    intro i M hi hX hv
    refine w_X7_hour_8 ⟨fun y => absurd y (ix_ge (by omega) (by omega)), fun _ => ⟨fun y => absurd rfl y, fun _ => m_X7_pass (by rw [hv]; exact (pN_wf hF h5 i (by omega)).1) (fun M' hX' hv' => ⟨rfl, ?_⟩)⟩⟩
    rw [nI_1]
    exact ih (i + 1) M' (by omega) (eqX_tr hX hX') (by rw [hv', hv]; rfl)
theorem nw_t : ∀ o k, (o, k) ∈ [(13, 11), (13, 12), (13, 34)] → o = 13 ∧ nwF k = true := fun o k h => by simp at h; rcases h with ⟨rfl, rfl⟩ | ⟨rfl, rfl⟩ | ⟨rfl, rfl⟩ <;> exact ⟨rfl, rfl⟩
theorem r_hour {M : am_M} (hR : MRel M s) (hS : SOk s) (hQ : KM M R (hrS s.1 x1, s.2) (hrA s.1 x1) Q) : am_WM E (d + 6) 137 [aO 7 13, aI x1] M R Q := by
  obtain ⟨h, hh, e⟩ := hS.2.1
  have him := hr_im (σ := s.1) (x := x1)
  unfold hrS at him
  unfold hrS hrA at hQ
  refine w_X7_hour (m_X7_hoursRefused (kv ?_))
  rw [hR.1]
  by_cases z : rfH s.1 x1 = 0
  · rw [if_pos z, if_pos z] at hQ
    rw [if_pos z] at him
    obtain ⟨⟨n, h1, h2, ex⟩, h5⟩ := rfH_0 z
    rw [z]
    subst ex
    rw [ix_cl (by omega)] at hQ him
    exact hour7_loop hS.1 e (by omega) h2 (fun M' hX hv => hQ M' (eqo (eqX_sub hX (by simp : ∀ q ∈ [(13, 11), (13, 34)], q ∈ [(13, 11), (13, 12), (13, 34)])) (fun o k h => (nw_t o k h).1)) (MRel_6 (eqX_sub hX (by simp)) nw_t hR hv him)) n 0 M (by omega) eqX_rfl hR.1
  · rw [if_neg z, if_neg z] at hQ
    have hq := hQ M (fun _ _ => rfl) hR
    exact w_X7_hour_8 ⟨fun _ => ⟨fun _ => hq, fun y => absurd y z⟩, fun _ => ⟨fun _ => ⟨fun _ => hq, fun y => absurd y z⟩, fun y => absurd y z⟩⟩
theorem drift6_loop {M0 : am_M} {σ : Sc} {n h : Nat} (hE : stepE E) (hF : Wf σ) (h5 : σ 5 0 = nI h) (hh : h ≤ 99000) (hn : n ≤ 60) (hQ : ∀ M', eqX hoS M0 M' → vc M' (pl b) 6 = dN σ n → LkOk M' (pl b) 6 → Q (some (aI (dN σ n 5 0))) M' (Rs b)) : ∀ (k i : Nat) (M : am_M), i + k = n → eqX hoS M0 M → vc M (pl b) 6 = dN σ i → LkOk M (pl b) 6 → am_WP E (am_WM E (d + 5)) am_L_X6_drift Q 14 [aO 6 0, aI (nI n), aU, aI (nI i)] [] M (Rs b) := by
  intro k
  induction k with
  | zero =>
    intro i M hi hX hv hL
    have : i = n := by omega
    subst this
    refine w_X6_drift_14 ⟨fun _ => ?_, fun y => absurd (ix_le (by omega) (by omega)) y⟩
    have := hQ M hX hv hL
    rw [← hv] at this
    exact this
  | succ k ih =>
    intro i M hi hX hv hL
    have hw := dN_wf hF h5 i (by omega)
    refine w_X6_drift_14 ⟨fun y => absurd y (ix_ge (by omega) (by omega)), fun _ => m_X4_dustByDraw (g := pl b) (c := 6) hE (pl_ne (by omega)) (by rw [hv]; exact hw) hL (fun M1 hX1 hv1 hL1 => ⟨rfl, ?_⟩)⟩
    rw [hv] at hv1
    refine m_X4_passOneHour (g := pl b) (c := 6) (pl_ne (by omega)) (by rw [hv1]; exact dust_wf hw) hL1 (fun M' hX' hv' => ⟨rfl, ?_⟩)
    rw [nI_1]
    refine ih (i + 1) M' (by omega) (eqX_tr hX (eqX_tr (eqX_sub hX1 (by simp [hoS])) (eqX_sub hX' (by simp [hoS])))) (by rw [hv', hv1]; rfl) (fun p hp => ?_)
    rw [hv'] at hp ⊢
    rw [lk_pass, hX' 6 9 (by simp)]
    refine hL1 p ?_
    unfold sN at hp ⊢
    unfold passF at hp
    rw [passG_off (by decide) (by decide)] at hp
    exact hp
theorem c_drift {M : am_M} (hE : stepE E) (hR : CRel M b s) (hS : SOk s) (hQ : KC M b (dfS s.1 x1, s.2) (dfA s.1 x1) Q) : am_WM E (d + 6) 74 [aO 6 0, aI x1] M (Rs b) Q := by
  obtain ⟨h, hh, e⟩ := hS.2.1
  unfold dfS dfA at hQ
  refine w_X6_drift (m_X6_refusalOfHours (kv ?_))
  rw [hR.1]
  refine ⟨fun z => ?_, fun z => ?_⟩
  · rw [if_pos z, if_pos z] at hQ
    obtain ⟨⟨n, h1, h2, ex⟩, h5⟩ := rfH_0 z
    subst ex
    rw [ix_cl (by omega)] at hQ
    exact drift6_loop hE hS.1 e (by omega) h2 (fun M' hX hv hL => hQ M' (eq13 hX (by simp [hoS])) (CRel_6 hX hoS_t hR hv hL)) n 0 M (by omega) eqX_rfl hR.1 hR.2.1
  · rw [if_neg z, if_neg z] at hQ
    exact hQ M rfl hR
theorem drift7_loop {M0 : am_M} {σ : Sc} {n h : Nat} (hF : Wf σ) (h5 : σ 5 0 = nI h) (hh : h ≤ 99000) (hn : n ≤ 60) (hQ : ∀ M', eqX [(13, 11), (13, 12), (13, 34)] M0 M' → vm M' = dN σ n → Q (some (aI (dN σ n 5 0))) M' R) : ∀ (k i : Nat) (M : am_M), i + k = n → eqX [(13, 11), (13, 12), (13, 34)] M0 M → vm M = dN σ i → am_WP E (am_WM E (d + 5)) am_L_X7_drift Q 8 [aO 7 13, aI (nI n), aI 0, aI (nI i), aU] [] M R := by
  intro k
  induction k with
  | zero =>
    intro i M hi hX hv
    have : i = n := by omega
    subst this
    refine w_X7_drift_8 ⟨fun _ => ⟨fun y => absurd rfl y, fun _ => ⟨ix_in (n := 33) (by omega) (by omega), ?_⟩⟩, fun y => absurd (ix_le (by omega) (by omega)) y⟩
    have := hQ M hX hv
    rw [← hv] at this
    exact this
  | succ k ih =>
    intro i M hi hX hv
    have hw := dN_wf hF h5 i (by omega)
    have hwM : Wf (vm M) := by rw [hv]; exact hw
    have h8 := hwM.1.1
    have hpass : ∀ M1, eqX [(13, 11), (13, 12), (13, 34)] M M1 → vm M1 = dustF (vm M) → am_WM E (d + 5) 135 [aO 7 13] M1 R (fun r M4 R5 => r = none ∧ am_WP E (am_WM E (d + 5)) am_L_X7_drift Q 8 [aO 7 13, aI (nI n), aI 0, aI (nI i + 1), aU] [] M4 R5) := fun M1 hX1 hv1 => by
      refine m_X7_pass (by rw [hv1, hv]; exact (dust_wf hw).1) (fun M' hX' hv' => ⟨rfl, ?_⟩)
      rw [nI_1]
      exact ih (i + 1) M' (by omega) (eqX_tr hX (eqX_tr hX1 (eqX_sub hX' (by simp)))) (by rw [hv', hv1, hv]; rfl)
    obtain ⟨z, hz, ez, ecl⟩ := seed_nI hwM.2.2.2.2.1
    have ez : M 13 12 0 = nI z := ez
    unfold dustF at hpass
    rw [ecl] at hpass
    obtain ⟨z1, e1⟩ : ∃ z1, nxS z = z1 := ⟨_, rfl⟩
    obtain ⟨z2, e2⟩ : ∃ z2, nxS z1 = z2 := ⟨_, rfl⟩
    have hz1 : z1 < 2147483648 := by rw [← e1]; exact nxS_lt z
    rw [e1, e2] at hpass
    have hr : z1 / 65536 % 4 < 4 := Nat.mod_lt _ (by decide)
    have hX1 : eqX [(13, 11), (13, 12), (13, 34)] M (am_up M 13 12 0 (nI z1)) := eqX_up eqX_rfl (by simp)
    refine w_X7_drift_8 ⟨fun y => absurd y (ix_ge (by omega) (by omega)), fun _ => ⟨fun y => absurd rfl y, fun _ => m_X7_draw (n := 4) hz ez (by omega) (by omega) e1 (kv ⟨fun q => ?_, fun q => ?_⟩)⟩⟩
    · rw [show (0 : Int32) = nI 0 from rfl, ix_eq (by omega) (by omega)] at q
      have := hpass (am_up M 13 12 0 (nI z1)) hX1
      rw [if_pos (Or.inl q)] at this
      exact this vm_up7
    · rw [show (0 : Int32) = nI 0 from rfl, ix_eq (by omega) (by omega)] at q
      have eN : am_up M 13 12 0 (nI z1) 13 2 0 = nI (sN (vm M)) := by rw [up_k (by decide)]; exact hwM.1.2.1
      rw [eN]
      refine ⟨fun y => ?_, fun y => ?_⟩
      · have y' : nI (sN (vm M)) ≤ nI 0 := y
        rw [nI_leI (by omega) (by omega)] at y'
        have := hpass (am_up M 13 12 0 (nI z1)) hX1
        rw [if_pos (Or.inr (by omega))] at this
        exact this vm_up7
      · have y' : ¬ nI (sN (vm M)) ≤ nI 0 := y
        rw [nI_leI (by omega) (by omega)] at y'
        have hpass2 := hpass
        have ez1 : am_up M 13 12 0 (nI z1) 13 12 0 = nI z1 := up_s
        refine m_X7_draw hz1 ez1 (by omega) (by omega) e2 (kv ?_)
        have hp : z2 / 65536 % sN (vm M) < sN (vm M) := Nat.mod_lt _ (by omega)
        generalize hpe : z2 / 65536 % sN (vm M) = p at hp hpass2 ⊢
        obtain ⟨w, hw4, ew⟩ := hwM.1.2.2.2.2.2.2.2.2 p hp
        have e13 : am_up (am_up M 13 12 0 (nI z1)) 13 12 0 (nI z2) 13 11 (16 + p) = nI w := by
          rw [up_k (by decide), up_k (by decide), ← ew]
          exact (tr_lt (f := fun j => M 13 11 (16 + j)) hp).symm
        rw [n_16, ix_cl (n := 16 + p) (by omega), e13, nI_1, n_rem4 (by omega)]
        refine ⟨ix_in (by omega) (by omega), by decide, ix_in (by omega) (by omega), ?_⟩
        have hvs : vm (am_up (am_up M 13 12 0 (nI z1)) 13 12 0 (nI z2)) = sus (vm M) 7 (nI z2) := by rw [vm_up7, vm_up7, sus_sus]
        have hNs : sN (vm (am_up (am_up M 13 12 0 (nI z1)) 13 12 0 (nI z2))) = sN (vm M) := by rw [hvs]; unfold sN; rw [sus_off (by decide)]
        have := hpass2 (am_up (am_up (am_up M 13 12 0 (nI z1)) 13 12 0 (nI z2)) 13 11 (16 + p) (nI ((w + 1) % 4))) (eqX_up (eqX_up hX1 (by simp)) (by simp))
        rw [if_neg (by rintro (a | a); exact a q; omega), ew, ix_cl (n := w) (by omega)] at this
        refine this ?_
        rw [vm_up13 (by rw [hNs]; exact h8) (by rw [hNs]; exact hp), hvs]
theorem r_drift {M : am_M} (hR : MRel M s) (hS : SOk s) (hQ : KM M R (dfS s.1 x1, s.2) (dfA s.1 x1) Q) : am_WM E (d + 6) 139 [aO 7 13, aI x1] M R Q := by
  obtain ⟨h, hh, e⟩ := hS.2.1
  have him := df_im (σ := s.1) (x := x1)
  unfold dfS at him
  unfold dfS dfA at hQ
  refine w_X7_drift (m_X7_hoursRefused (kv ?_))
  rw [hR.1]
  by_cases z : rfH s.1 x1 = 0
  · rw [if_pos z, if_pos z] at hQ
    rw [if_pos z] at him
    obtain ⟨⟨n, h1, h2, ex⟩, h5⟩ := rfH_0 z
    rw [z]
    subst ex
    rw [ix_cl (by omega)] at hQ him
    exact drift7_loop hS.1 e (by omega) h2 (fun M' hX hv => hQ M' (eqo hX (fun o k h => (nw_t o k h).1)) (MRel_6 hX nw_t hR hv him)) n 0 M (by omega) eqX_rfl hR.1
  · rw [if_neg z, if_neg z] at hQ
    have hq := hQ M (fun _ _ => rfl) hR
    exact w_X7_drift_8 ⟨fun _ => ⟨fun _ => hq, fun y => absurd y z⟩, fun _ => ⟨fun _ => ⟨fun _ => hq, fun y => absurd y z⟩, fun y => absurd y z⟩⟩
end Hours
