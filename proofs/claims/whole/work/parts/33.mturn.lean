/-! the reference: pictures to be turned -/
theorem vm_up13 {M : am_M} {i : Nat} {v : Int32} (h8 : sN (vm M) ≤ 8) (hi : i < sN (vm M)) : vm (am_up M 13 11 (16 + i) v) = sup (vm M) 13 i v := by
  have hn : ∀ j, j < (M 13 2 0).toNatClampNeg → j < 8 := fun j hj => Nat.lt_of_lt_of_le hj h8
  have hi8 : i < 8 := hn i hi
  funext f j
  match f with
  | 0 => rfl
  | 1 => rfl
  | 2 => rfl
  | 3 => rfl
  | 4 => rfl
  | 5 => show (if _ then _ else _) = (if _ then _ else _); rw [if_neg (by omega), if_neg (by omega)]; rfl
  | 6 => show (if _ then _ else _) = (if _ then _ else _); rw [if_neg (by omega), if_neg (by omega)]; rfl
  | 7 => rfl
  | 8 => rfl
  | 9 => rfl
  | 10 => rfl
  | 11 =>
    show tr _ (fun j => am_up M 13 11 (16 + i) v 13 11 j) j = tr _ (fun j => M 13 11 j) j
    exact congrFun (tr_eq (fun q hq => up_i (by have := hn q hq; omega))) j
  | 12 =>
    show tr _ (fun j => am_up M 13 11 (16 + i) v 13 11 (8 + j)) j = tr _ (fun j => M 13 11 (8 + j)) j
    exact congrFun (tr_eq (fun q hq => up_i (by have := hn q hq; omega))) j
  | 13 =>
    show tr _ (fun j => am_up M 13 11 (16 + i) v 13 11 (16 + j)) j = if 13 = 13 ∧ j = i then v else tr (M 13 2 0).toNatClampNeg (fun j => M 13 11 (16 + j)) j
    by_cases hj : j = i
    · subst hj
      rw [if_pos ⟨rfl, rfl⟩, tr_lt (by exact hi)]
      exact up_s
    · rw [if_neg (fun q => hj q.2)]
      unfold tr
      dsimp only
      rw [up_i (o' := 13) (k' := 11) (i' := 16 + j) (by omega)]
      rfl
  | 14 =>
    show tr _ (fun j => am_up M 13 11 (16 + i) v 13 11 (24 + j)) j = tr _ (fun j => M 13 11 (24 + j)) j
    exact congrFun (tr_eq (fun q hq => up_i (by have := hn q hq; omega))) j
  | 15 => rfl
  | 16 => rfl
  | 17 => rfl
  | 18 => rfl
  | 19 => rfl
  | f + 20 => rfl
theorem n_div4 {n : Nat} (h : n ≤ 1100) : nI n / 4 = nI (n / 4) := pk_div (d := 4) (by omega) (by omega) (by omega)
theorem n_rem4 {n : Nat} (h : n ≤ 1100) : nI n - nI n / 4 * 4 = nI (n % 4) := pk_rem (d := 4) (by omega) (by omega) (by omega)
theorem n_16 {n : Nat} : (16 : Int32) + nI n = nI (16 + n) := by rw [show (16 : Int32) = nI 16 from rfl, nI_add]
section Mturn
variable {E : Nat → Nat → Int32} {d : Nat} {Q : am_Q} {R : am_R}
theorem m_X7_canTurn {M : am_M} {code : Nat} (hc : code < 32) (h1 : ¬ M 13 35 (16 + code / 4) = nI (code % 4) → Q (some (aI 1)) M R) (h0 : M 13 35 (16 + code / 4) = nI (code % 4) → Q (some (aI 0)) M R) : am_WM E (d + 1) 148 [aO 7 13, aI (nI code)] M R Q := by
  refine w_X7_canTurn ?_
  rw [n_rem4 (by omega), n_div4 (by omega), n_16, ix_cl (by omega)]
  exact ⟨by decide, ix_in (by omega) (by omega), by decide, fun q => ret0 (h0 q), fun q => ret1 (h1 q)⟩
def ftS : List (Nat × Nat) := [(13, 11), (13, 34), (13, 35), (13, 36), (13, 37)]
/-- between two trials -/
def ftI (M0 M : am_M) : Prop := eqX ftS M0 M ∧ (∀ j, j < 34 → M 13 11 j = M0 13 11 j) ∧ (∀ j, j < 34 → M 13 35 j = M0 13 11 j)
theorem ftI_vm {M0 M : am_M} (h8 : sN (vm M0) ≤ 8) (h : ftI M0 M) : vm M = vm M0 := vm_now h.2.1 (fun k h1 h2 => h.1 13 k (by simp [ftS]; omega)) h8
theorem ftI_36 {M0 M : am_M} {v : Int32} (h : ftI M0 M) : ftI M0 (am_up M 13 36 0 v) := ⟨eqX_up h.1 (by simp [ftS]), fun j hj => by rw [up_k (by decide)]; exact h.2.1 j hj, fun j hj => by rw [up_k (by decide)]; exact h.2.2 j hj⟩
theorem ftI_37 {M0 M : am_M} {v : Int32} (h : ftI M0 M) : ftI M0 (am_up M 13 37 0 v) := ⟨eqX_up h.1 (by simp [ftS]), fun j hj => by rw [up_k (by decide)]; exact h.2.1 j hj, fun j hj => by rw [up_k (by decide)]; exact h.2.2 j hj⟩
/-- behind a trial all is as it was -/
theorem ftI_back {M0 M M1 M2 M3 : am_M} (h : ftI M0 M) (h1 : eqX [(13, 11)] M M1) (h2 : eqX [(13, 11), (13, 34)] M1 M2) (h3 : eqX [(13, 11)] M2 M3) (h4 : ∀ j, j < 34 → M3 13 11 j = M2 13 35 j) : ftI M0 M3 ∧ M3 13 36 = M 13 36 ∧ M3 13 37 = M 13 37 := by
  have e35 : M2 13 35 = M 13 35 := by rw [h2 13 35 (by simp), h1 13 35 (by simp)]
  have e35' : M3 13 35 = M 13 35 := by rw [h3 13 35 (by simp), e35]
  refine ⟨⟨eqX_tr h.1 (eqX_tr (eqX_sub h1 (by simp [ftS])) (eqX_tr (eqX_sub h2 (by simp [ftS])) (eqX_sub h3 (by simp [ftS])))), fun j hj => ?_, fun j hj => ?_⟩, ?_, ?_⟩
  · rw [h4 j hj, e35]; exact h.2.2 j hj
  · rw [e35']; exact h.2.2 j hj
  · rw [h3 13 36 (by simp), h2 13 36 (by simp), h1 13 36 (by simp)]
  · rw [h3 13 37 (by simp), h2 13 37 (by simp), h1 13 37 (by simp)]
theorem ft1_loop {M0 : am_M} {p t n : Nat} {set : Int32} (hF : Wf (vm M0)) (hp : p < sN (vm M0)) (hn : n ≤ 60) : ∀ (k i : Nat) (M : am_M), i + k = 4 * sN (vm M0) → ftI M0 M → M 13 36 0 = -1 → M 13 37 0 = -1 →
    (∀ code M', sF (okc (vm M0) p t set n) i k = some code → ftI M0 M' → M' 13 36 0 = nI code → M' 13 37 0 = -1 → Q (some (aI 1)) M' R) →
    (sF (okc (vm M0) p t set n) i k = none → ∀ M', ftI M0 M' → M' 13 36 0 = -1 → M' 13 37 0 = -1 → am_WP E (am_WM E (d + 6)) am_L_X7_findTurns Q 130 [aO 7 13, aI (nI p), aI (nI t), aI set, aI (nI n), aU, aI 0, aU, aU] [] M' R) →
    am_WP E (am_WM E (d + 6)) am_L_X7_findTurns Q 39 [aO 7 13, aI (nI p), aI (nI t), aI set, aI (nI n), aU, aI (nI i), aU, aU] [] M R := by
  have h8 := hF.1.1
  have hN : ∀ {M : am_M}, ftI M0 M → 4 * M 13 2 0 = nI (4 * sN (vm M0)) := fun {M} h => by
    rw [h.1 13 2 (by simp [ftS]), show M0 13 2 0 = nI (sN (vm M0)) from hF.1.2.1]
    exact pk_mul 4 _
  have hfound : ∀ (i code : Nat) (M' : am_M), code < 32 → M' 13 36 0 = nI code → Q (some (aI 1)) M' R → am_WP E (am_WM E (d + 6)) am_L_X7_findTurns Q 39 [aO 7 13, aI (nI p), aI (nI t), aI set, aI (nI n), aU, aI (nI i), aU, aU] [] M' R := by
    intro i code M' hc h36 hQ
    refine w_X7_findTurns_39 ?_
    rw [h36]
    exact ⟨fun _ => ⟨fun q => absurd q (ix_lt (by omega)), fun _ => hQ⟩, fun _ => ⟨fun _ => ⟨fun q => absurd q (ix_lt (by omega)), fun _ => hQ⟩, fun q => absurd (ix_le (n := 0) (q := code) (by omega) (by omega)) q⟩⟩
  intro k
  induction k with
  | zero =>
    intro i M hi hI h36 h37 hsome hnone
    refine w_X7_findTurns_39 ?_
    rw [hN hI, h36]
    exact ⟨fun _ => ⟨fun _ => hnone rfl M hI h36 h37, fun q => absurd (by decide) q⟩, fun q => absurd (ix_le (by omega) (by omega)) q⟩
  | succ k ih =>
    intro i M hi hI h36 h37 hsome hnone
    have hwas : M 13 35 (16 + i / 4) = vm M0 13 (i / 4) := (hI.2.2 _ (by omega)).trans (tr_lt (f := fun j => M0 13 11 (16 + j)) (show i / 4 < sN (vm M0) by omega)).symm
    have hgo : okc (vm M0) p t set n i = false → ∀ M', ftI M0 M' → M' 13 36 0 = -1 → M' 13 37 0 = -1 → am_WP E (am_WM E (d + 6)) am_L_X7_findTurns Q 39 [aO 7 13, aI (nI p), aI (nI t), aI set, aI (nI n), aU, aI (nI (i + 1)), aU, aU] [] M' R := by
      intro hf M' hI' h1 h2
      refine ih (i + 1) M' (by omega) hI' h1 h2 (fun code M2 hc => hsome code M2 ?_) (fun hc => hnone ?_)
      · unfold sF; rw [hf]; exact hc
      · unfold sF; rw [hf]; exact hc
    refine w_X7_findTurns_39 ?_
    rw [hN hI, h36, n_rem4 (by omega), n_div4 (by omega), n_16, ix_cl (n := 16 + i / 4) (by omega), nI_1]
    refine ⟨fun q => absurd q (ix_ge (by omega) (by omega)), fun _ => ⟨fun q => absurd q (by decide), fun _ => m_X7_canTurn (by omega) (fun a => k1e ⟨by decide, by decide, ix_in (by omega) (by omega), ?_⟩) (fun a => k0e (hgo ?_ M hI h36 h37))⟩⟩
    · rw [hwas] at a
      have hv : vm (am_up M 13 11 (16 + i / 4) (nI (i % 4))) = tw (vm M0) (i / 4) (i % 4) := by
        rw [vm_up13 (by rw [ftI_vm h8 hI]; exact h8) (by rw [ftI_vm h8 hI]; omega), ftI_vm h8 hI]
        rfl
      have hX1 : eqX [(13, 11)] M (am_up M 13 11 (16 + i / 4) (nI (i % 4))) := eqX_up eqX_rfl (by simp)
      refine m_X7_isSo (d := d) (by rw [hv]; exact tw_wf hF (by omega)) (by rw [hv, tw_sN]; exact hp) hn (fun M2 hX2 hs => kv (m_X7_putBack (fun M3 hX3 h4 => ⟨rfl, fun q => absurd q (by decide), fun _ => ?_⟩))) (fun M2 hX2 hs => kv (m_X7_putBack (fun M3 hX3 h4 => ⟨rfl, fun _ => ?_, fun q => absurd rfl q⟩)))
      · obtain ⟨hI3, e36, e37⟩ := ftI_back hI hX1 hX2 hX3 h4
        rw [hv] at hs
        refine hfound (i + 1) i _ (by omega) up_s (hsome i _ ?_ (ftI_36 hI3) up_s (by rw [up_k (by decide), e37]; exact h37))
        have hok : okc (vm M0) p t set n i = true := by
          unfold okc
          rw [Bool.and_eq_true]
          exact ⟨decide_eq_true a, soB_iff.mpr hs⟩
        unfold sF; rw [hok]; rfl
      · obtain ⟨hI3, e36, e37⟩ := ftI_back hI hX1 hX2 hX3 h4
        rw [hv] at hs
        refine hgo ?_ _ (ftI_36 hI3) up_s (by rw [up_k (by decide), e37]; exact h37)
        unfold okc
        rw [Bool.and_eq_false_iff]
        exact Or.inr (Bool.eq_false_iff.mpr (fun z => hs (soB_iff.mp z)))
    · rw [hwas] at a
      unfold okc
      rw [decide_eq_false (fun z => z a), Bool.false_and]
/-- two turns by one number -/
def okf (σ : Sc) (p t : Nat) (set : Int32) (n K i : Nat) : Bool := (decide (i / K / 4 < i % K / 4) && decide (¬ σ 13 (i / K / 4) = nI (i / K % 4))) && okc (tw σ (i / K / 4) (i / K % 4)) p t set n (i % K)
theorem ft2_loop {M0 : am_M} {p t n K : Nat} {set : Int32} (hF : Wf (vm M0)) (hp : p < sN (vm M0)) (hn : n ≤ 60) (hK : K = 4 * sN (vm M0)) : ∀ (k i : Nat) (M : am_M), i + k = K * K → ftI M0 M → M 13 36 0 = -1 → M 13 37 0 = -1 →
    (∀ code M', sF (okf (vm M0) p t set n K) i k = some code → ftI M0 M' → M' 13 36 0 = nI (code / K) → M' 13 37 0 = nI (code % K) → Q (some (aI 2)) M' R) →
    (sF (okf (vm M0) p t set n K) i k = none → ∀ M', ftI M0 M' → M' 13 36 0 = -1 → M' 13 37 0 = -1 → Q (some (aI (-1))) M' R) →
    am_WP E (am_WM E (d + 6)) am_L_X7_findTurns Q 130 [aO 7 13, aI (nI p), aI (nI t), aI set, aI (nI n), aU, aI (nI i), aU, aU] [] M R := by
  have h8 := hF.1.1
  have hK32 : K ≤ 32 := by omega
  have hK0 : 0 < K := by omega
  have hKK : K * K ≤ 32 * 32 := Nat.mul_le_mul hK32 hK32
  have h2 : ∀ {M : am_M}, ftI M0 M → M 13 2 0 = nI (sN (vm M0)) := fun {M} h => by
    rw [h.1 13 2 (by simp [ftS])]; exact hF.1.2.1
  have hN4 : (4 : Int32) * nI (sN (vm M0)) = nI K := by rw [hK]; exact pk_mul 4 _
  have hN16 : (16 : Int32) * nI (sN (vm M0)) * nI (sN (vm M0)) = nI (K * K) := by
    rw [show (16 : Int32) * nI (sN (vm M0)) = nI (16 * sN (vm M0)) from pk_mul 16 _, pk_mul, hK]
    exact congrArg nI (by rw [Nat.mul_mul_mul_comm, Nat.mul_assoc])
  have hfound : ∀ (i code : Nat) (M' : am_M), code < 32 → M' 13 36 0 = nI code → Q (some (aI 2)) M' R → am_WP E (am_WM E (d + 6)) am_L_X7_findTurns Q 130 [aO 7 13, aI (nI p), aI (nI t), aI set, aI (nI n), aU, aI (nI i), aU, aU] [] M' R := by
    intro i code M' hc h36 hQ
    refine w_X7_findTurns_130 ?_
    rw [h36]
    have e : (0 : Int32) ≤ nI code := ix_le (n := 0) (q := code) (by omega) (by omega)
    exact ⟨fun _ => ⟨fun _ => hQ, fun q => absurd e q⟩, fun _ => ⟨fun _ => ⟨fun _ => hQ, fun q => absurd e q⟩, fun q => absurd e q⟩⟩
  intro k
  induction k with
  | zero =>
    intro i M hi hI h36 h37 hsome hnone
    refine w_X7_findTurns_130 ?_
    rw [h2 hI, hN16, h36]
    exact ⟨fun _ => ⟨fun q => absurd q (by decide), fun _ => hnone rfl M hI h36 h37⟩, fun q => absurd (nI_le (by omega) (by omega)) q⟩
  | succ k ih =>
    intro i M hi hI h36 h37 hsome hnone
    have hgo : okf (vm M0) p t set n K i = false → ∀ M', ftI M0 M' → M' 13 36 0 = -1 → M' 13 37 0 = -1 → am_WP E (am_WM E (d + 6)) am_L_X7_findTurns Q 130 [aO 7 13, aI (nI p), aI (nI t), aI set, aI (nI n), aU, aI (nI (i + 1)), aU, aU] [] M' R := by
      intro hf M' hI' h1 h2
      refine ih (i + 1) M' (by omega) hI' h1 h2 (fun code M2 hc => hsome code M2 ?_) (fun hc => hnone ?_)
      · unfold sF; rw [hf]; exact hc
      · unfold sF; rw [hf]; exact hc
    have hhit : okf (vm M0) p t set n K i = true → sF (okf (vm M0) p t set n K) i (k + 1) = some i := fun hok => by unfold sF; rw [hok]; rfl
    have hsome' := hsome i
    have ha : i / K < K := Nat.div_lt_of_lt_mul (by omega)
    have hb : i % K < K := Nat.mod_lt _ hK0
    refine w_X7_findTurns_130 ?_
    rw [h2 hI, hN16, hN4, h36, pk_rem (a := i) (d := K) (by omega) hK0 (by omega), pk_div (a := i) (d := K) (by omega) hK0 (by omega), nI_1]
    unfold okf at hgo hhit
    generalize i / K = a at ha hgo hhit hsome' ⊢
    generalize i % K = b at hb hgo hhit hsome' ⊢
    have hwas : ∀ c, c < K → M 13 35 (16 + c / 4) = vm M0 13 (c / 4) := fun c hc => (hI.2.2 _ (by omega)).trans (tr_lt (f := fun j => M0 13 11 (16 + j)) (show c / 4 < sN (vm M0) by omega)).symm
    rw [n_rem4 (n := a) (by omega), n_rem4 (n := b) (by omega), n_div4 (n := a) (by omega), n_div4 (n := b) (by omega), n_16 (n := a / 4), n_16 (n := b / 4), ix_cl (n := 16 + a / 4) (by omega), ix_cl (n := 16 + b / 4) (by omega)]
    have hKn : ¬ nI K = 0 := fun z => by
      have := (ix_eq (a := K) (b := 0) (by omega) (by omega)).mp z
      omega
    refine ⟨fun q => absurd q (nI_ge (by omega) (by omega)), fun _ => ⟨fun q => absurd q (by decide), fun _ => ⟨hKn, hKn, by decide, by decide, fun q => hgo ?_ M hI h36 h37, fun q => ?_⟩⟩⟩
    · have hle : ¬ a / 4 < b / 4 := fun z => absurd q (ix_ge z (by omega))
      rw [decide_eq_false hle, Bool.false_and, Bool.false_and]
    · have hlt : a / 4 < b / 4 := by
        by_cases z : a / 4 < b / 4
        · exact z
        · exact absurd (ix_le (by omega) (by omega)) q
      refine m_X7_canTurn (by omega) (fun c1 => k1e (m_X7_canTurn (by omega) (fun c2 => k1e ⟨by decide, by decide, ix_in (by omega) (by omega), by decide, by decide, ix_in (by omega) (by omega), ?_⟩) (fun c2 => k0e (hgo ?_ M hI h36 h37)))) (fun c1 => k0e (hgo ?_ M hI h36 h37))
      · rw [hwas a ha] at c1
        rw [hwas b hb] at c2
        have hv1 : vm (am_up M 13 11 (16 + a / 4) (nI (a % 4))) = tw (vm M0) (a / 4) (a % 4) := by
          rw [vm_up13 (by rw [ftI_vm h8 hI]; exact h8) (by rw [ftI_vm h8 hI]; omega), ftI_vm h8 hI]
          rfl
        have hv : vm (am_up (am_up M 13 11 (16 + a / 4) (nI (a % 4))) 13 11 (16 + b / 4) (nI (b % 4))) = tw (tw (vm M0) (a / 4) (a % 4)) (b / 4) (b % 4) := by
          rw [vm_up13 (by rw [hv1, tw_sN]; exact h8) (by rw [hv1, tw_sN]; omega), hv1]
          rfl
        have hX1 : eqX [(13, 11)] M (am_up (am_up M 13 11 (16 + a / 4) (nI (a % 4))) 13 11 (16 + b / 4) (nI (b % 4))) := eqX_up (eqX_up eqX_rfl (by simp)) (by simp)
        have e13 : tw (vm M0) (a / 4) (a % 4) 13 (b / 4) = vm M0 13 (b / 4) := sup_ne (by omega)
        refine m_X7_isSo (d := d) (by rw [hv]; exact tw_wf (tw_wf hF (by omega)) (by omega)) (by rw [hv, tw_sN, tw_sN]; exact hp) hn (fun M2 hX2 hs => kv (m_X7_putBack (fun M3 hX3 h4 => ⟨rfl, fun q => absurd q (by decide), fun _ => ⟨fun q => absurd q (by decide), fun _ => ?_⟩⟩))) (fun M2 hX2 hs => kv (m_X7_putBack (fun M3 hX3 h4 => ⟨rfl, fun _ => ⟨fun _ => ?_, fun q => absurd rfl q⟩, fun q => absurd rfl q⟩)))
        · obtain ⟨hI3, e36, e37⟩ := ftI_back hI hX1 hX2 hX3 h4
          rw [hv] at hs
          have e36' : am_up (am_up M3 13 36 0 (nI a)) 13 37 0 (nI b) 13 36 0 = nI a := by rw [up_k (by decide)]; exact up_s
          refine hfound (i + 1) a _ (by omega) e36' (hsome' _ (hhit ?_) (ftI_37 (ftI_36 hI3)) e36' up_s)
          unfold okc
          rw [Bool.and_eq_true, Bool.and_eq_true, Bool.and_eq_true, e13]
          exact ⟨⟨decide_eq_true hlt, decide_eq_true c1⟩, decide_eq_true c2, soB_iff.mpr hs⟩
        · obtain ⟨hI3, e36, e37⟩ := ftI_back hI hX1 hX2 hX3 h4
          rw [hv] at hs
          refine hgo ?_ _ (ftI_37 (ftI_36 hI3)) (by rw [up_k (by decide)]; exact up_s) up_s
          unfold okc
          rw [Bool.and_eq_false_iff, Bool.and_eq_false_iff (y := soB _ _ _ _ _)]
          exact Or.inr (Or.inr (Bool.eq_false_iff.mpr (fun z => hs (soB_iff.mp z))))
      · rw [hwas b hb] at c2
        have e13 : tw (vm M0) (a / 4) (a % 4) 13 (b / 4) = vm M0 13 (b / 4) := sup_ne (by omega)
        unfold okc
        rw [e13, decide_eq_false (p := ¬ vm M0 13 (b / 4) = nI (b % 4)) (fun z => z c2), Bool.false_and, Bool.and_false]
      · rw [hwas a ha] at c1
        rw [decide_eq_false (p := ¬ vm M0 13 (a / 4) = nI (a % 4)) (fun z => z c1), Bool.and_false, Bool.false_and]
theorem m_X7_findTurns {M : am_M} {p t n K : Nat} {set : Int32} (hF : Wf (vm M)) (hp : p < sN (vm M)) (hn : n ≤ 60) (hK : K = 4 * sN (vm M))
    (h0 : soP (vm M) p t set n → ∀ M', ftI M M' → M' 13 36 0 = -1 → M' 13 37 0 = -1 → Q (some (aI 0)) M' R)
    (h1 : ¬ soP (vm M) p t set n → ∀ code M', sF (okc (vm M) p t set n) 0 K = some code → ftI M M' → M' 13 36 0 = nI code → M' 13 37 0 = -1 → Q (some (aI 1)) M' R)
    (h2 : ¬ soP (vm M) p t set n → sF (okc (vm M) p t set n) 0 K = none → ∀ code M', sF (okf (vm M) p t set n K) 0 (K * K) = some code → ftI M M' → M' 13 36 0 = nI (code / K) → M' 13 37 0 = nI (code % K) → Q (some (aI 2)) M' R)
    (h3 : ¬ soP (vm M) p t set n → sF (okc (vm M) p t set n) 0 K = none → sF (okf (vm M) p t set n K) 0 (K * K) = none → ∀ M', ftI M M' → Q (some (aI (-1))) M' R) :
    am_WM E (d + 7) 149 [aO 7 13, aI (nI p), aI (nI t), aI set, aI (nI n)] M R Q := by
  have h8 := hF.1.1
  refine w_X7_findTurns (m_X7_save (fun M1 hX1 hw => ⟨rfl, ?_⟩))
  have hv : vm M1 = vm M := vm_off hX1 (fun k hk => by simp; omega)
  have hb : ∀ {M2 M3 : am_M}, eqX [(13, 11), (13, 34)] M1 M2 → eqX [(13, 11)] M2 M3 → (∀ j, j < 34 → M3 13 11 j = M2 13 35 j) → ftI M (am_up (am_up M3 13 36 0 (-1)) 13 37 0 (-1)) := fun {M2 M3} hX2 hX3 h4 => by
    refine ftI_37 (ftI_36 ⟨eqX_tr (eqX_sub hX1 (by simp [ftS])) (eqX_tr (eqX_sub hX2 (by simp [ftS])) (eqX_sub hX3 (by simp [ftS]))), fun j hj => ?_, fun j hj => ?_⟩)
    · rw [h4 j hj, hX2 13 35 (by simp)]; exact hw j hj
    · rw [hX3 13 35 (by simp), hX2 13 35 (by simp)]; exact hw j hj
  refine m_X7_isSo (d := d) (by rw [hv]; exact hF) (by rw [hv]; exact hp) hn (fun M2 hX2 hs => kv (m_X7_putBack (fun M3 hX3 h4 => ⟨rfl, fun q => absurd q (by decide), fun _ => h0 (by rw [hv] at hs; exact hs) _ (hb hX2 hX3 h4) (by rw [up_k (by decide)]; exact up_s) up_s⟩))) (fun M2 hX2 hs => kv (m_X7_putBack (fun M3 hX3 h4 => ⟨rfl, fun _ => ?_, fun q => absurd rfl q⟩)))
  rw [hv] at hs
  subst hK
  refine ft1_loop hF hp hn (4 * sN (vm M)) 0 _ (by omega) (hb hX2 hX3 h4) (by rw [up_k (by decide)]; exact up_s) up_s (h1 hs) (fun hs1 M4 hI4 a36 a37 => ?_)
  exact ft2_loop hF hp hn rfl (4 * sN (vm M) * (4 * sN (vm M))) 0 M4 (by omega) hI4 a36 a37 (h2 hs hs1) (fun hs2 M5 hI5 _ _ => h3 hs hs1 hs2 M5 hI5)
theorem sF_mk {P : Nat → Bool} {j : Nat} (h : P j = true) : ∀ {k i : Nat}, i ≤ j → j < i + k → (∀ q, i ≤ q → q < j → P q = false) → sF P i k = some j
  | 0, i, h1, h2, _ => by omega
  | k + 1, i, h1, h2, h3 => by
    unfold sF
    by_cases e : i = j
    · subst e; rw [h]; rfl
    · rw [h3 i (Nat.le_refl _) (by omega)]
      exact sF_mk h (k := k) (i := i + 1) (by omega) (by omega) (fun q a b => h3 q (by omega) b)
theorem sF_mkn {P : Nat → Bool} : ∀ {k i : Nat}, (∀ q, i ≤ q → q < i + k → P q = false) → sF P i k = none
  | 0, _, _ => rfl
  | k + 1, i, h => by
    unfold sF
    rw [h i (Nat.le_refl _) (by omega)]
    exact sF_mkn (k := k) (i := i + 1) (fun q a b => h q (by omega) (by omega))
/-- the flat search is the nested one -/
theorem okf_false {σ : Sc} {p t n K i : Nat} {set : Int32} (hK : K = 4 * sN σ) (hK0 : 0 < K) (h : okt σ p t set n (i / K) = false) : okf σ p t set n K i = false := by
  have hb : i % K < K := Nat.mod_lt _ hK0
  unfold okt at h
  unfold okf
  generalize i / K = a at h ⊢
  generalize i % K = b at hb ⊢
  by_cases c1 : a / 4 < b / 4
  · by_cases c2 : σ 13 (a / 4) = nI (a % 4)
    · rw [decide_eq_false (p := ¬ σ 13 (a / 4) = nI (a % 4)) (fun z => z c2), Bool.and_false, Bool.false_and]
    · rw [decide_eq_true (p := ¬ σ 13 (a / 4) = nI (a % 4)) c2, Bool.true_and] at h
      cases hs : sF (okc (tw σ (a / 4) (a % 4)) p t set n) (4 * (a / 4 + 1)) (4 * sN σ - 4 * (a / 4 + 1)) with
      | some c => rw [hs] at h; cases h
      | none => rw [sF_none hs b (by omega) (by omega), Bool.and_false]
  · rw [decide_eq_false c1, Bool.false_and, Bool.false_and]
theorem flat_none {σ : Sc} {p t n K : Nat} {set : Int32} (hK : K = 4 * sN σ) (h : sF (okt σ p t set n) 0 K = none) : sF (okf σ p t set n K) 0 (K * K) = none := by
  refine sF_mkn (fun q _ hq => ?_)
  rw [Nat.zero_add] at hq
  have hK0 : 0 < K := by
    rcases Nat.eq_zero_or_pos K with e | e
    · subst e; omega
    · exact e
  exact okf_false hK hK0 (sF_none h _ (Nat.zero_le _) (by rw [Nat.zero_add]; exact Nat.div_lt_of_lt_mul hq))
theorem flat_some {σ : Sc} {p t n K c1 c2 : Nat} {set : Int32} (hK : K = 4 * sN σ) (h1 : sF (okt σ p t set n) 0 K = some c1) (h2 : sF (okc (tw σ (c1 / 4) (c1 % 4)) p t set n) (4 * (c1 / 4 + 1)) (4 * sN σ - 4 * (c1 / 4 + 1)) = some c2) : sF (okf σ p t set n K) 0 (K * K) = some (K * c1 + c2) ∧ (K * c1 + c2) / K = c1 ∧ (K * c1 + c2) % K = c2 := by
  obtain ⟨_, a2, a3, a4⟩ := sF_some h1
  obtain ⟨b1, b2, b3, b4⟩ := sF_some h2
  have hK0 : 0 < K := by omega
  have hc2 : c2 < K := by omega
  have e1 : (K * c1 + c2) / K = c1 := by rw [Nat.mul_add_div hK0, Nat.div_eq_of_lt hc2, Nat.add_zero]
  have e2 : (K * c1 + c2) % K = c2 := by rw [Nat.mul_add_mod, Nat.mod_eq_of_lt hc2]
  have hlt : K * c1 + c2 < K * K := by
    have : K * (c1 + 1) ≤ K * K := Nat.mul_le_mul_left K (by omega)
    rw [Nat.mul_add, Nat.mul_one] at this
    omega
  refine ⟨sF_mk ?_ (Nat.zero_le _) (by rw [Nat.zero_add]; exact hlt) (fun q _ hq => ?_), e1, e2⟩
  · unfold okf
    rw [e1, e2, b3, Bool.and_true, Bool.and_eq_true]
    refine ⟨decide_eq_true (by omega), ?_⟩
    unfold okt at a3
    rw [Bool.and_eq_true] at a3
    exact a3.1
  · by_cases e : q / K < c1
    · exact okf_false hK hK0 (a4 _ (Nat.zero_le _) e)
    · have hd := Nat.div_add_mod q K
      have hle : q / K ≤ c1 := by
        have : q / K < c1 + 1 := Nat.div_lt_of_lt_mul (by rw [Nat.mul_add, Nat.mul_one]; omega)
        omega
      have eq1 : q / K = c1 := by omega
      have eq2 : q % K < c2 := by rw [eq1] at hd; omega
      unfold okf
      rw [eq1]
      by_cases g : c1 / 4 < q % K / 4
      · rw [b4 (q % K) (by omega) eq2, Bool.and_false]
      · rw [decide_eq_false g, Bool.false_and, Bool.false_and]
end Mturn
