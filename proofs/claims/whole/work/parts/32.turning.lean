/-! the class: pictures to be turned -/
def soB (τ : Sc) (p t : Nat) (set : Int32) (n : Nat) : Bool := kn τ t n p && (List.range (sN τ)).all (fun q => !bt set q || !kn τ t n q)
theorem soB_iff {τ : Sc} {p t n : Nat} {set : Int32} : soB τ p t set n = true ↔ soP τ p t set n := by
  unfold soB soP
  rw [Bool.and_eq_true, List.all_eq_true]
  constructor
  · rintro ⟨h1, h2⟩
    refine ⟨h1, fun q hq hb => ?_⟩
    have := h2 q (List.mem_range.mpr hq)
    rw [hb] at this
    simpa using this
  · rintro ⟨h1, h2⟩
    refine ⟨h1, fun q hq => ?_⟩
    cases hb : bt set q with
    | false => rfl
    | true => rw [h2 q (List.mem_range.mp hq) hb]; rfl
def tw (σ : Sc) (p w : Nat) : Sc := sup σ 13 p (nI w)
/-- turning by this number is a turn, and it is so then -/
def okc (τ : Sc) (p t : Nat) (set : Int32) (n code : Nat) : Bool := decide (¬ τ 13 (code / 4) = nI (code % 4)) && soB (tw τ (code / 4) (code % 4)) p t set n
theorem tw_off {σ : Sc} {p w f : Nat} (h : f ≠ 13) : tw σ p w f = σ f := sup_off h
theorem tw_sN {σ : Sc} {p w : Nat} : sN (tw σ p w) = sN σ := by unfold sN; rw [tw_off (by decide)]
theorem tw_wf {σ : Sc} {p w : Nat} (hF : Wf σ) (hw : w < 4) : Wf (tw σ p w) := by
  obtain ⟨a1, a2, a3, a4, a5, a6⟩ := hF
  have eN : sN (tw σ p w) = sN σ := tw_sN
  have eD : sD (tw σ p w) = sD σ := by unfold sD; rw [tw_off (by decide)]
  have eC : sC (tw σ p w) = sC σ := by unfold sC; rw [tw_off (by decide)]
  refine ⟨Wg_way a1 hw, ?_, ?_, ?_, ?_, ?_⟩
  · intro q hq
    rw [eN] at hq
    rw [tw_off (f := 10) (by decide), tw_off (f := 11) (by decide), tw_off (f := 12) (by decide), tw_off (f := 14) (by decide)]
    exact a2 q hq
  · rw [eN, tw_off (by decide)]; exact a3
  · rw [tw_off (by decide)]; exact a4
  · rw [tw_off (by decide)]; exact a5
  · intro i hi
    rw [eC] at hi
    rw [eD, tw_off (f := 17) (by decide), tw_off (f := 18) (by decide), tw_off (f := 19) (by decide)]
    exact a6 i hi
theorem tw_lk {σ : Sc} {p w q : Nat} (h : q ≠ p) : lk (tw σ p w) q = lk σ q := by
  unfold lk
  rw [show tw σ p w 13 q = σ 13 q from sup_ne h, lookF_congr (σ := tw σ p w) (τ := σ) (fun f _ _ _ a => tw_off a)]
theorem tw_lks {σ : Sc} {p w : Nat} (hw : w < 4) : lk (tw σ p w) p = lookF σ p w := by
  unfold lk
  rw [show tw σ p w 13 p = nI w from sup_at, ix_cl (by omega), lookF_congr (σ := tw σ p w) (τ := σ) (fun f _ _ _ a => tw_off a)]
section Turning
variable {E : Nat → Nat → Int32} {d : Nat} {Q : am_Q} {R : am_R} {g c : Nat}
theorem vc_l9 {M0 M : am_M} (hgc : g ≠ c) (hX : eqX [(c, 9)] M0 M) : vc M g c = vc M0 g c := vc_same (fun k => hX g k (by simp [hgc])) (fun k hk => hX c k (by simp; omega))
/-- the looks that were reckoned ahead -/
def LbOk (M : am_M) (σ : Sc) : Prop := ∀ p w, p < sN σ → w < 4 → M 11 1 (p * 4 + w) = lookF σ p w
theorem code_dm {p w : Nat} (hw : w < 4) : (4 * p + w) / 4 = p ∧ (4 * p + w) % 4 = w := by omega
theorem one_loop {M0 : am_M} {τ : Sc} {p0 t n h pl0 : Nat} {set : Int32} (hgc : g ≠ c) (hc11 : c ≠ 11) (hwish : WsOk M0 p0 t set n) (hT : Wf τ) (hF : Wf (vc M0 g c)) (hτ : ∀ f, f ≠ 13 → τ f = vc M0 g c f) (hLb : LbOk M0 τ) (h5 : τ 5 0 = nI h) (hh : h ≤ 99000) (ht : t < 8) (hp0 : p0 < sN τ) (hn : n ≤ 1000) (hpl : pl0 < 2) : ∀ (m p w : Nat) (M : am_M), p < sN τ → w ≤ 4 → m = 5 * (sN τ - p) - w → eqX [(c, 9)] M0 M → (∀ q, q < sN τ → q ≠ p → M c 9 q = lk τ q) → (∀ q, p ≤ q → q < sN τ → vc M0 g c 13 q = τ 13 q) →
      (∀ code M', sF (okc τ p0 t set n) (4 * p + w) (4 * sN τ - (4 * p + w)) = some code → eqX [(c, 9), (11, 0)] M0 M' → M' 11 0 = upd (M0 11 0) pl0 (nI (10 * (code / 4) + code % 4)) → Q (some (aI 1)) M' R) → (sF (okc τ p0 t set n) (4 * p + w) (4 * sN τ - (4 * p + w)) = none → ∀ M', eqX [(c, 9)] M0 M' → LkV M' g c τ → Q (some (aI 0)) M' R) →
      am_WP E (am_WM E (d + 3)) am_L_X5_canTurnOne Q 24 [aO 5 11, aO 2 g, aO 4 c, aU, aI (nI pl0), aI (nI p), aI (lk τ p), aI (nI w)] [] M R := by
  have h8 := hT.1.1
  have eN : sN (vc M0 g c) = sN τ := by unfold sN; rw [hτ 2 (by decide)]
  have hN : M0 c 0 0 = nI (sN τ) := by rw [← eN]; exact hF.1.2.1
  intro m
  induction m with
  | zero =>
    intro p w M hp hw hm
    omega
  | succ m ih =>
    intro p w M hp hw hm hX hlk h13 hsome hnone
    have hvM : vc M g c = vc M0 g c := vc_l9 hgc hX
    by_cases hw4 : w = 4
    · subst hw4
      refine w_X5_canTurnOne_24 ⟨fun _ => ⟨ix_in (by omega) (by omega), ?_⟩, fun q => absurd (by decide) q⟩
      rw [ix_cl (by omega), nI_1]
      have hX' : eqX [(c, 9)] M0 (am_up M c 9 p (lk τ p)) := eqX_up hX (by simp)
      have hlk' : ∀ q, q < sN τ → am_up M c 9 p (lk τ p) c 9 q = lk τ q := fun q hq => by
        by_cases e : q = p
        · subst e; exact up_s
        · rw [up_i e]; exact hlk q hq e
      refine w_X5_canTurnOne_3 ?_
      rw [hX' c 0 (by simp), hN]
      by_cases hlast : p + 1 = sN τ
      · refine ⟨fun _ => ret0 (hnone ?_ _ hX' ⟨fun f hf => ?_, fun q hq => hlk' q ?_⟩), fun q => absurd (ix_le (by omega) (by omega)) q⟩
        · rw [show 4 * sN τ - (4 * p + 4) = 0 from by omega]; rfl
        · rw [hτ f hf, vc_l9 hgc hX']
        · rw [vc_l9 hgc hX', eN] at hq; exact hq
      · refine ⟨fun q => absurd q (ix_ge (by omega) (by omega)), fun _ => ⟨ix_in (by omega) (by omega), ?_⟩⟩
        rw [ix_cl (by omega), hlk' (p + 1) (by omega)]
        refine ih (p + 1) 0 _ (by omega) (by omega) (by omega) hX' (fun q hq _ => hlk' q hq) (fun q h1 h2 => h13 q (by omega) h2) ?_ ?_
        · rw [show 4 * (p + 1) + 0 = 4 * p + 4 from by omega]; exact hsome
        · rw [show 4 * (p + 1) + 0 = 4 * p + 4 from by omega]; exact hnone
    · have hw' : w < 4 := by omega
      refine w_X5_canTurnOne_24 ⟨fun q => absurd q (ix_ge (n := 4) (by omega) (by omega)), fun _ => ?_⟩
      have ei : nI p * 4 + nI w = nI (p * 4 + w) := by rw [show nI p * 4 = nI (p * 4) from pk_mul p 4, nI_add]
      rw [ei, ix_cl (n := p * 4 + w) (by omega), ix_cl (n := p) (by omega), nI_1]
      have hlb : M 11 1 (p * 4 + w) = lookF τ p w := by rw [hX 11 1 (by simp)]; exact hLb p w hp hw'
      rw [hlb]
      have hX' : eqX [(c, 9)] M0 (am_up M c 9 p (lookF τ p w)) := eqX_up hX (by simp)
      have hlk' : ∀ q, q < sN τ → q ≠ p → am_up M c 9 p (lookF τ p w) c 9 q = lk τ q := fun q hq e => by rw [up_i e]; exact hlk q hq e
      have hway : am_up M c 9 p (lookF τ p w) c 7 p = τ 13 p := by
        rw [hX' c 7 (by simp), ← h13 p (Nat.le_refl _) hp]
        exact (tr_lt (show p < sN (vc M0 g c) by rw [eN]; exact hp)).symm
      rw [hway]
      obtain ⟨cd1, cd2⟩ := code_dm (p := p) hw'
      have hk : 4 * sN τ - (4 * p + w) = (4 * sN τ - (4 * p + (w + 1))) + 1 := by omega
      have hgo : okc τ p0 t set n (4 * p + w) = false → ∀ M1, eqX [(c, 9)] M0 M1 → (∀ q, q < sN τ → q ≠ p → M1 c 9 q = lk τ q) → am_WP E (am_WM E (d + 3)) am_L_X5_canTurnOne Q 24 [aO 5 11, aO 2 g, aO 4 c, aU, aI (nI pl0), aI (nI p), aI (lk τ p), aI (nI (w + 1))] [] M1 R := by
        intro hf M1 hX1 hlk1
        refine ih p (w + 1) M1 hp (by omega) (by omega) hX1 hlk1 h13 (fun code M' hc => hsome code M' ?_) (fun hc => hnone ?_)
        · rw [hk]; unfold sF; rw [hf]; exact hc
        · rw [hk]; unfold sF; rw [hf]; exact hc
      refine ⟨ix_in (by omega) (by omega), ix_in (by omega) (by omega), ix_in (by omega) (by omega), fun q => hgo ?_ _ hX' hlk', fun q => ?_⟩
      · unfold okc
        rw [cd1, cd2, decide_eq_false (fun z => z q.symm), Bool.false_and]
      · have hwish' : WsOk (am_up M c 9 p (lookF τ p w)) p0 t set n := by
          unfold WsOk at hwish ⊢
          rw [hX' 11 2 (by simp), hX' 11 3 (by simp), hX' 11 4 (by simp), hX' 11 5 (by simp)]
          exact hwish
        have hv' : vc (am_up M c 9 p (lookF τ p w)) g c = vc M0 g c := vc_l9 hgc hX'
        have hLV : LkV (am_up M c 9 p (lookF τ p w)) g c (tw τ p w) := by
          refine ⟨fun f hf => by rw [tw_off hf, hτ f hf, hv'], fun q' hq' => ?_⟩
          rw [hv', eN] at hq'
          by_cases e : q' = p
          · subst e
            rw [up_s, tw_lks hw']
          · rw [hlk' q' hq' e, tw_lk e]
        refine m_X5_isFulfilled hwish' (tw_wf hT hw') (by rw [hv']; exact hF) hLV (by rw [tw_off (by decide)]; exact h5) hh ht (by rw [tw_sN]; exact hp0) hn (fun b => k1e ⟨ix_in (by omega) (by omega), ?_⟩) (fun b => k0e (hgo ?_ _ hX' hlk'))
        · have hok : okc τ p0 t set n (4 * p + w) = true := by
            unfold okc
            rw [cd1, cd2, Bool.and_eq_true]
            exact ⟨decide_eq_true (fun z => q z.symm), soB_iff.mpr b⟩
          refine ret1 (hsome (4 * p + w) _ ?_ (eqX_up (eqX_sub hX' (by simp)) (by simp)) ?_)
          · rw [hk]; unfold sF; rw [hok]; rfl
          · rw [ix_cl (by omega), cd1, cd2, am_up_row, hX' 11 0 (by simp), show (10 : Int32) * nI p + nI w = nI (10 * p + w) from by rw [show (10 : Int32) * nI p = nI (10 * p) from pk_mul 10 p, nI_add]]
        · unfold okc
          rw [cd1, cd2]
          rw [Bool.and_eq_false_iff]
          exact Or.inr (Bool.eq_false_iff.mpr (fun z => b (soB_iff.mp z)))
theorem m_X5_canTurnOne {M : am_M} {τ : Sc} {p0 t n h pl0 p : Nat} {set : Int32} (hgc : g ≠ c) (hc11 : c ≠ 11) (hwish : WsOk M p0 t set n) (hT : Wf τ) (hF : Wf (vc M g c)) (hL : LkV M g c τ) (hLb : LbOk M τ) (h5 : τ 5 0 = nI h) (hh : h ≤ 99000) (ht : t < 8) (hp0 : p0 < sN τ) (hn : n ≤ 1000) (hpl : pl0 < 2) (hp : p ≤ sN τ) (h13 : ∀ q, p ≤ q → q < sN τ → vc M g c 13 q = τ 13 q)
    (hsome : ∀ code M', sF (okc τ p0 t set n) (4 * p) (4 * sN τ - 4 * p) = some code → eqX [(c, 9), (11, 0)] M M' → M' 11 0 = upd (M 11 0) pl0 (nI (10 * (code / 4) + code % 4)) → Q (some (aI 1)) M' R) (hnone : sF (okc τ p0 t set n) (4 * p) (4 * sN τ - 4 * p) = none → ∀ M', eqX [(c, 9)] M M' → LkV M' g c τ → Q (some (aI 0)) M' R) :
    am_WM E (d + 4) 60 [aO 5 11, aO 2 g, aO 4 c, aI (nI p), aI (nI pl0)] M R Q := by
  have h8 := hT.1.1
  have eN : sN (vc M g c) = sN τ := by unfold sN; rw [hL.1 2 (by decide)]
  have hN : M c 0 0 = nI (sN τ) := by rw [← eN]; exact hF.1.2.1
  refine w_X5_canTurnOne (w_X5_canTurnOne_3 ?_)
  rw [hN]
  by_cases hlast : p = sN τ
  · subst hlast
    refine ⟨fun _ => ret0 (hnone ?_ _ (eqX_rfl) hL), fun q => absurd (ix_le (by omega) (by omega)) q⟩
    rw [show 4 * sN τ - 4 * sN τ = 0 from by omega]; rfl
  · refine ⟨fun q => absurd q (ix_ge (by omega) (by omega)), fun _ => ⟨ix_in (by omega) (by omega), ?_⟩⟩
    rw [ix_cl (by omega), hL.2 p (by omega)]
    exact one_loop hgc hc11 hwish hT hF hL.1 hLb h5 hh ht hp0 hn hpl _ p 0 M (by omega) (by omega) rfl (eqX_rfl) (fun q hq _ => hL.2 q (by omega)) h13 hsome hnone
/-- turning by this number first, another can be turned then -/
def okt (σ : Sc) (p t : Nat) (set : Int32) (n code : Nat) : Bool := decide (¬ σ 13 (code / 4) = nI (code % 4)) && (sF (okc (tw σ (code / 4) (code % 4)) p t set n) (4 * (code / 4 + 1)) (4 * sN σ - 4 * (code / 4 + 1))).isSome
def wy (code : Nat) : Int32 := nI (10 * (code / 4) + code % 4)
theorem two_loop {M0 : am_M} {p0 t n h : Nat} {set : Int32} (hgc : g ≠ c) (hc11 : c ≠ 11) (hwish : WsOk M0 p0 t set n) (hF : Wf (vc M0 g c)) (hLb : LbOk M0 (vc M0 g c)) (h5 : vc M0 g c 5 0 = nI h) (hh : h ≤ 99000) (ht : t < 8) (hp0 : p0 < sN (vc M0 g c)) (hn : n ≤ 1000) : ∀ (m p w : Nat) (M : am_M), p < sN (vc M0 g c) → w ≤ 4 → m = 5 * (sN (vc M0 g c) - p) - w → eqX [(c, 9)] M0 M → (∀ q, q < sN (vc M0 g c) → q ≠ p → M c 9 q = lk (vc M0 g c) q) →
      (∀ c1 c2 M', sF (okt (vc M0 g c) p0 t set n) (4 * p + w) (4 * sN (vc M0 g c) - (4 * p + w)) = some c1 → sF (okc (tw (vc M0 g c) (c1 / 4) (c1 % 4)) p0 t set n) (4 * (c1 / 4 + 1)) (4 * sN (vc M0 g c) - 4 * (c1 / 4 + 1)) = some c2 → eqX [(c, 9), (11, 0)] M0 M' → M' 11 0 = upd (upd (M0 11 0) 1 (wy c2)) 0 (wy c1) → Q (some (aI 1)) M' R) → (sF (okt (vc M0 g c) p0 t set n) (4 * p + w) (4 * sN (vc M0 g c) - (4 * p + w)) = none → ∀ M', eqX [(c, 9)] M0 M' → Q (some (aI 0)) M' R) →
      am_WP E (am_WM E (d + 4)) am_L_X5_canTurnTwo Q 21 [aO 5 11, aO 2 g, aO 4 c, aI (nI p), aI (lk (vc M0 g c) p), aI (nI w)] [] M R := by
  have h8 := hF.1.1
  have hN : M0 c 0 0 = nI (sN (vc M0 g c)) := hF.1.2.1
  intro m
  induction m with
  | zero =>
    intro p w M hp hw hm
    omega
  | succ m ih =>
    intro p w M hp hw hm hX hlk hsome hnone
    by_cases hw4 : w = 4
    · subst hw4
      refine w_X5_canTurnTwo_21 ⟨fun _ => ⟨ix_in (by omega) (by omega), ?_⟩, fun q => absurd (by decide) q⟩
      rw [ix_cl (by omega), nI_1]
      have hX' : eqX [(c, 9)] M0 (am_up M c 9 p (lk (vc M0 g c) p)) := eqX_up hX (by simp)
      have hlk' : ∀ q, q < sN (vc M0 g c) → am_up M c 9 p (lk (vc M0 g c) p) c 9 q = lk (vc M0 g c) q := fun q hq => by
        by_cases e : q = p
        · subst e; exact up_s
        · rw [up_i e]; exact hlk q hq e
      refine w_X5_canTurnTwo_2 ?_
      rw [hX' c 0 (by simp), hN]
      by_cases hlast : p + 1 = sN (vc M0 g c)
      · refine ⟨fun _ => ret0 (hnone ?_ _ hX'), fun q => absurd (ix_le (by omega) (by omega)) q⟩
        rw [show 4 * sN (vc M0 g c) - (4 * p + 4) = 0 from by omega]; rfl
      · refine ⟨fun q => absurd q (ix_ge (by omega) (by omega)), fun _ => ⟨ix_in (by omega) (by omega), ?_⟩⟩
        rw [ix_cl (by omega), hlk' (p + 1) (by omega)]
        refine ih (p + 1) 0 _ (by omega) (by omega) (by omega) hX' (fun q hq _ => hlk' q hq) ?_ ?_
        · rw [show 4 * (p + 1) + 0 = 4 * p + 4 from by omega]; exact hsome
        · rw [show 4 * (p + 1) + 0 = 4 * p + 4 from by omega]; exact hnone
    · have hw' : w < 4 := by omega
      refine w_X5_canTurnTwo_21 ⟨fun q => absurd q (ix_ge (n := 4) (by omega) (by omega)), fun _ => ?_⟩
      have ei : nI p * 4 + nI w = nI (p * 4 + w) := by rw [show nI p * 4 = nI (p * 4) from pk_mul p 4, nI_add]
      rw [ei, ix_cl (n := p * 4 + w) (by omega), ix_cl (n := p) (by omega), nI_1, nI_1]
      have hlb : M 11 1 (p * 4 + w) = lookF (vc M0 g c) p w := by rw [hX 11 1 (by simp)]; exact hLb p w hp hw'
      rw [hlb]
      have hX' : eqX [(c, 9)] M0 (am_up M c 9 p (lookF (vc M0 g c) p w)) := eqX_up hX (by simp)
      have hv' : vc (am_up M c 9 p (lookF (vc M0 g c) p w)) g c = vc M0 g c := vc_l9 hgc hX'
      have hlk' : ∀ q, q < sN (vc M0 g c) → q ≠ p → am_up M c 9 p (lookF (vc M0 g c) p w) c 9 q = lk (vc M0 g c) q := fun q hq e => by rw [up_i e]; exact hlk q hq e
      have hway : am_up M c 9 p (lookF (vc M0 g c) p w) c 7 p = vc M0 g c 13 p := by
        rw [hX' c 7 (by simp)]
        exact (tr_lt hp).symm
      rw [hway]
      obtain ⟨cd1, cd2⟩ := code_dm (p := p) hw'
      have hk : 4 * sN (vc M0 g c) - (4 * p + w) = (4 * sN (vc M0 g c) - (4 * p + (w + 1))) + 1 := by omega
      have hgo : okt (vc M0 g c) p0 t set n (4 * p + w) = false → ∀ M1, eqX [(c, 9)] M0 M1 → (∀ q, q < sN (vc M0 g c) → q ≠ p → M1 c 9 q = lk (vc M0 g c) q) → am_WP E (am_WM E (d + 4)) am_L_X5_canTurnTwo Q 21 [aO 5 11, aO 2 g, aO 4 c, aI (nI p), aI (lk (vc M0 g c) p), aI (nI (w + 1))] [] M1 R := by
        intro hf M1 hX1 hlk1
        refine ih p (w + 1) M1 hp (by omega) (by omega) hX1 hlk1 (fun c1 c2 M' hc => hsome c1 c2 M' ?_) (fun hc => hnone ?_)
        · rw [hk]; unfold sF; rw [hf]; exact hc
        · rw [hk]; unfold sF; rw [hf]; exact hc
      refine ⟨ix_in (by omega) (by omega), ix_in (by omega) (by omega), ix_in (by omega) (by omega), fun q => hgo ?_ _ hX' hlk', fun q => ?_⟩
      · unfold okt
        rw [cd1, cd2, decide_eq_false (fun z => z q.symm), Bool.false_and]
      · have hwish' : WsOk (am_up M c 9 p (lookF (vc M0 g c) p w)) p0 t set n := by
          unfold WsOk at hwish ⊢
          rw [hX' 11 2 (by simp), hX' 11 3 (by simp), hX' 11 4 (by simp), hX' 11 5 (by simp)]
          exact hwish
        have hLV : LkV (am_up M c 9 p (lookF (vc M0 g c) p w)) g c (tw (vc M0 g c) p w) := by
          refine ⟨fun f hf => by rw [tw_off hf, hv'], fun q' hq' => ?_⟩
          rw [hv'] at hq'
          by_cases e : q' = p
          · subst e
            rw [up_s, tw_lks hw']
          · rw [hlk' q' hq' e, tw_lk e]
        have hLb' : LbOk (am_up M c 9 p (lookF (vc M0 g c) p w)) (tw (vc M0 g c) p w) := fun p' w' h1 h2 => by
          rw [hX' 11 1 (by simp), lookF_congr (σ := tw (vc M0 g c) p w) (τ := vc M0 g c) (fun f _ _ _ a => tw_off a)]
          rw [tw_sN] at h1
          exact hLb p' w' h1 h2
        refine m_X5_canTurnOne (pl0 := 1) (p := p + 1) hgc hc11 hwish' (tw_wf hF hw') (by rw [hv']; exact hF) hLV hLb' (by rw [tw_off (by decide)]; exact h5) hh ht (by rw [tw_sN]; exact hp0) hn (by decide) (by rw [tw_sN]; omega) (fun q' h1 _ => by rw [hv']; exact (sup_ne (by omega)).symm) (fun c2 M' hs hX2 he => k1e ⟨ix_in (n := 0) (by omega) (by omega), ?_⟩) (fun hs M' hX2 hL2 => k0e (hgo ?_ _ (eqX_tr hX' hX2) (fun q' hq' e => ?_)))
        · rw [tw_sN] at hs
          have hok : okt (vc M0 g c) p0 t set n (4 * p + w) = true := by
            unfold okt
            rw [cd1, cd2, Bool.and_eq_true, hs]
            exact ⟨decide_eq_true (fun z => q z.symm), rfl⟩
          refine ret1 (hsome (4 * p + w) c2 _ ?_ (by rw [cd1, cd2]; exact hs) (eqX_up (eqX_tr (eqX_sub hX' (by simp)) hX2) (by simp)) ?_)
          · rw [hk]; unfold sF; rw [hok]; rfl
          · unfold wy
            rw [cd1, cd2, am_up_row, he, hX' 11 0 (by simp), show (10 : Int32) * nI p + nI w = nI (10 * p + w) from by rw [show (10 : Int32) * nI p = nI (10 * p) from pk_mul 10 p, nI_add]]
            rfl
        · unfold okt
          rw [tw_sN] at hs
          rw [cd1, cd2, hs]
          exact Bool.and_false _
        · rw [hL2.2 q' ?_, tw_lk e]
          rw [vc_l9 hgc (eqX_tr hX' hX2)]; exact hq'
theorem m_X5_canTurnTwo {M : am_M} {p0 t n h : Nat} {set : Int32} (hgc : g ≠ c) (hc11 : c ≠ 11) (hwish : WsOk M p0 t set n) (hF : Wf (vc M g c)) (hL : LkOk M g c) (hLb : LbOk M (vc M g c)) (h5 : vc M g c 5 0 = nI h) (hh : h ≤ 99000) (ht : t < 8) (hp0 : p0 < sN (vc M g c)) (hn : n ≤ 1000)
    (hsome : ∀ c1 c2 M', sF (okt (vc M g c) p0 t set n) 0 (4 * sN (vc M g c)) = some c1 → sF (okc (tw (vc M g c) (c1 / 4) (c1 % 4)) p0 t set n) (4 * (c1 / 4 + 1)) (4 * sN (vc M g c) - 4 * (c1 / 4 + 1)) = some c2 → eqX [(c, 9), (11, 0)] M M' → M' 11 0 = upd (upd (M 11 0) 1 (wy c2)) 0 (wy c1) → Q (some (aI 1)) M' R) (hnone : sF (okt (vc M g c) p0 t set n) 0 (4 * sN (vc M g c)) = none → ∀ M', eqX [(c, 9)] M M' → Q (some (aI 0)) M' R) :
    am_WM E (d + 5) 61 [aO 5 11, aO 2 g, aO 4 c] M R Q := by
  have h8 := hF.1.1
  have hN : M c 0 0 = nI (sN (vc M g c)) := hF.1.2.1
  refine w_X5_canTurnTwo (w_X5_canTurnTwo_2 ?_)
  rw [hN]
  refine ⟨fun q => absurd q (ix_ge (n := sN (vc M g c)) (q := 0) (by omega) (by omega)), fun _ => ⟨ix_in (n := 0) (by omega) (by omega), ?_⟩⟩
  rw [show Int32.toNatClampNeg 0 = 0 from rfl, hL 0 (by omega)]
  exact two_loop hgc hc11 hwish hF hLb h5 hh ht hp0 hn _ 0 0 M (by omega) (by omega) rfl eqX_rfl (fun q hq _ => hL q hq) hsome hnone
theorem few_loop {M0 : am_M} (hE : stepE E) (hc11 : c ≠ 11) (hg11 : g ≠ 11) (hF : Wf (vc M0 g c)) : ∀ (m p w : Nat) (M : am_M), p < sN (vc M0 g c) → w ≤ 4 → m = 5 * (sN (vc M0 g c) - p) - w → eqX [(11, 1)] M0 M → (∀ p' w', p' < sN (vc M0 g c) → w' < 4 → 4 * p' + w' < 4 * p + w → M 11 1 (p' * 4 + w') = lookF (vc M0 g c) p' w') →
      (∀ M', eqX [(11, 1)] M0 M' → LbOk M' (vc M0 g c) → am_WP E (am_WM E (d + 5)) am_L_X5_fewest Q 2 [aO 5 11, aO 2 g, aO 4 c, aI (nI (sN (vc M0 g c))), aU] [] M' R) →
      am_WP E (am_WM E (d + 5)) am_L_X5_fewest Q 13 [aO 5 11, aO 2 g, aO 4 c, aI (nI p), aI (nI w)] [] M R := by
  have h8 := hF.1.1
  have hN : M0 c 0 0 = nI (sN (vc M0 g c)) := hF.1.2.1
  intro m
  induction m with
  | zero =>
    intro p w M hp hw hm
    omega
  | succ m ih =>
    intro p w M hp hw hm hX hlb hdone
    have hv : vc M g c = vc M0 g c := vc_same (fun k => hX g k (by simp [hg11])) (fun k hk => hX c k (by simp [hc11]))
    by_cases hw4 : w = 4
    · subst hw4
      refine w_X5_fewest_13 ⟨fun _ => ?_, fun q => absurd (by decide) q⟩
      rw [nI_1]
      by_cases hlast : p + 1 = sN (vc M0 g c)
      · rw [hlast]
        exact hdone M hX (fun p' w' h1 h2 => hlb p' w' h1 h2 (by omega))
      · refine w_X5_fewest_2 ?_
        rw [hX c 0 (by simp [hc11]), hN]
        refine ⟨fun q => absurd q (ix_ge (by omega) (by omega)), fun _ => ?_⟩
        exact ih (p + 1) 0 _ (by omega) (by omega) (by omega) hX (fun p' w' h1 h2 h3 => hlb p' w' h1 h2 (by omega)) hdone
    · have hw' : w < 4 := by omega
      refine w_X5_fewest_13 ⟨fun q => absurd q (ix_ge (n := 4) (by omega) (by omega)), fun _ => ?_⟩
      have ei : nI p * 4 + nI w = nI (p * 4 + w) := by rw [show nI p * 4 = nI (p * 4) from pk_mul p 4, nI_add]
      rw [ei, ix_cl (n := p * 4 + w) (by omega), nI_1]
      have hF2 : Wg (vc M g c) := by rw [hv]; exact hF.1
      refine m_X4_lookOf hE hF2.2.1 hF2.1 hF2.2.2.2.1 hF2.2.2.1 (by rw [hv]; exact hp) hw' (kv ⟨ix_in (by omega) (by omega), ?_⟩)
      refine ih p (w + 1) _ hp (by omega) (by omega) (eqX_up hX (by simp)) (fun p' w' h1 h2 h3 => ?_) hdone
      by_cases e : p' = p ∧ w' = w
      · obtain ⟨e1, e2⟩ := e
        subst e1; subst e2
        rw [up_s, hv]
      · rw [up_i (by omega)]
        exact hlb p' w' h1 h2 (by omega)
theorem m_X5_fewest {M : am_M} {p0 t n h : Nat} {set : Int32} (hE : stepE E) (hgc : g ≠ c) (hc11 : c ≠ 11) (hg11 : g ≠ 11) (hwish : WsOk M p0 t set n) (hF : Wf (vc M g c)) (hL : LkOk M g c) (h5 : vc M g c 5 0 = nI h) (hh : h ≤ 99000) (ht : t < 8) (hp0 : p0 < sN (vc M g c)) (hn : n ≤ 1000)
    (h0 : soP (vc M g c) p0 t set n → ∀ M', eqX [(c, 9), (11, 0), (11, 1)] M M' → Q (some (aI 0)) M' R)
    (h1 : ¬ soP (vc M g c) p0 t set n → ∀ code M', sF (okc (vc M g c) p0 t set n) 0 (4 * sN (vc M g c)) = some code → eqX [(c, 9), (11, 0), (11, 1)] M M' → M' 11 0 0 = wy code → Q (some (aI 1)) M' R)
    (h2 : ¬ soP (vc M g c) p0 t set n → sF (okc (vc M g c) p0 t set n) 0 (4 * sN (vc M g c)) = none → ∀ c1 c2 M', sF (okt (vc M g c) p0 t set n) 0 (4 * sN (vc M g c)) = some c1 → sF (okc (tw (vc M g c) (c1 / 4) (c1 % 4)) p0 t set n) (4 * (c1 / 4 + 1)) (4 * sN (vc M g c) - 4 * (c1 / 4 + 1)) = some c2 → eqX [(c, 9), (11, 0), (11, 1)] M M' → M' 11 0 0 = wy c1 → M' 11 0 1 = wy c2 → Q (some (aI 2)) M' R)
    (h3 : ¬ soP (vc M g c) p0 t set n → sF (okc (vc M g c) p0 t set n) 0 (4 * sN (vc M g c)) = none → sF (okt (vc M g c) p0 t set n) 0 (4 * sN (vc M g c)) = none → ∀ M', eqX [(c, 9), (11, 0), (11, 1)] M M' → Q (some (aI (-1))) M' R) :
    am_WM E (d + 6) 59 [aO 5 11, aO 2 g, aO 4 c] M R Q := by
  have h8 := hF.1.1
  have hN : M c 0 0 = nI (sN (vc M g c)) := hF.1.2.1
  refine w_X5_fewest (w_X5_fewest_2 ?_)
  rw [hN]
  refine ⟨fun q => absurd q (ix_ge (n := sN (vc M g c)) (q := 0) (by omega) (by omega)), fun _ => ?_⟩
  refine few_loop hE hc11 hg11 hF _ 0 0 M (by omega) (by omega) rfl eqX_rfl (fun p' w' _ _ h => absurd h (by omega)) (fun M1 hX1 hLb => ?_)
  have hv1 : vc M1 g c = vc M g c := vc_same (fun k => hX1 g k (by simp [hg11])) (fun k hk => hX1 c k (by simp [hc11]))
  have hw1 : WsOk M1 p0 t set n := by
    unfold WsOk at hwish ⊢
    rw [hX1 11 2 (by simp), hX1 11 3 (by simp), hX1 11 4 (by simp), hX1 11 5 (by simp)]
    exact hwish
  have hL1 : LkOk M1 g c := fun p hp => by
    rw [hv1] at hp ⊢
    rw [hX1 c 9 (by simp [hc11])]
    exact hL p hp
  have hF1 : Wf (vc M1 g c) := by rw [hv1]; exact hF
  refine w_X5_fewest_2 ?_
  rw [hX1 c 0 (by simp [hc11]), hN]
  refine ⟨fun _ => ?_, fun q => absurd (ix_le (by omega) (by omega)) q⟩
  have s1 : ∀ {M' : am_M}, eqX [(c, 9), (11, 0)] M1 M' → eqX [(c, 9), (11, 0), (11, 1)] M M' := fun hx => eqX_tr (eqX_sub hX1 (by simp)) (eqX_sub hx (by simp))
  refine m_X5_isFulfilled (d := d + 2) hw1 (by rw [hv1]; exact hF) hF1 (LkV_self hL1) (by rw [hv1]; exact h5) hh ht (by rw [hv1]; exact hp0) hn (fun b => k1e (h0 (by rw [hv1] at b; exact b) M1 (s1 eqX_rfl))) (fun b => k0e ?_)
  rw [hv1] at b
  refine m_X5_canTurnOne (d := d + 1) (p := 0) (pl0 := 0) hgc hc11 hw1 hF1 hF1 (LkV_self hL1) (by rw [hv1]; exact hLb) (by rw [hv1]; exact h5) hh ht (by rw [hv1]; exact hp0) hn (by decide) (by omega) (fun _ _ _ => rfl) (fun code M2 hs hX2 he => k1e (h1 b code M2 ?_ (s1 hX2) ?_)) (fun hs M2 hX2 hL2 => k0e ?_)
  · rw [hv1] at hs; exact hs
  · rw [he]; exact if_pos rfl
  rw [hv1] at hs
  have hv2 : vc M2 g c = vc M g c := by rw [vc_l9 hgc hX2, hv1]
  have hw2 : WsOk M2 p0 t set n := by
    unfold WsOk at hw1 ⊢
    rw [hX2 11 2 (by simp), hX2 11 3 (by simp), hX2 11 4 (by simp), hX2 11 5 (by simp)]
    exact hw1
  refine m_X5_canTurnTwo (d := d) hgc hc11 hw2 (by rw [hv2]; exact hF) ?_ ?_ (by rw [hv2]; exact h5) hh ht (by rw [hv2]; exact hp0) hn (fun c1 c2 M3 hs1 hs2 hX3 he => k1e ?_) (fun hs1 M3 hX3 => k0e ?_)
  · intro p hp
    rw [hL2.2 p hp, hv1, hv2]
  · rw [hv2]
    intro p w hp hw
    rw [hX2 11 1 (by simp)]
    exact hLb p w hp hw
  · rw [hv2] at hs1 hs2
    exact h2 b hs c1 c2 M3 hs1 hs2 (s1 (eqX_tr (eqX_sub hX2 (by simp)) hX3)) (by rw [he]; exact if_pos rfl) (by rw [he]; exact (if_neg (by decide)).trans (if_pos rfl))
  · rw [hv2] at hs1
    exact h3 b hs hs1 M3 (s1 (eqX_tr (eqX_sub hX2 (by simp)) (eqX_sub hX3 (by simp))))
end Turning
