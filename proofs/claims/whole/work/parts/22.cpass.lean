/-! the class: scenes' rows, an hour -/
theorem nI_or (a b : Nat) : nI a ||| nI b = nI (a ||| b) := by
  apply Int32.toBitVec_inj.1
  show BitVec.ofNat 32 a ||| BitVec.ofNat 32 b = BitVec.ofNat 32 (a ||| b)
  apply BitVec.eq_of_getLsbD_eq
  intro i hi
  simp [hi]
theorem nI_and (a b : Nat) : nI a &&& nI b = nI (a &&& b) := by
  apply Int32.toBitVec_inj.1
  show BitVec.ofNat 32 a &&& BitVec.ofNat 32 b = BitVec.ofNat 32 (a &&& b)
  apply BitVec.eq_of_getLsbD_eq
  intro i hi
  simp [hi]
theorem and255 {k : Nat} (h : k < 256) : nI k &&& 255 = nI k := by
  rw [show nI k &&& 255 = nI (k % 256) from pk_andN (by omega) 8 rfl, Nat.mod_eq_of_lt h]
theorem sh1 : ∀ {t : Nat}, t < 31 → (1 : Int32) <<< (nI t &&& 31) = nI (2 ^ t) := by decide +kernel
theorem cmF_small {σ : Sc} (hc : ∀ i, i < sC σ → ∃ t, t < 8 ∧ σ 19 i = nI t) (q h : Int32) : ∀ k i a, i + k = sC σ → (∃ z, z < 256 ∧ a = nI z) → ∃ z, z < 256 ∧ cmF σ q h i k a = nI z
  | 0, _, _, _, ha => ha
  | k + 1, i, a, hi, ha => by
    unfold cmF
    refine cmF_small hc q h k (i + 1) _ (by omega) ?_
    obtain ⟨z, hz, rfl⟩ := ha
    split
    · obtain ⟨t, ht, e⟩ := hc i (by omega)
      rw [e, sh1 (by omega), nI_or]
      exact ⟨_, Nat.or_lt_two_pow (n := 8) hz (Nat.pow_lt_pow_right (by decide) ht), rfl⟩
    · exact ⟨z, hz, rfl⟩
def scR (k : Nat) : Nat := match k with
  | 1 => 6
  | 2 => 5
  | 3 => 7
  | 4 => 10
  | 5 => 11
  | 6 => 12
  | 7 => 13
  | 8 => 14
  | _ => 99
theorem vc_keep {M M' : am_M} {g c f : Nat} (kx : Nat) (hg : ∀ k, M' g k = M g k) (hc : ∀ k, k ≠ kx → M' c k = M c k) (h0 : 0 ≠ kx) (hf : f ≠ scR kx) : vc M' g c f = vc M g c f := by
  funext j
  unfold vc
  split <;> first
    | rfl
    | exact congrFun (hg _) _
    | exact congrFun (hc 0 h0) 0
    | exact congrFun (hc 1 (fun e => hf (by rw [← e]; rfl))) 0
    | exact congrFun (hc 2 (fun e => hf (by rw [← e]; rfl))) 0
    | exact congrFun (hc 3 (fun e => hf (by rw [← e]; rfl))) 0
    | rw [hc 0 h0, hc 4 (fun e => hf (by rw [← e]; rfl))]
    | rw [hc 0 h0, hc 5 (fun e => hf (by rw [← e]; rfl))]
    | rw [hc 0 h0, hc 6 (fun e => hf (by rw [← e]; rfl))]
    | rw [hc 0 h0, hc 7 (fun e => hf (by rw [← e]; rfl))]
    | rw [hc 0 h0, hc 8 (fun e => hf (by rw [← e]; rfl))]
    | rw [hg 2, hg 5]
    | rw [hg 2, hg 6]
    | rw [hg 3, hg 7]
    | rw [hg 3, hg 8]
    | rw [hg 3, hg 9]
theorem vc_same {M M' : am_M} {g c : Nat} (hg : ∀ k, M' g k = M g k) (hc : ∀ k, k ≤ 8 → M' c k = M c k) : vc M' g c = vc M g c := by
  funext f
  by_cases h : f = 14
  · subst h
    funext j
    show tr _ _ j = tr _ _ j
    rw [hc 0 (by omega), hc 8 (by omega)]
  · funext j
    unfold vc
    rw [hc 0 (by omega), hc 1 (by omega), hc 2 (by omega), hc 3 (by omega), hc 4 (by omega), hc 5 (by omega), hc 6 (by omega), hc 7 (by omega), hc 8 (by omega), hg 0, hg 1, hg 2, hg 3, hg 5, hg 6, hg 7, hg 8, hg 9]
theorem tr_up {n : Nat} {f f' : Nat → Int32} {i : Nat} {v : Int32} (hi : i < n) (h1 : f' i = v) (h2 : ∀ j, j ≠ i → f' j = f j) (j : Nat) : tr n f' j = if j = i then v else tr n f j := by
  unfold tr
  by_cases e : j = i
  · subst e
    rw [if_pos hi, if_pos rfl, h1]
  · rw [if_neg e, h2 j e]
/-- one number of a row of a scene -/
theorem vc_up {M : am_M} {g c k i : Nat} {v : Int32} (hgc : g ≠ c) (hk : k = 4 ∨ k = 5 ∨ k = 6 ∨ k = 7 ∨ k = 8) (hi : i < sN (vc M g c)) : vc (am_up M c k i v) g c = sup (vc M g c) (scR k) i v := by
  have hg : ∀ k', am_up M c k i v g k' = M g k' := fun k' => am_up_off g k' (fun q => hgc q.1)
  have hc : ∀ k', k' ≠ k → am_up M c k i v c k' = M c k' := fun k' hk' => am_up_off c k' (fun q => hk' q.2)
  have h0 : (am_up M c k i v c 0) = M c 0 := hc 0 (by omega)
  funext f
  by_cases hf : f = scR k
  · funext j
    subst hf
    have key : ∀ (f : Nat → Int32), f = am_up M c k i v c k → tr (am_up M c k i v c 0 0).toNatClampNeg f j = if scR k = scR k ∧ j = i then v else tr (M c 0 0).toNatClampNeg (M c k) j := by
      intro f ef
      subst ef
      rw [h0, tr_up (n := (M c 0 0).toNatClampNeg) (f := M c k) (i := i) (v := v) hi up_s (fun j hj => up_i hj)]
      by_cases e : j = i
      · rw [if_pos e, if_pos ⟨rfl, e⟩]
      · rw [if_neg e, if_neg (fun q => e q.2)]
    rcases hk with rfl | rfl | rfl | rfl | rfl <;> exact key _ rfl
  · rw [vc_keep k hg hc (by omega) hf]
    funext j
    unfold sup
    rw [if_neg (fun q => hf q.1)]
theorem vc_ups {M : am_M} {g c k : Nat} {v : Int32} (hgc : g ≠ c) (hk : k = 1 ∨ k = 2 ∨ k = 3) : vc (am_up M c k 0 v) g c = sus (vc M g c) (scR k) v := by
  have hg : ∀ k', am_up M c k 0 v g k' = M g k' := fun k' => am_up_off g k' (fun q => hgc q.1)
  have hc : ∀ k', k' ≠ k → am_up M c k 0 v c k' = M c k' := fun k' hk' => am_up_off c k' (fun q => hk' q.2)
  funext f
  by_cases hf : f = scR k
  · subst hf
    funext j
    unfold sus
    rw [if_pos rfl]
    rcases hk with rfl | rfl | rfl <;> exact up_s
  · rw [vc_keep k hg hc (by omega) hf]
    funext j
    unfold sus
    rw [if_neg hf]
theorem sup_self {σ : Sc} {f i : Nat} {v : Int32} (h : v = σ f i) : sup σ f i v = σ := by
  funext f' j
  unfold sup
  split
  · next q => rw [q.1, q.2, h]
  · rfl
/-- what each looks at is held -/
def LkOk (M : am_M) (g c : Nat) : Prop := ∀ p, p < sN (vc M g c) → M c 9 p = lk (vc M g c) p
def srcF (σ : Sc) (p : Nat) : Int32 := if ¬ lk σ p < 10 then lk σ p else if lk σ p < 0 then -1 else if σ 10 (lk σ p).toNatClampNeg = 4 then -1 else lk σ p
def openF (σ : Sc) (p : Nat) : Int32 := if blindP σ p ∨ bt (σ 6 0) p = true then 0 else if σ 10 p = 2 then 85 else 255
theorem lk_open {σ : Sc} {p : Nat} (h : ¬ lk σ p = -1) : ¬ (blindP σ p ∨ bt (σ 6 0) p = true) := by
  intro q
  unfold lk lookF at h
  rw [if_pos q] at h
  exact h rfl
section CPass
variable {E : Nat → Nat → Int32} {d : Nat} {Q : am_Q} {M : am_M} {R : am_R} {g c : Nat}
theorem m_X4_openTo {p : Nat} (h8 : sN (vc M g c) ≤ 8) (hp : p < sN (vc M g c)) (h : Q (some (aI (openF (vc M g c) p))) M R) : am_WM E (d + 1) 50 [aO 4 c, aI (nI p)] M R Q := by
  refine w_X4_openTo ?_
  have e : vc M g c 10 p = M c 4 p := tr_lt hp
  unfold openF blindP at h
  rw [e] at h
  rw [ix_cl (by omega)]
  refine ⟨ix_in (by omega) (by omega), fun a => ?_, fun a => ⟨fun b => ?_, fun b => ⟨fun a2 => ⟨fun a3 => ?_, fun a3 => ?_⟩, fun a2 => ?_⟩⟩⟩
  · rw [if_pos (Or.inl (Or.inl a))] at h; exact h
  · rw [if_pos (Or.inl (Or.inr b))] at h; exact h
  · have a2 : bt (vc M g c 6 0) p = false := bt_f a2
    rw [if_neg (by rw [a2]; rintro ((q | q) | q); exact a q; exact b q; cases q), if_neg a3] at h; exact h
  · have a2 : bt (vc M g c 6 0) p = false := bt_f a2
    rw [if_neg (by rw [a2]; rintro ((q | q) | q); exact a q; exact b q; cases q), if_pos a3] at h; exact h
  · have a2 : bt (vc M g c 6 0) p = true := bt_t a2
    rw [if_pos (Or.inr a2)] at h; exact h
theorem m_X4_sourceOf {p : Nat} (hn : M c 0 0 = nI (sN (vc M g c))) (h8 : sN (vc M g c) ≤ 8) (h4 : sD (vc M g c) ≤ 4) (hp : p < sN (vc M g c)) (hL : LkOk M g c) (h : Q (some (aI (srcF (vc M g c) p))) M R) : am_WM E (d + 1) 51 [aO 4 c, aI (nI p)] M R Q := by
  refine w_X4_sourceOf ?_
  rw [ix_cl (by omega), hL p hp, hn]
  refine ⟨ix_in (by omega) (by omega), ?_⟩
  unfold srcF at h
  rcases lookF_cases (vc M g c) p (vc M g c 13 p).toNatClampNeg with e | ⟨q, hq, e⟩ | ⟨q, hq, e⟩
  · have e : lk (vc M g c) p = -1 := e
    rw [e] at h ⊢
    exact ⟨fun _ => h, fun a => absurd (by decide) a⟩
  · have e : lk (vc M g c) p = nI q := e
    rw [e] at h ⊢
    have hlt : nI q < 10 := nI_lt (b := 10) (by omega) (by omega)
    have hpos : ¬ nI q < 0 := ix_lt (by omega)
    have e10 : vc M g c 10 q = M c 4 q := tr_lt hq
    rw [if_neg (by simpa using hlt), if_neg hpos, ix_cl (by omega), e10] at h
    rw [ix_cl (by omega)]
    refine ⟨fun a => absurd a hpos, fun _ => ⟨fun a => absurd a (ix_ge hq (by omega)), fun _ => ⟨ix_in (by omega) (by omega), fun a => ?_, fun a => ?_⟩⟩⟩
    · rw [if_neg a] at h; exact h
    · rw [if_pos a] at h; exact h
  · have e : lk (vc M g c) p = nI (10 + q) := e
    rw [e] at h ⊢
    have hge : ¬ nI (10 + q) < 10 := nI_nlt (b := 10) (by omega) (by omega)
    rw [if_pos hge] at h
    exact ⟨fun a => absurd a (ix_lt (by omega)), fun _ => ⟨fun _ => h, fun a => absurd (ix_le (by omega) (by omega)) a⟩⟩
theorem thingsBy_loop {q h' : Int32} (hC : M g 3 0 = nI (sC (vc M g c))) (h8 : sC (vc M g c) ≤ 8) : ∀ (k i : Nat) (a : Int32), i + k = sC (vc M g c) → Q (some (aI (cmF (vc M g c) q h' i k a))) M R → am_WP E (am_WM E d) am_L_X2_thingsBy Q 5 [aO 2 g, aI q, aI h', aI a, aI (nI i)] [] M R := by
  intro k
  induction k with
  | zero =>
    intro i a hi h
    refine w_X2_thingsBy_5 ?_
    rw [hC]
    exact ⟨fun _ => h, fun q => absurd (ix_le (by omega) (by omega)) q⟩
  | succ k ih =>
    intro i a hi h
    refine w_X2_thingsBy_5 ?_
    rw [hC, ix_cl (by omega), nI_1]
    have e1 : vc M g c 18 i = M g 8 i := tr_lt (show i < sC (vc M g c) by omega)
    have e2 : vc M g c 17 i = M g 7 i := tr_lt (show i < sC (vc M g c) by omega)
    have e3 : vc M g c 19 i = M g 9 i := tr_lt (show i < sC (vc M g c) by omega)
    unfold cmF at h
    rw [e1, e2, e3] at h
    refine ⟨fun q => absurd q (ix_ge (by omega) (by omega)), fun _ => ⟨ix_in (by omega) (by omega), fun q => ih (i + 1) _ (by omega) ?_, fun q => ⟨ix_in (by omega) (by omega), fun q2 => ih (i + 1) _ (by omega) ?_, fun q2 => ⟨ix_in (by omega) (by omega), ih (i + 1) _ (by omega) ?_⟩⟩⟩⟩
    · rw [if_neg (fun z => q z.1)] at h; exact h
    · rw [if_neg (fun z => q2 z.2)] at h; exact h
    · rw [if_pos ⟨q, q2⟩] at h; exact h
theorem m_X2_thingsBy {q : Int32} (hF : Wg (vc M g c)) (h : Q (some (aI (comesF (vc M g c) q))) M R) : am_WM E (d + 1) 18 [aO 2 g, aI q, aI (vc M g c 5 0)] M R Q := by
  refine w_X2_thingsBy ?_
  exact thingsBy_loop (c := c) hF.2.2.2.2.2.1 hF.2.2.2.2.1 (sC (vc M g c)) 0 0 (by omega) h
theorem pass1_loop {M0 : am_M} (hgc : g ≠ c) (hF : Wf (vc M0 g c)) (hL : LkOk M0 g c) : ∀ (k i : Nat) (M : am_M), i + k = sN (vc M0 g c) → eqX [(c, 8), (c, 10)] M0 M → vc M g c = midG (vc M0 g c) (comesF (vc M0 g c)) i → (∀ j, j < sN (vc M0 g c) → M c 10 j = vc M0 g c 14 j) → (∀ M', eqX [(c, 8), (c, 10), (c, 2)] M0 M' → vc M' g c = passF (vc M0 g c) → Q none M' R) → am_WP E (am_WM E (d + 1)) am_L_X4_passOneHour Q 17 [aO 4 c, aO 2 g, aI (nI i), aU] [] M R := by
  obtain ⟨hG, hrow, -, -, -, hcom⟩ := hF
  have h8 := hG.1
  have hn := hG.2.1
  have h4 := hG.2.2.1
  intro k
  induction k with
  | zero =>
    intro i M hi hX hv ha h
    have e2 : M c 0 0 = nI (sN (vc M0 g c)) := by rw [← hn, hX c 0 (by simp)]; rfl
    refine w_X4_passOneHour_17 ?_
    rw [e2]
    refine ⟨fun _ => h _ (eqX_up (eqX_sub hX (by simp)) (by simp)) ?_, fun q => absurd (ix_le (by omega) (by omega)) q⟩
    show vc (am_up M c 2 0 (vc M g c 5 0 + 1)) g c = _
    rw [vc_ups hgc (by omega), hv]
    have : i = sN (vc M0 g c) := by omega
    subst this
    unfold passF passG
    rw [midG_off (f := 5) (by decide)]
    rfl
  | succ k ih =>
    intro i M hi hX hv ha h
    have hsN : sN (vc M g c) = sN (vc M0 g c) := by rw [hv]; unfold sN; rw [midG_off (by decide)]
    have hsD : sD (vc M g c) = sD (vc M0 g c) := by rw [hv]; unfold sD; rw [midG_off (by decide)]
    have hcon : ∀ f, f ≠ 14 → vc M0 g c f = vc M g c f := fun f hf => by rw [hv, midG_off hf]
    have hFM : Wg (vc M g c) := Wg_congr (fun f a _ _ => hcon f a) hG
    have hlk : ∀ p, lk (vc M g c) p = lk (vc M0 g c) p := fun p => (lk_congr (fun f a _ _ => hcon f a) p).symm
    have hLM : LkOk M g c := fun p hp => by rw [hlk, hX c 9 (by simp)]; exact hL p (by omega)
    have e2 : M c 0 0 = nI (sN (vc M0 g c)) := by rw [← hn, hX c 0 (by simp)]; rfl
    have e2' : M c 0 0 = nI (sN (vc M g c)) := by rw [hsN]; exact e2
    have hmid : vc M g c 14 i = vc M0 g c 14 i := by rw [hv]; unfold midG; rw [if_neg (fun q => absurd q.2 (by omega))]
    have e14 : M c 8 i = vc M0 g c 14 i := by rw [← hmid]; exact (tr_lt (show i < sN (vc M g c) by omega)).symm
    have hsrc : srcF (vc M g c) i = srcF (vc M0 g c) i := by unfold srcF; rw [hlk, ← hcon 10 (by decide)]
    have hopen : openF (vc M g c) i = openF (vc M0 g c) i := by unfold openF blindP; rw [← hcon 10 (by decide), ← hcon 6 (by decide)]
    have hskip : learnG (vc M0 g c) (comesF (vc M0 g c)) i = 0 → am_WP E (am_WM E (d + 1)) am_L_X4_passOneHour Q 17 [aO 4 c, aO 2 g, aI (nI (i + 1)), aU] [] M R := by
      intro h0
      refine ih (i + 1) M (by omega) hX ?_ ha h
      rw [← midG_succ, hv, sup_self]
      unfold newK takeF
      rw [h0]
      have : (if vc M0 g c 10 i = 2 then (0 : Int32) &&& 85 else 0) = 0 := by split <;> rfl
      rw [this, Int32.or_zero]
      unfold midG
      rw [if_neg (fun q => absurd q.2 (by omega))]
    have hset : ∀ x, (∃ z, z < 256 ∧ x = nI z) → ¬ lk (vc M0 g c) i = -1 → learnG (vc M0 g c) (comesF (vc M0 g c)) i = x → am_WP E (am_WM E (d + 1)) am_L_X4_passOneHour Q 17 [aO 4 c, aO 2 g, aI (nI (i + 1)), aU] [] (am_up M c 8 i (M c 8 i ||| (x &&& openF (vc M0 g c) i))) R := by
      intro x hx hne hle
      refine ih (i + 1) _ (by omega) (eqX_up hX (by simp)) ?_ (fun j hj => by rw [am_up_off c 10 (by simp)]; exact ha j hj) h
      rw [vc_up hgc (by omega) (by omega), e14, ← midG_succ, hv]
      show sup _ 14 i _ = sup _ 14 i _
      congr 1
      unfold newK takeF
      rw [hle]
      congr 1
      unfold openF
      rw [if_neg (lk_open hne)]
      split
      · rfl
      · obtain ⟨z, hz, rfl⟩ := hx
        exact and255 hz
    refine w_X4_passOneHour_17 ?_
    rw [e2, nI_1, ix_cl (n := i) (by omega)]
    refine ⟨fun q => absurd q (ix_ge (by omega) (by omega)), fun _ => m_X4_sourceOf (g := g) e2' (by omega) (by omega) (by omega) hLM (kv ?_)⟩
    rw [hsrc]
    unfold srcF
    unfold learnG at hskip hset
    rcases lookF_cases (vc M0 g c) i (vc M0 g c 13 i).toNatClampNeg with e | ⟨q, hq, e⟩ | ⟨q, hq, e⟩
    · have e : lk (vc M0 g c) i = -1 := e
      rw [e] at hskip ⊢
      rw [if_neg (by decide), if_pos (by decide)]
      refine ⟨fun _ => m_X4_has (g := g) e2' (by omega) (fun q' hq' eq => absurd eq.symm (ix_neg1 (by omega))) (fun _ => k0e (hskip ?_)), fun a => absurd (by decide) a⟩
      rw [if_neg (by decide), if_pos (by decide)]
    · have e : lk (vc M0 g c) i = nI q := e
      have hlt : nI q < 10 := nI_lt (b := 10) (by omega) (by omega)
      have hpos : ¬ nI q < 0 := ix_lt (by omega)
      rw [e] at hskip hset ⊢
      rw [if_neg (by simpa using hlt), if_neg hpos, ix_cl (n := q) (by omega)] at hskip hset ⊢
      by_cases hfk : vc M0 g c 10 q = 4
      · rw [if_pos hfk] at hskip ⊢
        exact ⟨fun _ => m_X4_has (g := g) e2' (by omega) (fun q' hq' eq => absurd eq.symm (ix_neg1 (by omega))) (fun _ => k0e (hskip rfl)), fun a => absurd (by decide) a⟩
      · rw [if_neg hfk] at hset ⊢
        refine ⟨fun _ => m_X4_has (g := g) e2' (by omega) (fun q' hq' eq => k1e ⟨ix_in (by omega) (by omega), ix_in (by omega) (by omega), m_X4_openTo (g := g) (by omega) (by omega) (kv ⟨ix_in (by omega) (by omega), ?_⟩)⟩) (fun hne => absurd rfl (hne q (by omega))), fun a => absurd hlt a⟩
        rw [hopen, ix_cl (n := q) (by omega), ha q hq]
        exact hset _ (hrow q hq).2.2.2 (ix_neg1 (by omega)) rfl
    · have e : lk (vc M0 g c) i = nI (10 + q) := e
      have hge : ¬ nI (10 + q) < 10 := nI_nlt (b := 10) (by omega) (by omega)
      have es : nI (10 + q) - 10 = nI q := by rw [show nI (10 + q) - 10 = nI (10 + q - 10) from pk_sub (b := 10) (by omega)]; congr 1; omega
      rw [e] at hset ⊢
      rw [if_pos hge] at hset ⊢
      rw [es] at hset ⊢
      refine ⟨fun a => absurd a hge, fun _ => ⟨ix_in (by omega) (by omega), m_X2_thingsBy (c := c) hFM (kv (m_X4_openTo (g := g) (by omega) (by omega) (kv ⟨ix_in (by omega) (by omega), ?_⟩)))⟩⟩
      rw [hopen, ← comesF_congr hcon (nI q)]
      exact hset _ (cmF_small (fun j hj => (hcom j hj).2.2) _ _ _ _ _ (by omega) ⟨0, by omega, rfl⟩) (ix_neg1 (by omega)) rfl
theorem m_X4_passOneHour (hgc : g ≠ c) (hF : Wf (vc M g c)) (hL : LkOk M g c) (h : ∀ M', eqX [(c, 8), (c, 10), (c, 2)] M M' → vc M' g c = passF (vc M g c) → Q none M' R) : am_WM E (d + 2) 52 [aO 4 c, aO 2 g] M R Q := by
  refine w_X4_passOneHour ⟨by decide, by decide, by decide, by decide, by decide, ?_⟩
  have h8 := hF.1.1
  have hX : eqX [(c, 8), (c, 10)] M (am_cp M c 8 0 c 10 0 8) := eqX_cp eqX_rfl (by simp)
  refine pass1_loop hgc hF hL (sN (vc M g c)) 0 _ (by omega) hX ?_ ?_ h
  · rw [midG_0]
    refine vc_same (fun k => am_cp_off g k (fun q => hgc q.1)) (fun k hk => am_cp_off c k (fun q => absurd q.2 (by omega)))
  · intro j hj
    rw [show am_cp M c 8 (Int32.toNatClampNeg 0) c 10 (Int32.toNatClampNeg 0) (Int32.toNatClampNeg 8) c 10 j = va_cpy (M c 8) (M c 10) 0 0 8 j from by rw [show (Int32.toNatClampNeg 0) = 0 from rfl, show (Int32.toNatClampNeg 8) = 8 from rfl, am_cp_row]]
    rw [pk_cpy_in (by omega) (by omega)]
    rw [show 0 + (j - 0) = j from by omega]
    exact (tr_lt hj).symm
end CPass
