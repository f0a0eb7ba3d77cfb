/-! the class: looks kept right, scenes copied -/
section COps
variable {E : Nat → Nat → Int32} {d : Nat} {Q : am_Q} {M : am_M} {R : am_R} {g c : Nat}
theorem LkOk_of {M M' : am_M} (h : LkOk M g c) (hv : vc M' g c = vc M g c) (h9 : M' c 9 = M c 9) : LkOk M' g c := by
  intro p hp
  rw [hv] at hp ⊢
  rw [h9]
  exact h p hp
theorem vc_up9 {M : am_M} {i : Nat} {v : Int32} (hgc : g ≠ c) : vc (am_up M c 9 i v) g c = vc M g c := vc_same (fun k => am_up_off g k (fun q => hgc q.1)) (fun k hk => am_up_off c k (fun q => absurd q.2 (by omega)))
theorem lookAll_loop {M0 : am_M} (hE : stepE E) (hgc : g ≠ c) (hF : Wg (vc M0 g c)) : ∀ (k i : Nat) (M : am_M), i + k = sN (vc M0 g c) → eqX [(c, 9)] M0 M → vc M g c = vc M0 g c → (∀ j, j < i → M c 9 j = lk (vc M0 g c) j) → (∀ M', eqX [(c, 9)] M0 M' → vc M' g c = vc M0 g c → LkOk M' g c → Q none M' R) → am_WP E (am_WM E (d + 3)) am_L_X4_lookAll Q 2 [aO 4 c, aO 2 g, aI (nI i)] [] M R := by
  have h8 := hF.1
  have hn := hF.2.1
  intro k
  induction k with
  | zero =>
    intro i M hi hX hv ha h
    refine w_X4_lookAll_2 ?_
    rw [show M c 0 0 = nI (sN (vc M0 g c)) from by rw [← hn, hX c 0 (by simp)]; rfl]
    refine ⟨fun _ => h M hX hv (fun p hp => ?_), fun q => absurd (ix_le (by omega) (by omega)) q⟩
    rw [hv] at hp ⊢
    exact ha p (by omega)
  | succ k ih =>
    intro i M hi hX hv ha h
    refine w_X4_lookAll_2 ?_
    obtain ⟨w, hw, ew⟩ := hF.2.2.2.2.2.2.2.2 i (by omega)
    have e7 : M c 7 i = nI w := by
      rw [← ew, ← hv]
      exact (tr_lt (show i < sN (vc M g c) by rw [hv]; omega)).symm
    have hF2 : Wg (vc M g c) := by rw [hv]; exact hF
    rw [show M c 0 0 = nI (sN (vc M0 g c)) from by rw [← hn, hX c 0 (by simp)]; rfl, ix_cl (by omega), nI_1, e7]
    refine ⟨fun q => absurd q (ix_ge (by omega) (by omega)), fun _ => ⟨ix_in (by omega) (by omega), m_X4_lookOf hE hF2.2.1 hF2.1 hF2.2.2.2.1 hF2.2.2.1 (by rw [hv]; omega) hw (kv ⟨ix_in (by omega) (by omega), ?_⟩)⟩⟩
    refine ih (i + 1) _ (by omega) (eqX_up hX (by simp)) (by rw [vc_up9 hgc, hv]) ?_ h
    intro j hj
    by_cases e : j = i
    · subst e
      rw [up_s, hv]
      unfold lk
      rw [ew, ix_cl (by omega)]
    · rw [up_i e]
      exact ha j (by omega)
theorem m_X4_lookAll (hE : stepE E) (hgc : g ≠ c) (hF : Wg (vc M g c)) (h : ∀ M', eqX [(c, 9)] M M' → vc M' g c = vc M g c → LkOk M' g c → Q none M' R) : am_WM E (d + 4) 46 [aO 4 c, aO 2 g] M R Q := by
  refine w_X4_lookAll ?_
  exact lookAll_loop hE hgc hF (sN (vc M g c)) 0 M (by omega) eqX_rfl rfl (fun j hj => absurd hj (by omega)) h
theorem sup_off {σ : Sc} {f i f' : Nat} {v : Int32} (h : f' ≠ f) : sup σ f i v f' = σ f' := by
  funext j
  unfold sup
  rw [if_neg (fun q => h q.1)]
theorem sup_at {σ : Sc} {f i : Nat} {v : Int32} : sup σ f i v f i = v := if_pos ⟨rfl, rfl⟩
theorem sup_ne {σ : Sc} {f i j : Nat} {v : Int32} (h : j ≠ i) : sup σ f i v f j = σ f j := if_neg (fun q => h q.2)
theorem sus_off {σ : Sc} {f f' : Nat} {v : Int32} (h : f' ≠ f) : sus σ f v f' = σ f' := by
  funext j
  unfold sus
  rw [if_neg h]
theorem Wg_way {σ : Sc} {p w : Nat} (hF : Wg σ) (hw : w < 4) : Wg (sup σ 13 p (nI w)) := by
  obtain ⟨a1, a2, a3, a4, a5, a6, a7, a8, a9⟩ := hF
  have e2 : sup σ 13 p (nI w) 2 = σ 2 := sup_off (by decide)
  have e3 : sup σ 13 p (nI w) 3 = σ 3 := sup_off (by decide)
  have e4 : sup σ 13 p (nI w) 4 = σ 4 := sup_off (by decide)
  have e0 : sup σ 13 p (nI w) 0 = σ 0 := sup_off (by decide)
  have e1 : sup σ 13 p (nI w) 1 = σ 1 := sup_off (by decide)
  unfold Wg sN sD sC
  rw [e0, e1, e2, e3, e4]
  refine ⟨a1, a2, a3, a4, a5, a6, a7, a8, fun q hq => ?_⟩
  by_cases e : q = p
  · subst e
    exact ⟨w, hw, sup_at⟩
  · rw [sup_ne e]
    exact a9 q hq
theorem m_X4_lookTo {p w : Nat} (hE : stepE E) (hgc : g ≠ c) (hF : Wg (vc M g c)) (hL : LkOk M g c) (hp : p < sN (vc M g c)) (hw : w < 4) (h : ∀ M', eqX [(c, 7), (c, 9)] M M' → vc M' g c = sup (vc M g c) 13 p (nI w) → LkOk M' g c → Q none M' R) : am_WM E (d + 4) 47 [aO 4 c, aO 2 g, aI (nI p), aI (nI w)] M R Q := by
  have h8 := hF.1
  refine w_X4_lookTo ⟨ix_in (by omega) (by omega), ?_⟩
  rw [ix_cl (by omega)]
  have hv : vc (am_up M c 7 p (nI w)) g c = sup (vc M g c) 13 p (nI w) := vc_up hgc (by omega) hp
  have hF2 : Wg (vc (am_up M c 7 p (nI w)) g c) := by rw [hv]; exact Wg_way hF hw
  have hN : sN (vc (am_up M c 7 p (nI w)) g c) = sN (vc M g c) := by rw [hv]; unfold sN; rw [sup_off (by decide)]
  refine m_X4_lookOf hE hF2.2.1 hF2.1 hF2.2.2.2.1 hF2.2.2.1 (by rw [hN]; exact hp) hw (kv ⟨ix_in (by omega) (by omega), ?_⟩)
  refine h _ (eqX_up (eqX_up eqX_rfl (by simp)) (by simp)) (by rw [vc_up9 hgc, hv]) ?_
  intro q hq
  rw [vc_up9 hgc] at hq ⊢
  rw [hN] at hq
  by_cases e : q = p
  · subst e
    rw [up_s]
    unfold lk
    rw [hv, sup_at, ix_cl (by omega)]
  · rw [up_i e, am_up_off c 9 (by simp), hL q hq, hv]
    unfold lk
    rw [sup_ne e, lookF_congr (σ := sup (vc M g c) 13 p (nI w)) (τ := vc M g c) (fun f _ _ _ a => sup_off a)]
/-- a scene is another's copy -/
def CpOk (M M' : am_M) (c c1 : Nat) : Prop := (∀ k, k ≤ 3 → M' c k 0 = M c1 k 0) ∧ ∀ k j, 4 ≤ k → k ≤ 9 → j < 8 → M' c k j = M c1 k j
theorem CpOk_vc {M M' : am_M} {c1 : Nat} (h : CpOk M M' c c1) (hg : ∀ k, M' g k = M g k) (h8 : sN (vc M g c1) ≤ 8) : vc M' g c = vc M g c1 := by
  have e0 : M' c 0 0 = M c1 0 0 := h.1 0 (by omega)
  have hlt : ∀ i, i < (M c1 0 0).toNatClampNeg → i < 8 := fun i hi => Nat.lt_of_lt_of_le hi h8
  have er : ∀ k, 4 ≤ k → k ≤ 9 → tr (M' c 0 0).toNatClampNeg (M' c k) = tr (M c1 0 0).toNatClampNeg (M c1 k) := fun k h1 h2 => by
    rw [e0]
    exact tr_eq (fun i hi => h.2 k i h1 h2 (hlt i hi))
  funext f j
  unfold vc
  rw [er 4 (by omega) (by omega), er 5 (by omega) (by omega), er 6 (by omega) (by omega), er 7 (by omega) (by omega), er 8 (by omega) (by omega), e0, h.1 1 (by omega), h.1 2 (by omega), h.1 3 (by omega), hg 0, hg 1, hg 2, hg 3, hg 5, hg 6, hg 7, hg 8, hg 9]
theorem CpOk_lk {M M' : am_M} {c1 : Nat} (h : CpOk M M' c c1) (hg : ∀ k, M' g k = M g k) (h8 : sN (vc M g c1) ≤ 8) (hL : LkOk M g c1) : LkOk M' g c := by
  intro p hp
  rw [CpOk_vc h hg h8] at hp ⊢
  rw [h.2 9 p (by omega) (by omega) (by omega)]
  exact hL p hp
def cpS (c : Nat) : List (Nat × Nat) := [(c, 0), (c, 1), (c, 2), (c, 3), (c, 4), (c, 5), (c, 6), (c, 7), (c, 8), (c, 9)]
theorem cp8 {M : am_M} {o0 o1 k : Nat} {j : Nat} (hj : j < 8) : am_cp M o0 k (Int32.toNatClampNeg 0) o1 k (Int32.toNatClampNeg 0) (Int32.toNatClampNeg 8) o1 k j = M o0 k j := by
  rw [show (Int32.toNatClampNeg 0) = 0 from rfl, show (Int32.toNatClampNeg 8) = 8 from rfl, am_cp_row, pk_cpy_in (by omega) (by omega)]
  congr 1
  omega
theorem m_X4_copyFrom {c1 : Nat} (hcc : c1 ≠ c) (h : ∀ M', eqX (cpS c) M M' → CpOk M M' c c1 → Q none M' R) : am_WM E (d + 1) 39 [aO 4 c, aO 4 c1] M R Q := by
  have hd : Int32.toNatClampNeg 0 + Int32.toNatClampNeg 8 ≤ 8 := by decide
  refine w_X4_copyFrom ⟨by decide, by decide, by decide, hd, hd, by decide, by decide, by decide, hd, hd, by decide, by decide, by decide, hd, hd, by decide, by decide, by decide, hd, hd, by decide, by decide, by decide, hd, hd, by decide, by decide, by decide, hd, hd, ?_⟩
  have u : ∀ {M : am_M} {k i : Nat} {v : Int32} {k' : Nat}, am_up M c k i v c1 k' = M c1 k' := fun {M k i v k'} => am_up_off c1 k' (fun q => hcc q.1)
  have w : ∀ {M : am_M} {o0 k0 sp k1 dp n k' : Nat}, am_cp M o0 k0 sp c k1 dp n c1 k' = M c1 k' := fun {M o0 k0 sp k1 dp n k'} => am_cp_off c1 k' (fun q => hcc q.1)
  have x : ∀ {M : am_M} {o0 k0 sp k1 dp n k' : Nat}, k' ≠ k1 → am_cp M o0 k0 sp c k1 dp n c k' = M c k' := fun {M o0 k0 sp k1 dp n k'} hk => am_cp_off c k' (fun q => hk q.2)
  have y : ∀ {M : am_M} {k i : Nat} {v : Int32} {k' : Nat}, k' ≠ k → am_up M c k i v c k' = M c k' := fun {M k i v k'} hk => am_up_off c k' (fun q => hk q.2)
  refine h _ ?_ ⟨fun k hk => ?_, fun k j h4 h9 hj => ?_⟩
  · refine eqX_cp (eqX_cp (eqX_cp (eqX_cp (eqX_cp (eqX_cp (eqX_up (eqX_up (eqX_up (eqX_up eqX_rfl ?_) ?_) ?_) ?_) ?_) ?_) ?_) ?_) ?_) ?_ <;> simp [cpS]
  · rw [x (by omega), x (by omega), x (by omega), x (by omega), x (by omega), x (by omega)]
    rcases (by omega : k = 0 ∨ k = 1 ∨ k = 2 ∨ k = 3) with rfl | rfl | rfl | rfl
    · rw [y (by decide), y (by decide), y (by decide), up_s]
    · rw [y (by decide), y (by decide), up_s, u]
    · rw [y (by decide), up_s, u, u]
    · rw [up_s, u, u, u]
  · rcases (by omega : k = 4 ∨ k = 5 ∨ k = 6 ∨ k = 7 ∨ k = 8 ∨ k = 9) with rfl | rfl | rfl | rfl | rfl | rfl
    · rw [x (by decide), x (by decide), x (by decide), x (by decide), x (by decide), cp8 hj, u, u, u, u]
    · rw [x (by decide), x (by decide), x (by decide), x (by decide), cp8 hj, w, u, u, u, u]
    · rw [x (by decide), x (by decide), x (by decide), cp8 hj, w, w, u, u, u, u]
    · rw [x (by decide), x (by decide), cp8 hj, w, w, w, u, u, u, u]
    · rw [x (by decide), cp8 hj, w, w, w, w, u, u, u, u]
    · rw [cp8 hj, w, w, w, w, w, u, u, u, u]
end COps
