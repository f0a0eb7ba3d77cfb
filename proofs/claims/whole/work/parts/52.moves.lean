/-! contracts over the state: what is done (feed, hang, turn, wall, seed) -/
theorem CRel_6 {S : List (Nat × Nat)} {M M' : am_M} {b : Bool} {s : St} {σ : Sc} (hX : eqX S M M') (hS : ∀ o k, (o, k) ∈ S → o = 6) (hC : CRel M b s) (hv : vc M' (pl b) 6 = σ) (hL : LkOk M' (pl b) 6) : CRel M' b (σ, s.2) := by
  have h : ∀ o, o ≠ 6 → M' o = M o := fun o a => by
    funext k
    exact hX o k (fun z => a (hS o k z))
  have hpl : M' (pl b) = M (pl b) := h _ (pl_ne (by omega))
  have hv2 : ∀ c, c ≠ 6 → vc M' (pl b) c = vc M (pl b) c := fun c a => vc_same (fun k => by rw [hpl]) (fun k _ => by rw [h c a])
  obtain ⟨c1, c2, c3, c4, c5, c6, c7⟩ := hC
  refine ⟨hv, hL, ?_, ?_, by rw [h 0 (by decide)]; exact c5, by rw [h 0 (by decide)]; exact c6, fun i hi hk => ⟨by rw [hv2 _ (by omega)]; exact (c7 i hi hk).1, LkOk_of (c7 i hi hk).2 (hv2 _ (by omega)) (by rw [h _ (by omega)])⟩⟩
  · show aC M' = s.2.1
    rw [← c3]; unfold aC; rw [h 10 (by decide)]
  · show tC M' = s.2.2.1
    rw [← c4]; exact tC_off (fun k => by rw [h 1 (by decide)])
def nwF (k : Nat) : Bool := match k with
  | 11 => true | 12 => true | 34 => true
  | _ => false
theorem MRel_6 {S : List (Nat × Nat)} {M M' : am_M} {s : St} {σ : Sc} (hX : eqX S M M') (hS : ∀ o k, (o, k) ∈ S → o = 13 ∧ nwF k = true) (hM : MRel M s) (hv : vm M' = σ) (him : ∀ f, imF f = true → σ f = s.1 f) : MRel M' (σ, s.2) := by
  have h : ∀ k, nwF k = false → M' 13 k = M 13 k := fun k a => hX 13 k (fun z => by have := (hS 13 k z).2; rw [a] at this; cases this)
  obtain ⟨c1, c2, c3, c4, c5, c6⟩ := hM
  refine ⟨hv, ?_, ?_, by rw [h 15 rfl]; exact c4, fun i hi => by rw [h 47 rfl]; exact c5 i hi, fun i hi hk => ?_⟩
  · show aM M' = s.2.1
    rw [← c2]; unfold aM; rw [h 38 rfl, h 39 rfl, h 40 rfl, h 41 rfl, h 43 rfl, h 44 rfl, h 45 rfl]
  · show tM M' = s.2.2.1
    rw [← c3]; exact tM_off (fun k hk => by rcases hk with rfl | rfl <;> exact h _ rfl)
  · show vi M' i = s.2.2.2.2.2 i
    rw [← c6 i hi hk]; exact vi_off (h 46 rfl) (fun f hf => by rw [hv, him f hf, c1])
theorem SOk_6 {s : St} {σ : Sc} (hS : SOk s) (hF : Wf σ) (hO : hOk σ) (him : ∀ f, imF f = true → σ f = s.1 f) : SOk (σ, s.2) := by
  obtain ⟨a1, a2, a3, a4, a5⟩ := hS
  have eN : sN σ = sN s.1 := by unfold sN; rw [him 2 rfl]
  refine ⟨hF, hO, ?_, a4, fun i hi hk => ⟨(a5 i hi hk).1, (a5 i hi hk).2.1, fun f hf => ?_⟩⟩
  · show WA s.2.1 (sN σ)
    rw [eN]; exact a3
  · show s.2.2.2.2.2 i f = σ f
    rw [him f hf]; exact (a5 i hi hk).2.2 f hf
/-- feed -/
def feA (τ : Sc) (x : Int32) : Int32 := if inN x 256 then (if τ 0 0 = 240 then -1000000004 else τ 0 0 + 1) else -1000000002
def pshT (τ : Sc) (x : Int32) : Sc := fun f j => match f with
  | 0 => τ 0 0 + 1
  | 1 => if j = (τ 0 0).toNatClampNeg then x else τ 1 j
  | f => τ f j
def feS (τ : Sc) (x : Int32) : Sc := if inN x 256 then (if τ 0 0 = 240 then τ else pshT τ x) else τ
theorem feS_ok {τ : Sc} {x : Int32} (h : TOk τ) : TOk (feS τ x) := by
  unfold feS
  split
  · next hi =>
    split
    · exact h
    · next hn =>
      obtain ⟨n, hn1, e, hc⟩ := h
      have hn2 : n ≠ 240 := fun z => hn (by rw [e, z]; rfl)
      refine ⟨n + 1, by omega, ?_, fun j hj => ?_⟩
      · show τ 0 0 + 1 = _
        rw [e, nI_1]
      · show ∃ c, c < 256 ∧ (if j = (τ 0 0).toNatClampNeg then x else τ 1 j) = nI c
        rw [e, ix_cl (by omega)]
        have ha := hi.1
        have hb := hi.2
        by_cases ej : j = n
        · rw [if_pos ej]; exact ⟨x.toInt.toNat, by omega, i_of (by omega)⟩
        · rw [if_neg ej]; exact hc j (by omega)
  · exact h
theorem tC_psh {M : am_M} {n : Nat} {x : Int32} (hn : M 1 1 0 = nI n) (h8 : n < 240) : tC (am_up (am_up M 1 0 n x) 1 1 0 (nI (n + 1))) = pshT (tC M) x := by
  have e0 : tC M 0 0 = nI n := hn
  funext f j
  unfold pshT
  rw [e0, nI_1, ix_cl (n := n) (by omega)]
  unfold tC
  rw [up_s, ix_cl (n := n + 1) (by omega), am_up_off 1 0 (by decide), tr_push (f := M 1 0) (v := x) up_s (fun j hj => up_i hj) j, hn, ix_cl (n := n) (by omega)]
  match f with
  | 0 => rfl
  | 1 => rfl
  | f + 2 => rfl
theorem tM_psh {M : am_M} {n : Nat} {x : Int32} (hn : M 13 14 0 = nI n) (h8 : n < 240) : tM (am_up (am_up M 13 13 n x) 13 14 0 (nI (n + 1))) = pshT (tM M) x := by
  have e0 : tM M 0 0 = nI n := hn
  funext f j
  unfold pshT
  rw [e0, nI_1, ix_cl (n := n) (by omega)]
  unfold tM
  rw [up_s, ix_cl (n := n + 1) (by omega), am_up_off 13 13 (by decide), tr_push (f := M 13 13) (v := x) up_s (fun j hj => up_i hj) j, hn, ix_cl (n := n) (by omega)]
  match f with
  | 0 => rfl
  | 1 => rfl
  | f + 2 => rfl
theorem CRel_1 {S : List (Nat × Nat)} {M M' : am_M} {b : Bool} {s : St} {τ : Sc} (hX : eqX S M M') (hS : ∀ o k, (o, k) ∈ S → o = 1) (hC : CRel M b s) (hv : tC M' = τ) : CRel M' b (s.1, s.2.1, τ, s.2.2.2) := by
  have h : ∀ o, o ≠ 1 → M' o = M o := fun o a => by
    funext k
    exact hX o k (fun z => a (hS o k z))
  have hpl : M' (pl b) = M (pl b) := h _ (by cases b <;> decide)
  have hv2 : ∀ c, c ≠ 1 → vc M' (pl b) c = vc M (pl b) c := fun c a => vc_same (fun k => by rw [hpl]) (fun k _ => by rw [h c a])
  obtain ⟨c1, c2, c3, c4, c5, c6, c7⟩ := hC
  refine ⟨(hv2 6 (by decide)).trans c1, LkOk_of c2 (hv2 6 (by decide)) (by rw [h 6 (by decide)]), ?_, hv, by rw [h 0 (by decide)]; exact c5, by rw [h 0 (by decide)]; exact c6, fun i hi hk => ⟨by rw [hv2 _ (by omega)]; exact (c7 i hi hk).1, LkOk_of (c7 i hi hk).2 (hv2 _ (by omega)) (by rw [h _ (by omega)])⟩⟩
  show aC M' = s.2.1
  rw [← c3]; unfold aC; rw [h 10 (by decide)]
theorem MRel_1 {S : List (Nat × Nat)} {M M' : am_M} {s : St} {τ : Sc} (hX : eqX S M M') (hS : ∀ o k, (o, k) ∈ S → o = 13 ∧ (k = 13 ∨ k = 14)) (hM : MRel M s) (hv : tM M' = τ) : MRel M' (s.1, s.2.1, τ, s.2.2.2) := by
  have h : ∀ k, k ≠ 13 → k ≠ 14 → M' 13 k = M 13 k := fun k a1 a2 => hX 13 k (fun z => by have := (hS 13 k z).2; omega)
  have evm : vm M' = vm M := vm_off (S := S) hX (fun k hk z => by have := (hS 13 k z).2; omega)
  obtain ⟨c1, c2, c3, c4, c5, c6⟩ := hM
  refine ⟨evm.trans c1, ?_, hv, by rw [h 15 (by decide) (by decide)]; exact c4, fun i hi => by rw [h 47 (by decide) (by decide)]; exact c5 i hi, fun i hi hk => ?_⟩
  · show aM M' = s.2.1
    rw [← c2]; unfold aM; rw [h 38 (by decide) (by decide), h 39 (by decide) (by decide), h 40 (by decide) (by decide), h 41 (by decide) (by decide), h 43 (by decide) (by decide), h 44 (by decide) (by decide), h 45 (by decide) (by decide)]
  · show vi M' i = s.2.2.2.2.2 i
    rw [← c6 i hi hk]; exact vi_off (h 46 (by decide) (by decide)) (fun f _ => by rw [evm])
/-- hang -/
def hgS (σ : Sc) (x1 x2 x3 : Int32) : Sc := if inN x1 (sN σ) ∧ cellP σ x2 x3 then (if onF σ x2 x3 = -1 then sup (sup σ 11 x1.toNatClampNeg x2) 12 x1.toNatClampNeg x3 else σ) else σ
def hgA (σ : Sc) (x1 x2 x3 : Int32) : Int32 := if inN x1 (sN σ) ∧ cellP σ x2 x3 then (if onF σ x2 x3 = -1 then lk (sup (sup σ 11 x1.toNatClampNeg x2) 12 x1.toNatClampNeg x3) x1.toNatClampNeg else -1000000003) else -1000000001
theorem hg_off {σ : Sc} {p f : Nat} {x y : Int32} (h1 : f ≠ 11) (h2 : f ≠ 12) : sup (sup σ 11 p x) 12 p y f = σ f := by rw [sup_off h2, sup_off h1]
theorem hg_wg {σ : Sc} {p : Nat} {x y : Int32} (hF : Wg σ) : Wg (sup (sup σ 11 p x) 12 p y) := by
  unfold Wg sN sD sC at hF ⊢
  rw [hg_off (f := 0) (by decide) (by decide), hg_off (f := 1) (by decide) (by decide), hg_off (f := 2) (by decide) (by decide), hg_off (f := 3) (by decide) (by decide), hg_off (f := 4) (by decide) (by decide), hg_off (f := 13) (by decide) (by decide)]
  exact hF
theorem cell_nI {σ : Sc} {x y : Int32} (hF : Wg σ) (h : cellP σ x y) : (∃ n, n < 7 ∧ x = nI n) ∧ ∃ n, n < 7 ∧ y = nI n := by
  obtain ⟨w, hw, ew⟩ := hF.2.2.2.2.2.2.1
  obtain ⟨h', hh, eh⟩ := hF.2.2.2.2.2.2.2.1
  obtain ⟨a1, a2, a3, a4⟩ := h
  rw [ew] at a2
  rw [eh] at a4
  constructor
  · rcases ix_of (x := x) (n := w) (by omega) with ⟨q, hq, e⟩ | ⟨q | q, -⟩
    · exact ⟨q, by omega, e⟩
    · exact absurd q a1
    · exact absurd q a2
  · rcases ix_of (x := y) (n := h') (by omega) with ⟨q, hq, e⟩ | ⟨q | q, -⟩
    · exact ⟨q, by omega, e⟩
    · exact absurd q a3
    · exact absurd q a4
theorem hg_wf {σ : Sc} {p : Nat} {x y : Int32} (hF : Wf σ) (hc : cellP σ x y) : Wf (sup (sup σ 11 p x) 12 p y) := by
  obtain ⟨hx, hy⟩ := cell_nI hF.1 hc
  obtain ⟨a1, a2, a3, a4, a5, a6⟩ := hF
  have eN : sN (sup (sup σ 11 p x) 12 p y) = sN σ := by unfold sN; rw [hg_off (by decide) (by decide)]
  have eD : sD (sup (sup σ 11 p x) 12 p y) = sD σ := by unfold sD; rw [hg_off (by decide) (by decide)]
  have eC : sC (sup (sup σ 11 p x) 12 p y) = sC σ := by unfold sC; rw [hg_off (by decide) (by decide)]
  refine ⟨hg_wg a1, ?_, ?_, ?_, ?_, ?_⟩
  · intro q hq
    rw [eN] at hq
    obtain ⟨b1, b2, b3, b4⟩ := a2 q hq
    rw [hg_off (f := 10) (by decide) (by decide), hg_off (f := 14) (by decide) (by decide)]
    refine ⟨b1, ?_, ?_, b4⟩
    · rw [sup_off (by decide)]
      by_cases e : q = p
      · rw [e, sup_at]; exact hx
      · rw [sup_ne e]; exact b2
    · by_cases e : q = p
      · rw [e, sup_at]; exact hy
      · rw [sup_ne e, sup_off (by decide)]; exact b3
  · rw [eN, hg_off (by decide) (by decide)]; exact a3
  · rw [hg_off (by decide) (by decide)]; exact a4
  · rw [hg_off (by decide) (by decide)]; exact a5
  · intro j hj
    rw [eC] at hj
    rw [eD, hg_off (f := 17) (by decide) (by decide), hg_off (f := 18) (by decide) (by decide), hg_off (f := 19) (by decide) (by decide)]
    exact a6 j hj
theorem hg_im {σ : Sc} {x1 x2 x3 : Int32} : ∀ f, imF f = true → hgS σ x1 x2 x3 f = σ f := fun f hf => by
  unfold hgS
  split
  · split
    · exact hg_off (fun z => by rw [z] at hf; cases hf) (fun z => by rw [z] at hf; cases hf)
    · rfl
  · rfl
theorem hg_ok {s : St} {x1 x2 x3 : Int32} (hS : SOk s) : SOk (hgS s.1 x1 x2 x3, s.2) := by
  refine SOk_6 hS ?_ ?_ hg_im
  · unfold hgS
    split
    · next h =>
      split
      · exact hg_wf hS.1 h.2
      · exact hS.1
    · exact hS.1
  · unfold hgS
    split
    · split
      · obtain ⟨h, hh, e⟩ := hS.2.1
        exact ⟨h, hh, by rw [hg_off (by decide) (by decide)]; exact e⟩
      · exact hS.2.1
    · exact hS.2.1
theorem vm_up11 {M : am_M} {i : Nat} {v : Int32} (h8 : sN (vm M) ≤ 8) (hi : i < sN (vm M)) : vm (am_up M 13 11 i v) = sup (vm M) 11 i v := by
  have hn : ∀ j, j < (M 13 2 0).toNatClampNeg → j < 8 := fun j hj => Nat.lt_of_lt_of_le hj h8
  have hi8 : i < 8 := hn i hi
  funext f j
  match f with
  | 0 => rfl
  | 1 => rfl
  | 2 => rfl
  | 3 => rfl
  | 4 => rfl
  | 5 => show (if _ then _ else _) = (if _ then _ else _); rw [if_neg (by omega), if_neg (by omega)]; rfl
  | 6 => show (if _ then _ else _) = (if _ then _ else _); rw [if_neg (by omega), if_neg (by omega)]; rfl
  | 7 => rfl
  | 8 => rfl
  | 9 => rfl
  | 10 => rfl
  | 11 =>
    show tr _ (fun j => am_up M 13 11 i v 13 11 j) j = if 11 = 11 ∧ j = i then v else tr (M 13 2 0).toNatClampNeg (fun j => M 13 11 j) j
    by_cases hj : j = i
    · subst hj
      rw [if_pos ⟨rfl, rfl⟩, tr_lt (by exact hi)]
      exact up_s
    · rw [if_neg (fun q => hj q.2)]
      unfold tr
      dsimp only
      rw [up_i (o' := 13) (k' := 11) (i' := j) (by omega)]
      rfl
  | 12 =>
    show tr _ (fun j => am_up M 13 11 i v 13 11 (8 + j)) j = tr _ (fun j => M 13 11 (8 + j)) j
    exact congrFun (tr_eq (fun q hq => up_i (by have := hn q hq; omega))) j
  | 13 =>
    show tr _ (fun j => am_up M 13 11 i v 13 11 (16 + j)) j = tr _ (fun j => M 13 11 (16 + j)) j
    exact congrFun (tr_eq (fun q hq => up_i (by have := hn q hq; omega))) j
  | 14 =>
    show tr _ (fun j => am_up M 13 11 i v 13 11 (24 + j)) j = tr _ (fun j => M 13 11 (24 + j)) j
    exact congrFun (tr_eq (fun q hq => up_i (by have := hn q hq; omega))) j
  | 15 => rfl
  | 16 => rfl
  | 17 => rfl
  | 18 => rfl
  | 19 => rfl
  | f + 20 => rfl
theorem vm_up12 {M : am_M} {i : Nat} {v : Int32} (h8 : sN (vm M) ≤ 8) (hi : i < sN (vm M)) : vm (am_up M 13 11 (8 + i) v) = sup (vm M) 12 i v := by
  have hn : ∀ j, j < (M 13 2 0).toNatClampNeg → j < 8 := fun j hj => Nat.lt_of_lt_of_le hj h8
  have hi8 : i < 8 := hn i hi
  funext f j
  match f with
  | 0 => rfl
  | 1 => rfl
  | 2 => rfl
  | 3 => rfl
  | 4 => rfl
  | 5 => show (if _ then _ else _) = (if _ then _ else _); rw [if_neg (by omega), if_neg (by omega)]; rfl
  | 6 => show (if _ then _ else _) = (if _ then _ else _); rw [if_neg (by omega), if_neg (by omega)]; rfl
  | 7 => rfl
  | 8 => rfl
  | 9 => rfl
  | 10 => rfl
  | 11 =>
    show tr _ (fun j => am_up M 13 11 (8 + i) v 13 11 j) j = tr _ (fun j => M 13 11 j) j
    exact congrFun (tr_eq (fun q hq => up_i (by have := hn q hq; omega))) j
  | 12 =>
    show tr _ (fun j => am_up M 13 11 (8 + i) v 13 11 (8 + j)) j = if 12 = 12 ∧ j = i then v else tr (M 13 2 0).toNatClampNeg (fun j => M 13 11 (8 + j)) j
    by_cases hj : j = i
    · subst hj
      rw [if_pos ⟨rfl, rfl⟩, tr_lt (by exact hi)]
      exact up_s
    · rw [if_neg (fun q => hj q.2)]
      unfold tr
      dsimp only
      rw [up_i (o' := 13) (k' := 11) (i' := 8 + j) (by omega)]
      rfl
  | 13 =>
    show tr _ (fun j => am_up M 13 11 (8 + i) v 13 11 (16 + j)) j = tr _ (fun j => M 13 11 (16 + j)) j
    exact congrFun (tr_eq (fun q hq => up_i (by have := hn q hq; omega))) j
  | 14 =>
    show tr _ (fun j => am_up M 13 11 (8 + i) v 13 11 (24 + j)) j = tr _ (fun j => M 13 11 (24 + j)) j
    exact congrFun (tr_eq (fun q hq => up_i (by have := hn q hq; omega))) j
  | 15 => rfl
  | 16 => rfl
  | 17 => rfl
  | 18 => rfl
  | 19 => rfl
  | f + 20 => rfl
/-- turn -/
def tnS (σ : Sc) (x1 x2 : Int32) : Sc := if inN x1 (sN σ) then (if inN x2 4 then sup σ 13 x1.toNatClampNeg x2 else σ) else σ
def tnA (σ : Sc) (x1 x2 : Int32) : Int32 := if inN x1 (sN σ) then (if inN x2 4 then lk (sup σ 13 x1.toNatClampNeg x2) x1.toNatClampNeg else -1000000002) else -1000000001
theorem tn_im {σ : Sc} {x1 x2 : Int32} : ∀ f, imF f = true → tnS σ x1 x2 f = σ f := fun f hf => by
  unfold tnS
  split
  · split
    · exact sup_off (fun z => by rw [z] at hf; cases hf)
    · rfl
  · rfl
theorem tn_ok {s : St} {x1 x2 : Int32} (hS : SOk s) : SOk (tnS s.1 x1 x2, s.2) := by
  refine SOk_6 hS ?_ ?_ tn_im
  · unfold tnS
    split
    · split
      · next h =>
        have ha := h.1
        have hb := h.2
        rw [i_of (x := x2) (n := x2.toInt.toNat) (by omega)]
        exact tw_wf hS.1 (by omega)
      · exact hS.1
    · exact hS.1
  · unfold tnS
    split
    · split
      · obtain ⟨h, hh, e⟩ := hS.2.1
        exact ⟨h, hh, by rw [sup_off (by decide)]; exact e⟩
      · exact hS.2.1
    · exact hS.2.1
/-- wall -/
def waS (σ : Sc) (x1 x2 : Int32) : Sc := if inN x1 (sN σ) then wlS σ x1.toNatClampNeg (decide (¬ x2 = 0)) else σ
def wllA (σ : Sc) (x1 : Int32) : Int32 := if inN x1 (sN σ) then (if bt (σ 6 0) x1.toNatClampNeg = true then 1 else 0) else -1000000001
theorem wlS_off {σ : Sc} {p f : Nat} {is : Bool} (h : f ≠ 6) : wlS σ p is f = σ f := sus_off h
theorem wlS_wf {σ : Sc} {p : Nat} {is : Bool} (hF : Wf σ) (hp : p < sN σ) : Wf (wlS σ p is) := by
  obtain ⟨a1, a2, a3, a4, a5, a6⟩ := hF
  have eN : sN (wlS σ p is) = sN σ := by unfold sN; rw [wlS_off (by decide)]
  have eD : sD (wlS σ p is) = sD σ := by unfold sD; rw [wlS_off (by decide)]
  have eC : sC (wlS σ p is) = sC σ := by unfold sC; rw [wlS_off (by decide)]
  refine ⟨?_, ?_, ?_, ?_, ?_, ?_⟩
  · unfold Wg
    rw [eN, eD, eC, wlS_off (f := 0) (by decide), wlS_off (f := 1) (by decide), wlS_off (f := 2) (by decide), wlS_off (f := 3) (by decide), wlS_off (f := 4) (by decide), wlS_off (f := 13) (by decide)]
    exact a1
  · intro q hq
    rw [eN] at hq
    rw [wlS_off (f := 10) (by decide), wlS_off (f := 11) (by decide), wlS_off (f := 12) (by decide), wlS_off (f := 14) (by decide)]
    exact a2 q hq
  · obtain ⟨w, hw, ew⟩ := a3
    rw [eN]
    have e6 : wlS σ p is 6 0 = if is then σ 6 0 ||| nI (2 ^ p) else σ 6 0 &&& (nI (2 ^ p) ^^^ (-1)) := by unfold wlS sus; rw [if_pos rfl]
    rw [e6, ew]
    cases is with
    | true => exact ⟨w ||| 2 ^ p, Nat.or_lt_two_pow hw (Nat.pow_lt_pow_right (by decide) hp), by rw [if_pos rfl, nI_or]⟩
    | false =>
      refine ⟨w &&& (2 ^ p ^^^ 4294967295), Nat.lt_of_le_of_lt Nat.and_le_left hw, ?_⟩
      rw [if_neg (by decide), show (-1 : Int32) = nI 4294967295 from by decide, nI_xor, nI_and]
  · rw [wlS_off (by decide)]; exact a4
  · rw [wlS_off (by decide)]; exact a5
  · intro j hj
    rw [eC] at hj
    rw [eD, wlS_off (f := 17) (by decide), wlS_off (f := 18) (by decide), wlS_off (f := 19) (by decide)]
    exact a6 j hj
theorem wa_im {σ : Sc} {x1 x2 : Int32} : ∀ f, imF f = true → waS σ x1 x2 f = σ f := fun f hf => by
  unfold waS
  split
  · exact wlS_off (fun z => by rw [z] at hf; cases hf)
  · rfl
theorem wa_ok {s : St} {x1 x2 : Int32} (hS : SOk s) : SOk (waS s.1 x1 x2, s.2) := by
  refine SOk_6 hS ?_ ?_ wa_im
  · unfold waS
    split
    · next h =>
      have ha := h.1
      have hb := h.2
      refine wlS_wf hS.1 ?_
      have := i_of (x := x1) (n := x1.toInt.toNat) (by omega)
      have h8 := hS.1.1.1
      rw [this, ix_cl (by omega)]
      omega
    · exact hS.1
  · unfold waS
    split
    · obtain ⟨h, hh, e⟩ := hS.2.1
      exact ⟨h, hh, by rw [wlS_off (by decide)]; exact e⟩
    · exact hS.2.1
/-- seed -/
def sdS (σ : Sc) (x : Int32) : Sc := if x < 0 then σ else sus σ 7 x
def sdA (σ : Sc) (x : Int32) : Int32 := if x < 0 then -1000000002 else σ 7 0
theorem sd_im {σ : Sc} {x : Int32} : ∀ f, imF f = true → sdS σ x f = σ f := fun f hf => by
  unfold sdS
  split
  · rfl
  · exact sus_off (fun z => by rw [z] at hf; cases hf)
theorem sus7_wf {σ : Sc} {v : Int32} (hF : Wf σ) (hv : ¬ v < 0) : Wf (sus σ 7 v) := by
  obtain ⟨a1, a2, a3, a4, a5, a6⟩ := hF
  have o : ∀ f, f ≠ 7 → sus σ 7 v f = σ f := fun f h => sus_off h
  have eN : sN (sus σ 7 v) = sN σ := by unfold sN; rw [o 2 (by decide)]
  have eD : sD (sus σ 7 v) = sD σ := by unfold sD; rw [o 3 (by decide)]
  have eC : sC (sus σ 7 v) = sC σ := by unfold sC; rw [o 4 (by decide)]
  refine ⟨Wg_seed a1, ?_, ?_, ?_, ?_, ?_⟩
  · intro q hq
    rw [eN] at hq
    rw [o 10 (by decide), o 11 (by decide), o 12 (by decide), o 14 (by decide)]
    exact a2 q hq
  · rw [eN, o 6 (by decide)]; exact a3
  · rw [o 5 (by decide)]; exact a4
  · show ¬ sus σ 7 v 7 0 < 0
    unfold sus; rw [if_pos rfl]; exact hv
  · intro j hj
    rw [eC] at hj
    rw [eD, o 17 (by decide), o 18 (by decide), o 19 (by decide)]
    exact a6 j hj
theorem sd_ok {s : St} {x : Int32} (hS : SOk s) : SOk (sdS s.1 x, s.2) := by
  refine SOk_6 hS ?_ ?_ sd_im
  · unfold sdS
    split
    · exact hS.1
    · next h => exact sus7_wf hS.1 h
  · unfold sdS
    split
    · exact hS.2.1
    · obtain ⟨h, hh, e⟩ := hS.2.1
      exact ⟨h, hh, by rw [sus_off (by decide)]; exact e⟩
theorem vm_up7 {M : am_M} {v : Int32} : vm (am_up M 13 12 0 v) = sus (vm M) 7 v := by
  funext f j
  match f with
  | 0 => rfl
  | 1 => rfl
  | 2 => rfl
  | 3 => rfl
  | 4 => rfl
  | 5 => rfl
  | 6 => rfl
  | 7 => rfl
  | 8 => rfl
  | 9 => rfl
  | 10 => rfl
  | 11 => rfl
  | 12 => rfl
  | 13 => rfl
  | 14 => rfl
  | 15 => rfl
  | 16 => rfl
  | 17 => rfl
  | 18 => rfl
  | 19 => rfl
  | f + 20 => rfl
