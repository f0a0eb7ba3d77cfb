/-! an hour: one function on scenes; frames -/
def eqX (S : List (Nat × Nat)) (M M' : am_M) : Prop := ∀ o k, (o, k) ∉ S → M' o k = M o k
theorem eqX_rfl {S : List (Nat × Nat)} {M : am_M} : eqX S M M := fun _ _ _ => rfl
theorem eqX_tr {S : List (Nat × Nat)} {M1 M2 M3 : am_M} (h1 : eqX S M1 M2) (h2 : eqX S M2 M3) : eqX S M1 M3 := fun o k h => (h2 o k h).trans (h1 o k h)
theorem eqX_sub {S S' : List (Nat × Nat)} {M M' : am_M} (h : eqX S M M') (hs : ∀ q ∈ S, q ∈ S') : eqX S' M M' := fun o k hk => h o k (fun q => hk (hs _ q))
theorem eqX_up {S : List (Nat × Nat)} {M M' : am_M} {o k i : Nat} {v : Int32} (h : eqX S M M') (hk : (o, k) ∈ S) : eqX S M (am_up M' o k i v) := fun o' k' h' => by
  rw [am_up_off o' k' (fun q => h' (by rw [q.1, q.2]; exact hk))]
  exact h o' k' h'
theorem eqX_cp {S : List (Nat × Nat)} {M M' : am_M} {o0 k0 sp o1 k1 dp n : Nat} (h : eqX S M M') (hk : (o1, k1) ∈ S) : eqX S M (am_cp M' o0 k0 sp o1 k1 dp n) := fun o' k' h' => by
  rw [am_cp_off o' k' (fun q => h' (by rw [q.1, q.2]; exact hk))]
  exact h o' k' h'
def sup (σ : Sc) (f i : Nat) (v : Int32) : Sc := fun f' j => if f' = f ∧ j = i then v else σ f' j
def sus (σ : Sc) (f : Nat) (v : Int32) : Sc := fun f' j => if f' = f then v else σ f' j
def cmF (σ : Sc) (q h : Int32) : Nat → Nat → Int32 → Int32
  | _, 0, a => a
  | i, k + 1, a => cmF σ q h (i + 1) k (if σ 18 i = q ∧ σ 17 i = h then a ||| (1 <<< (σ 19 i &&& 31)) else a)
def comesF (σ : Sc) (q : Int32) : Int32 := cmF σ q (σ 5 0) 0 (sC σ) 0
def learnG (σ : Sc) (cm : Int32 → Int32) (p : Nat) : Int32 := if ¬ lk σ p < 10 then cm (lk σ p - 10) else if lk σ p < 0 then 0 else if σ 10 (lk σ p).toNatClampNeg = 4 then 0 else σ 14 (lk σ p).toNatClampNeg
def takeF (σ : Sc) (p : Nat) (x : Int32) : Int32 := if σ 10 p = 2 then x &&& 85 else x
def newK (σ : Sc) (cm : Int32 → Int32) (p : Nat) : Int32 := σ 14 p ||| takeF σ p (learnG σ cm p)
def midG (σ : Sc) (cm : Int32 → Int32) (n : Nat) : Sc := fun f i => if f = 14 ∧ i < n then newK σ cm i else σ f i
def passG (σ : Sc) (cm : Int32 → Int32) : Sc := sus (midG σ cm (sN σ)) 5 (σ 5 0 + 1)
def passF (σ : Sc) : Sc := passG σ (comesF σ)
theorem onF_congr {σ τ : Sc} (h : ∀ f, f ≠ 14 → f ≠ 5 → f ≠ 7 → f ≠ 13 → σ f = τ f) : onF σ = onF τ := by
  funext x y
  unfold onF sN sD
  rw [h 2 (by decide) (by decide) (by decide) (by decide), h 3 (by decide) (by decide) (by decide) (by decide), h 11 (by decide) (by decide) (by decide) (by decide), h 12 (by decide) (by decide) (by decide) (by decide), h 15 (by decide) (by decide) (by decide) (by decide), h 16 (by decide) (by decide) (by decide) (by decide)]
theorem walkF_congr {σ τ : Sc} (h : ∀ f, f ≠ 14 → f ≠ 5 → f ≠ 7 → f ≠ 13 → σ f = τ f) (p : Nat) : ∀ (k w : Nat) (x y : Int32), walkF σ p k w x y = walkF τ p k w x y
  | 0, _, _, _ => rfl
  | k + 1, w, x, y => by
    unfold walkF
    rw [onF_congr h, walkF_congr h p k w, walkF_congr h p k ((w + 1) % 4), h 6 (by decide) (by decide) (by decide) (by decide), h 10 (by decide) (by decide) (by decide) (by decide)]
    simp only [cellP, h 0 (by decide) (by decide) (by decide) (by decide), h 1 (by decide) (by decide) (by decide) (by decide)]
theorem lookF_congr {σ τ : Sc} (h : ∀ f, f ≠ 14 → f ≠ 5 → f ≠ 7 → f ≠ 13 → σ f = τ f) (p w : Nat) : lookF σ p w = lookF τ p w := by
  unfold lookF
  rw [walkF_congr h]
  simp only [blindP, h 6 (by decide) (by decide) (by decide) (by decide), h 10 (by decide) (by decide) (by decide) (by decide), h 11 (by decide) (by decide) (by decide) (by decide), h 12 (by decide) (by decide) (by decide) (by decide)]
theorem lk_congr {σ τ : Sc} (h : ∀ f, f ≠ 14 → f ≠ 5 → f ≠ 7 → σ f = τ f) (p : Nat) : lk σ p = lk τ p := by
  unfold lk
  rw [h 13 (by decide) (by decide) (by decide), lookF_congr (fun f a b c _ => h f a b c)]
theorem Wg_congr {σ τ : Sc} (h : ∀ f, f ≠ 14 → f ≠ 5 → f ≠ 7 → σ f = τ f) (hσ : Wg σ) : Wg τ := by
  unfold Wg sN sD sC at hσ ⊢
  rw [← h 0 (by decide) (by decide) (by decide), ← h 1 (by decide) (by decide) (by decide), ← h 2 (by decide) (by decide) (by decide), ← h 3 (by decide) (by decide) (by decide), ← h 4 (by decide) (by decide) (by decide), ← h 13 (by decide) (by decide) (by decide)]
  exact hσ
theorem walkF_cases (σ : Sc) (p : Nat) : ∀ (k w : Nat) (x y : Int32), walkF σ p k w x y = -1 ∨ (∃ q, q < sN σ ∧ walkF σ p k w x y = nI q) ∨ ∃ q, q < sD σ ∧ walkF σ p k w x y = nI (10 + q)
  | 0, _, _, _ => Or.inl rfl
  | k + 1, w, x, y => by
    unfold walkF
    split
    · split
      · exact walkF_cases σ p k _ _ _
      · next hne =>
        have hc : (∃ q, q < sN σ ∧ onF σ (x + dxF w) (y + dyF w) = nI q) ∨ ∃ q, q < sD σ ∧ onF σ (x + dxF w) (y + dyF w) = nI (10 + q) := by
          rcases onF_cases σ (x + dxF w) (y + dyF w) with e | ⟨q, hq, e, -⟩ | ⟨q, hq, e⟩
          · exact absurd e hne
          · exact Or.inl ⟨q, hq, e⟩
          · exact Or.inr ⟨q, hq, e⟩
        split
        · exact Or.inr hc
        · split
          · exact Or.inl rfl
          · split
            · exact walkF_cases σ p k _ _ _
            · exact Or.inr hc
    · exact Or.inl rfl
theorem lookF_cases (σ : Sc) (p w : Nat) : lookF σ p w = -1 ∨ (∃ q, q < sN σ ∧ lookF σ p w = nI q) ∨ ∃ q, q < sD σ ∧ lookF σ p w = nI (10 + q) := by
  unfold lookF
  split
  · exact Or.inl rfl
  · exact walkF_cases σ p _ _ _ _
theorem midG_off {σ : Sc} {cm : Int32 → Int32} {n f : Nat} (h : f ≠ 14) : midG σ cm n f = σ f := by
  funext i
  unfold midG
  rw [if_neg (fun q => h q.1)]
theorem midG_0 {σ : Sc} {cm : Int32 → Int32} : midG σ cm 0 = σ := by
  funext f i
  unfold midG
  rw [if_neg (fun q => absurd q.2 (by omega))]
theorem midG_succ {σ : Sc} {cm : Int32 → Int32} {n : Nat} : sup (midG σ cm n) 14 n (newK σ cm n) = midG σ cm (n + 1) := by
  funext f i
  unfold sup midG
  by_cases hf : f = 14
  · subst hf
    by_cases hi : i = n
    · subst hi
      rw [if_pos ⟨rfl, rfl⟩, if_pos ⟨rfl, by omega⟩]
    · rw [if_neg (fun q => hi q.2)]
      by_cases hl : i < n
      · rw [if_pos ⟨rfl, hl⟩, if_pos ⟨rfl, by omega⟩]
      · rw [if_neg (fun q => hl q.2), if_neg (fun q => hl (by omega))]
  · rw [if_neg (fun q => hf q.1), if_neg (fun q => hf q.1), if_neg (fun q => hf q.1)]
theorem vm_up14 {M : am_M} {i : Nat} {v : Int32} (h8 : sN (vm M) ≤ 8) (hi : i < sN (vm M)) : vm (am_up M 13 11 (24 + i) v) = sup (vm M) 14 i v := by
  have hn : ∀ j, j < (M 13 2 0).toNatClampNeg → j < 8 := fun j hj => Nat.lt_of_lt_of_le hj h8
  funext f j
  match f with
  | 0 => rfl
  | 1 => rfl
  | 2 => rfl
  | 3 => rfl
  | 4 => rfl
  | 5 => show (if _ then _ else _) = (if _ then _ else _); rw [if_neg (by omega), if_neg (by omega)]; rfl
  | 6 => show (if _ then _ else _) = (if _ then _ else _); rw [if_neg (by omega), if_neg (by omega)]; rfl
  | 7 => rfl
  | 8 => rfl
  | 9 => rfl
  | 10 => rfl
  | 11 =>
    show tr _ (fun j => am_up M 13 11 (24 + i) v 13 11 j) j = tr _ (fun j => M 13 11 j) j
    exact congrFun (tr_eq (fun q hq => up_i (by have := hn q hq; omega))) j
  | 12 =>
    show tr _ (fun j => am_up M 13 11 (24 + i) v 13 11 (8 + j)) j = tr _ (fun j => M 13 11 (8 + j)) j
    exact congrFun (tr_eq (fun q hq => up_i (by have := hn q hq; omega))) j
  | 13 =>
    show tr _ (fun j => am_up M 13 11 (24 + i) v 13 11 (16 + j)) j = tr _ (fun j => M 13 11 (16 + j)) j
    exact congrFun (tr_eq (fun q hq => up_i (by have := hn q hq; omega))) j
  | 14 =>
    show tr _ (fun j => am_up M 13 11 (24 + i) v 13 11 (24 + j)) j = if 14 = 14 ∧ j = i then v else tr (M 13 2 0).toNatClampNeg (fun j => M 13 11 (24 + j)) j
    by_cases hj : j = i
    · subst hj
      rw [if_pos ⟨rfl, rfl⟩, tr_lt (by exact hi)]
      exact up_s
    · rw [if_neg (fun q => hj q.2)]
      unfold tr
      dsimp only
      rw [up_i (o' := 13) (k' := 11) (i' := 24 + j) (by omega)]
      rfl
  | 15 => rfl
  | 16 => rfl
  | 17 => rfl
  | 18 => rfl
  | 19 => rfl
  | f + 20 => rfl
theorem vm_up5 {M : am_M} {v : Int32} (h8 : sN (vm M) ≤ 8) : vm (am_up M 13 11 33 v) = sus (vm M) 5 v := by
  have hn : ∀ j, j < (M 13 2 0).toNatClampNeg → j < 8 := fun j hj => Nat.lt_of_lt_of_le hj h8
  funext f j
  match f with
  | 0 => rfl
  | 1 => rfl
  | 2 => rfl
  | 3 => rfl
  | 4 => rfl
  | 5 => rfl
  | 6 => rfl
  | 7 => rfl
  | 8 => rfl
  | 9 => rfl
  | 10 => rfl
  | 11 =>
    show tr _ (fun j => am_up M 13 11 33 v 13 11 j) j = tr _ (fun j => M 13 11 j) j
    exact congrFun (tr_eq (fun q hq => up_i (by have := hn q hq; omega))) j
  | 12 =>
    show tr _ (fun j => am_up M 13 11 33 v 13 11 (8 + j)) j = tr _ (fun j => M 13 11 (8 + j)) j
    exact congrFun (tr_eq (fun q hq => up_i (by have := hn q hq; omega))) j
  | 13 =>
    show tr _ (fun j => am_up M 13 11 33 v 13 11 (16 + j)) j = tr _ (fun j => M 13 11 (16 + j)) j
    exact congrFun (tr_eq (fun q hq => up_i (by have := hn q hq; omega))) j
  | 14 =>
    show tr _ (fun j => am_up M 13 11 33 v 13 11 (24 + j)) j = tr _ (fun j => M 13 11 (24 + j)) j
    exact congrFun (tr_eq (fun q hq => up_i (by have := hn q hq; omega))) j
  | 15 => rfl
  | 16 => rfl
  | 17 => rfl
  | 18 => rfl
  | 19 => rfl
  | f + 20 => rfl
theorem vm_off {S : List (Nat × Nat)} {M M' : am_M} (h : eqX S M M') (hS : ∀ k, (k ≤ 12 → (13, k) ∉ S)) : vm M' = vm M := by
  have e : ∀ k, k ≤ 12 → M' 13 k = M 13 k := fun k hk => h 13 k (hS k hk)
  funext f j
  unfold vm
  rw [e 0 (by omega), e 1 (by omega), e 2 (by omega), e 3 (by omega), e 4 (by omega), e 5 (by omega), e 6 (by omega), e 7 (by omega), e 8 (by omega), e 9 (by omega), e 10 (by omega), e 11 (by omega), e 12 (by omega)]
section Pass
variable {E : Nat → Nat → Int32} {d : Nat} {Q : am_Q} {R : am_R}
theorem comes_loop {M : am_M} {q h' : Int32} (hC : M 13 7 0 = nI (sC (vm M))) (h8 : sC (vm M) ≤ 8) : ∀ (k i : Nat) (a : Int32), i + k = sC (vm M) → Q (some (aI (cmF (vm M) q h' i k a))) M R → am_WP E (am_WM E d) am_L_X7_comes Q 5 [aO 7 13, aI q, aI h', aI a, aI (nI i)] [] M R := by
  intro k
  induction k with
  | zero =>
    intro i a hi h
    refine w_X7_comes_5 ?_
    rw [hC]
    exact ⟨fun _ => h, fun q => absurd (ix_le (by omega) (by omega)) q⟩
  | succ k ih =>
    intro i a hi h
    refine w_X7_comes_5 ?_
    rw [hC, ix_cl (by omega), nI_1, Int32.or_zero]
    have e1 : vm M 18 i = M 13 9 i := tr_lt (show i < sC (vm M) by omega)
    have e2 : vm M 17 i = M 13 8 i := tr_lt (show i < sC (vm M) by omega)
    have e3 : vm M 19 i = M 13 10 i := tr_lt (show i < sC (vm M) by omega)
    unfold cmF at h
    rw [e1, e2, e3] at h
    refine ⟨fun q => absurd q (ix_ge (by omega) (by omega)), fun _ => ⟨ix_in (by omega) (by omega), fun q => ih (i + 1) _ (by omega) ?_, fun q => ⟨ix_in (by omega) (by omega), fun q2 => ih (i + 1) _ (by omega) ?_, fun q2 => ⟨ix_in (by omega) (by omega), ih (i + 1) _ (by omega) ?_⟩⟩⟩⟩
    · rw [if_neg (fun z => q z.1)] at h; exact h
    · rw [if_neg (fun z => q2 z.2)] at h; exact h
    · rw [if_pos ⟨q, q2⟩] at h; exact h
theorem m_X7_comes {M : am_M} {q : Int32} (hF : Wg (vm M)) (h : Q (some (aI (comesF (vm M) q))) M R) : am_WM E (d + 1) 132 [aO 7 13, aI q, aI (vm M 5 0)] M R Q := by
  refine w_X7_comes ?_
  exact comes_loop hF.2.2.2.2.2.1 hF.2.2.2.2.1 (sC (vm M)) 0 0 (by omega) h
theorem m_X7_takesOver {M : am_M} {p : Nat} {x : Int32} (h8 : sN (vm M) ≤ 8) (hp : p < sN (vm M)) (h : Q (some (aI (takeF (vm M) p x))) M R) : am_WM E (d + 1) 133 [aO 7 13, aI (nI p), aI x] M R Q := by
  refine w_X7_takesOver ?_
  have e : vm M 10 p = M 13 3 p := tr_lt hp
  unfold takeF at h
  rw [e] at h
  rw [ix_cl (by omega)]
  refine ⟨ix_in (by omega) (by omega), fun q => ?_, fun q => ?_⟩
  · rw [if_neg q] at h; exact h
  · rw [if_pos q] at h; exact h
/-- what comes by a door, as the reference asks it -/
def cmOk (σ : Sc) (dr th : Int32) (cm : Int32 → Int32) : Prop := ∀ q, q < sD σ → cm (nI q) = if dr < 0 then comesF σ (nI q) else if dr = nI q then 1 <<< (th &&& 31) else 0
theorem cmF_congr {σ τ : Sc} (h : ∀ f, f ≠ 14 → σ f = τ f) (q z : Int32) : ∀ k i a, cmF σ q z i k a = cmF τ q z i k a
  | 0, _, _ => rfl
  | k + 1, i, a => by
    unfold cmF
    rw [cmF_congr h q z k, h 18 (by decide), h 17 (by decide), h 19 (by decide)]
theorem comesF_congr {σ τ : Sc} (h : ∀ f, f ≠ 14 → σ f = τ f) (q : Int32) : comesF σ q = comesF τ q := by
  unfold comesF sC
  rw [cmF_congr h, h 5 (by decide), h 4 (by decide)]
theorem passBy_loop {M0 : am_M} {dr th : Int32} {cm : Int32 → Int32} (hF : Wg (vm M0)) (hcm : cmOk (vm M0) dr th cm) : ∀ (k i : Nat) (M : am_M), i + k = sN (vm M0) → eqX [(13, 11), (13, 34)] M0 M → vm M = midG (vm M0) cm i → (∀ j, j < sN (vm M0) → M 13 34 j = vm M0 14 j) → (∀ M', eqX [(13, 11), (13, 34)] M0 M' → vm M' = passG (vm M0) cm → Q none M' R) → am_WP E (am_WM E (d + 3)) am_L_X7_passBy Q 33 [aO 7 13, aI dr, aI th, aI (nI i), aU, aU] [] M R := by
  have h8 := hF.1
  have hn := hF.2.1
  intro k
  induction k with
  | zero =>
    intro i M hi hX hv ha h
    have hsN : sN (vm M) = sN (vm M0) := by rw [hv]; unfold sN; rw [midG_off (by decide)]
    refine w_X7_passBy_33 ⟨fun _ => ⟨ix_in (n := 33) (by omega) (by omega), ix_in (n := 33) (by omega) (by omega), h _ (eqX_up hX (by simp)) ?_⟩, fun q => absurd ?_ q⟩
    · show vm (am_up M 13 11 33 (vm M 5 0 + 1)) = _
      rw [vm_up5 (by omega), hv]
      have : i = sN (vm M0) := by omega
      subst this
      unfold passG
      rw [midG_off (f := 5) (by decide)]
    · rw [show M 13 2 0 = nI (sN (vm M0)) from by rw [← hn, hX 13 2 (by simp)]; rfl]
      exact ix_le (by omega) (by omega)
  | succ k ih =>
    intro i M hi hX hv ha h
    have hsN : sN (vm M) = sN (vm M0) := by rw [hv]; unfold sN; rw [midG_off (by decide)]
    have hcon : ∀ f, f ≠ 14 → vm M0 f = vm M f := fun f hf => by rw [hv, midG_off hf]
    have hFM : Wg (vm M) := Wg_congr (fun f a _ _ => hcon f a) hF
    have hlk : lk (vm M) i = lk (vm M0) i := (lk_congr (fun f a _ _ => hcon f a) i).symm
    have e2 : M 13 2 0 = nI (sN (vm M0)) := by rw [← hn, hX 13 2 (by simp)]; rfl
    have hk : ∀ x, x = learnG (vm M0) cm i → am_WP E (am_WM E (d + 3)) am_L_X7_passBy Q 131 [aO 7 13, aI dr, aI th, aI (nI i), aU, aI x] [] M R := by
      intro x ex
      refine w_X7_passBy_131 ?_
      rw [show (24 : Int32) + nI i = nI (24 + i) from nI_add 24 i, ix_cl (by omega), nI_1]
      refine ⟨ix_in (by omega) (by omega), m_X7_takesOver (by omega) (by omega) (kv ⟨ix_in (by omega) (by omega), ?_⟩)⟩
      refine ih (i + 1) _ (by omega) (eqX_up hX (by simp)) ?_ ?_ h
      · rw [vm_up14 (by omega) (by omega)]
        have e14 : M 13 11 (24 + i) = vm M 14 i := (tr_lt (f := fun j => M 13 11 (24 + j)) (show i < sN (vm M) by omega)).symm
        rw [e14, ← midG_succ, hv]
        congr 1
        unfold newK takeF
        rw [midG_off (f := 10) (by decide), ex]
        unfold midG
        rw [if_neg (fun q => absurd q.2 (by omega))]
      · intro j hj
        rw [am_up_off 13 34 (by decide)]
        exact ha j hj
    refine w_X7_passBy_33 ?_
    rw [e2]
    refine ⟨fun q => absurd q (ix_ge (by omega) (by omega)), fun _ => m_X7_looksAt hFM (by omega) (kv ?_)⟩
    rw [hlk]
    unfold learnG at hk
    rcases lookF_cases (vm M0) i (vm M0 13 i).toNatClampNeg with e | ⟨q, hq, e⟩ | ⟨q, hq, e⟩
    · have e : lk (vm M0) i = -1 := e
      rw [e] at hk ⊢
      exact ⟨fun _ => ⟨fun _ => hk 0 (by rw [if_neg (by decide), if_pos (by decide)]), fun a => absurd (by decide) a⟩, fun a => absurd (by decide) a⟩
    · have e : lk (vm M0) i = nI q := e
      rw [e] at hk ⊢
      have hlt : nI q < 10 := nI_lt (b := 10) (by omega) (by omega)
      have hpos : ¬ nI q < 0 := ix_lt (by omega)
      have e10 : vm M0 10 q = M 13 3 q := by rw [hcon 10 (by decide)]; exact tr_lt (show q < sN (vm M) by omega)
      rw [if_neg (by simpa using hlt), if_neg hpos, ix_cl (by omega), e10] at hk
      rw [ix_cl (by omega)]
      refine ⟨fun _ => ⟨fun a => absurd a hpos, fun _ => ⟨ix_in (by omega) (by omega), fun a => ⟨ix_in (by omega) (by omega), ?_⟩, fun a => ?_⟩⟩, fun a => absurd hlt a⟩
      · exact hk _ (by rw [if_neg a, ha q hq])
      · exact hk _ (by rw [if_pos a])
    · have e : lk (vm M0) i = nI (10 + q) := e
      rw [e] at hk ⊢
      have h4 := hF.2.2.1
      have hge : ¬ nI (10 + q) < 10 := nI_nlt (b := 10) (by omega) (by omega)
      have es : nI (10 + q) - 10 = nI q := by rw [show nI (10 + q) - 10 = nI (10 + q - 10) from pk_sub (b := 10) (by omega)]; congr 1; omega
      rw [if_pos hge, es, hcm q hq] at hk
      rw [es]
      refine ⟨fun a => absurd a hge, fun _ => ⟨fun a => ⟨fun b => hk _ ?_, fun b => hk _ ?_⟩, fun a => ⟨ix_in (n := 33) (by omega) (by omega), m_X7_comes hFM (kv (hk _ ?_))⟩⟩⟩
      · rw [if_neg (by rw [Int32.not_lt]; exact a), if_neg b]
      · rw [if_neg (by rw [Int32.not_lt]; exact a), if_pos b]
      · rw [if_pos (by rw [Int32.not_le] at a; exact a)]
        exact (comesF_congr hcon (nI q)).symm
theorem ahead_loop {M0 : am_M} {dr th : Int32} (hF : Wg (vm M0)) : ∀ (k i : Nat) (M : am_M), i + k = sN (vm M0) → eqX [(13, 34)] M0 M → (∀ j, j < i → M 13 34 j = vm M0 14 j) → (∀ M', eqX [(13, 34)] M0 M' → (∀ j, j < sN (vm M0) → M' 13 34 j = vm M0 14 j) → am_WP E (am_WM E d) am_L_X7_passBy Q 33 [aO 7 13, aI dr, aI th, aI 0, aU, aU] [] M' R) → am_WP E (am_WM E d) am_L_X7_passBy Q 2 [aO 7 13, aI dr, aI th, aI (nI i), aU, aU] [] M R := by
  have h8 := hF.1
  have hn := hF.2.1
  intro k
  induction k with
  | zero =>
    intro i M hi hX ha h
    refine w_X7_passBy_2 ?_
    rw [show M 13 2 0 = nI (sN (vm M0)) from by rw [← hn, hX 13 2 (by simp)]; rfl]
    exact ⟨fun _ => h M hX (fun j hj => ha j (by omega)), fun q => absurd (ix_le (by omega) (by omega)) q⟩
  | succ k ih =>
    intro i M hi hX ha h
    refine w_X7_passBy_2 ?_
    rw [show M 13 2 0 = nI (sN (vm M0)) from by rw [← hn, hX 13 2 (by simp)]; rfl, show (24 : Int32) + nI i = nI (24 + i) from nI_add 24 i, ix_cl (by omega), ix_cl (by omega), nI_1]
    refine ⟨fun q => absurd q (ix_ge (by omega) (by omega)), fun _ => ⟨ix_in (by omega) (by omega), ix_in (by omega) (by omega), ih (i + 1) _ (by omega) (eqX_up hX (by simp)) ?_ h⟩⟩
    intro j hj
    by_cases e : j = i
    · subst e
      rw [up_s, hX 13 11 (by simp)]
      exact (tr_lt (f := fun j => M0 13 11 (24 + j)) (show j < sN (vm M0) by omega)).symm
    · rw [up_i e]
      exact ha j (by omega)
theorem m_X7_passBy {M : am_M} {dr th : Int32} {cm : Int32 → Int32} (hF : Wg (vm M)) (hcm : cmOk (vm M) dr th cm) (h : ∀ M', eqX [(13, 11), (13, 34)] M M' → vm M' = passG (vm M) cm → Q none M' R) : am_WM E (d + 4) 134 [aO 7 13, aI dr, aI th] M R Q := by
  refine w_X7_passBy ?_
  refine ahead_loop hF (sN (vm M)) 0 M (by omega) eqX_rfl (fun j hj => absurd hj (by omega)) (fun M' hX ha => ?_)
  have hv : vm M' = vm M := vm_off hX (fun k hk => by simp; omega)
  refine passBy_loop hF hcm (sN (vm M)) 0 M' (by omega) (eqX_sub hX (by simp)) (by rw [hv, midG_0]) ha h
theorem m_X7_pass {M : am_M} (hF : Wg (vm M)) (h : ∀ M', eqX [(13, 11), (13, 34)] M M' → vm M' = passF (vm M) → Q none M' R) : am_WM E (d + 5) 135 [aO 7 13] M R Q := by
  refine w_X7_pass ?_
  refine m_X7_passBy hF (cm := comesF (vm M)) (fun q hq => by rw [if_pos (by decide)]) (fun M' h1 h2 => ⟨rfl, h M' h1 h2⟩)
end Pass
