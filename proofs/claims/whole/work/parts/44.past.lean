/-! the past gone through once more: pure -/
def lkf (f : Nat) : Bool := match f with
  | 0 => true | 1 => true | 2 => true | 3 => true | 6 => true | 10 => true | 11 => true | 12 => true | 13 => true | 15 => true | 16 => true
  | _ => false
theorem onF_c2 {σ τ : Sc} (h : ∀ f, lkf f = true → σ f = τ f) : onF σ = onF τ := by
  funext x y
  unfold onF sN sD
  rw [h 2 rfl, h 3 rfl, h 11 rfl, h 12 rfl, h 15 rfl, h 16 rfl]
theorem walkF_c2 {σ τ : Sc} (h : ∀ f, lkf f = true → σ f = τ f) (p : Nat) : ∀ (k w : Nat) (x y : Int32), walkF σ p k w x y = walkF τ p k w x y
  | 0, _, _, _ => rfl
  | k + 1, w, x, y => by
    unfold walkF
    rw [onF_c2 h, walkF_c2 h p k w, walkF_c2 h p k ((w + 1) % 4), h 6 rfl, h 10 rfl]
    simp only [cellP, h 0 rfl, h 1 rfl]
theorem lk_c2 {σ τ : Sc} (h : ∀ f, lkf f = true → σ f = τ f) (p : Nat) : lk σ p = lk τ p := by
  unfold lk lookF
  rw [walkF_c2 h, h 13 rfl]
  simp only [blindP, h 6 rfl, h 10 rfl, h 11 rfl, h 12 rfl]
theorem src_c2 {σ τ : Sc} (h : ∀ f, lkf f = true → σ f = τ f) (p : Nat) : srcF σ p = srcF τ p := by
  unfold srcF
  rw [lk_c2 h, h 10 rfl]
theorem open_c2 {σ τ : Sc} (h : ∀ f, lkf f = true → σ f = τ f) (p : Nat) : openF σ p = openF τ p := by
  unfold openF
  simp only [blindP, h 6 rfl, h 10 rfl]
/-- one thing comes once, at hour 0, by one door; nobody knows anything -/
def pst (σ : Sc) (q t : Nat) : Sc := fun f i => match f with
  | 4 => 1
  | 5 => 0
  | 14 => 0
  | 17 => 0
  | 18 => nI q
  | 19 => nI t
  | f => σ f i
theorem pst_lk {σ : Sc} {q t : Nat} : ∀ f, lkf f = true → pst σ q t f = σ f := by
  intro f hf
  funext i
  unfold lkf at hf
  split at hf <;> first | rfl | cases hf
theorem pst_sN {σ : Sc} {q t : Nat} : sN (pst σ q t) = sN σ := rfl
theorem pst_sD {σ : Sc} {q t : Nat} : sD (pst σ q t) = sD σ := rfl
theorem pst_sC {σ : Sc} {q t : Nat} : sC (pst σ q t) = 1 := rfl
theorem pst_wf {σ : Sc} {q t : Nat} (hF : Wf σ) (hq : q < sD σ) (ht : t < 8) : Wf (pst σ q t) := by
  obtain ⟨⟨a1, a2, a3, a4, -, -, a7, a8, a9⟩, b2, b3, b4, b5, b6⟩ := hF
  refine ⟨⟨a1, a2, a3, a4, ?_, rfl, a7, a8, a9⟩, ?_, b3, ⟨0, by omega, rfl⟩, b5, ?_⟩
  · rw [pst_sC]; omega
  · intro p hp
    obtain ⟨c1, c2, c3, -⟩ := b2 p hp
    exact ⟨c1, c2, c3, ⟨0, by omega, rfl⟩⟩
  · intro i hi
    exact ⟨⟨0, by omega, rfl⟩, ⟨q, hq, rfl⟩, ⟨t, ht, rfl⟩⟩
theorem pst_comes {σ : Sc} {q t k q2 : Nat} (hk : k ≤ 1000) (hq : q < 4) (hq2 : q2 < 4) : comesF (pN (pst σ q t) k) (nI q2) = if q2 = q ∧ k = 0 then 1 <<< (nI t &&& 31) else 0 := by
  unfold comesF
  rw [pN_sC, pst_sC, pN_5 (h := 0) rfl]
  show (if pN (pst σ q t) k 18 0 = nI q2 ∧ pN (pst σ q t) k 17 0 = nI (0 + k) then (0 : Int32) ||| (1 <<< (pN (pst σ q t) k 19 0 &&& 31)) else 0) = _
  rw [pN_off (f := 18) (by decide) (by decide), pN_off (f := 17) (by decide) (by decide), pN_off (f := 19) (by decide) (by decide)]
  show (if nI q = nI q2 ∧ nI 0 = nI (0 + k) then (0 : Int32) ||| (1 <<< (nI t &&& 31)) else 0) = _
  rw [Int32.zero_or]
  have e1 : nI q = nI q2 ↔ q = q2 := ix_eq (by omega) (by omega)
  have e2 : nI 0 = nI (0 + k) ↔ 0 = 0 + k := ix_eq (by omega) (by omega)
  by_cases e : q2 = q ∧ k = 0
  · rw [if_pos e, if_pos ⟨e1.mpr e.1.symm, e2.mpr (by omega)⟩]
  · rw [if_neg e, if_neg (fun z => e ⟨(e1.mp z.1).symm, by have := e2.mp z.2; omega⟩)]
/-- two scenes in which the same is told on -/
def agr (σ τ : Sc) : Prop := (∀ f, lkf f = true → σ f = τ f) ∧ ∀ p, p < sN σ → σ 14 p = τ 14 p
theorem agr_pass {σ τ : Sc} {cm : Int32 → Int32} (h8 : sN σ ≤ 8) (h4 : sD σ ≤ 4) (h : agr σ τ) : agr (passG σ cm) (passG τ cm) := by
  have eN : sN τ = sN σ := by unfold sN; rw [h.1 2 rfl]
  have hoff : ∀ {ρ : Sc} f, lkf f = true → passG ρ cm f = ρ f := fun f hf => passG_off (fun z => by rw [z] at hf; cases hf) (fun z => by rw [z] at hf; cases hf)
  have eN2 : sN (passG σ cm) = sN σ := by unfold sN; rw [hoff 2 rfl]
  refine ⟨fun f hf => by rw [hoff f hf, hoff f hf, h.1 f hf], fun p hp => ?_⟩
  rw [eN2] at hp
  rw [passG_14 hp, passG_14 (by rw [eN]; exact hp)]
  unfold newK takeF
  rw [h.2 p hp, h.1 10 rfl]
  have el : learnG σ cm p = learnG τ cm p := by
    unfold learnG
    rw [← lk_c2 h.1 p, ← h.1 10 rfl]
    rcases lookF_cases σ p (σ 13 p).toNatClampNeg with e | ⟨q, hq, e⟩ | ⟨q, hq, e⟩
    · have e : lk σ p = -1 := e
      rw [e, if_neg (c := ¬ (-1 : Int32) < 10) (by decide), if_pos (c := (-1 : Int32) < 0) (by decide), if_neg (c := ¬ (-1 : Int32) < 10) (by decide), if_pos (c := (-1 : Int32) < 0) (by decide)]
    · have e : lk σ p = nI q := e
      rw [e, ix_cl (by omega), h.2 q hq]
    · have e : lk σ p = nI (10 + q) := e
      have hge : ¬ nI (10 + q) < 10 := nI_nlt (b := 10) (by omega) (by omega)
      rw [e, if_pos hge, if_pos hge]
  rw [el]
/-- the door at which the chain of looks ends, and how many are between -/
def dcF (σ : Sc) (t : Nat) : Nat → Nat → Option (Nat × Nat)
  | 0, _ => none
  | f + 1, p => if bt (openF σ p) t = true then (if srcF σ p < 0 then none else if srcF σ p < 10 then (dcF σ t f (srcF σ p).toNatClampNeg).map (fun x => (x.1 + 1, x.2)) else some (0, (srcF σ p).toNatClampNeg - 10)) else none
theorem dcF_bd {σ : Sc} {t : Nat} (h4 : sD σ ≤ 4) (h8 : sN σ ≤ 8) : ∀ (f p l q : Nat), dcF σ t f p = some (l, q) → l < f ∧ q < sD σ
  | 0, _, _, _, h => by cases h
  | f + 1, p, l, q, h => by
    unfold dcF at h
    split at h
    · split at h
      · cases h
      · split at h
        · cases hv : dcF σ t f (srcF σ p).toNatClampNeg with
          | none => rw [hv] at h; cases h
          | some x =>
            rw [hv] at h
            obtain ⟨a, b⟩ := x
            have := dcF_bd h4 h8 f _ a b hv
            cases h
            exact ⟨by omega, this.2⟩
        · next h1 h2 =>
          cases h
          rcases srcF_cases σ p h8 h4 with e | ⟨q, hq, e, -⟩ | ⟨q, hq, e, -⟩
          · rw [e] at h1; exact absurd (by decide) h1
          · rw [e] at h2; exact absurd (nI_lt (b := 10) (by omega) (by omega)) h2
          · rw [e, ix_cl (by omega)]; omega
    · cases h
theorem pst_fh {σ : Sc} {q t q2 : Nat} (hq : q < 4) (hq2 : q2 < 4) : fhO (pst σ q t) q2 t 0 = if q2 = q then some 0 else none := by
  have hc : ∀ j, j < 31 → cB (pst σ q t) q2 t (0 + j) = decide (q2 = q ∧ j = 0) := fun j hj => by
    rw [Bool.eq_iff_iff, cB_iff, decide_eq_true_iff]
    show (∃ j', j' < 1 ∧ nI q = nI q2 ∧ nI 0 = nI (0 + j) ∧ nI t = nI t) ↔ _
    rw [ix_eq (by omega) (by omega), ix_eq (by omega) (by omega)]
    constructor
    · rintro ⟨-, -, e1, e2, -⟩; exact ⟨e1.symm, by omega⟩
    · rintro ⟨e1, e2⟩; exact ⟨0, by omega, e1.symm, by omega, rfl⟩
  unfold fhO
  by_cases e : q2 = q
  · rw [if_pos e]
    refine sF_mk ?_ (Nat.le_refl _) (by omega) (fun j a b => absurd b (by omega))
    rw [hc 0 (by omega)]
    exact decide_eq_true ⟨e, rfl⟩
  · rw [if_neg e]
    refine sF_mkn (fun j _ hj => ?_)
    rw [hc j (by omega)]
    exact decide_eq_false (fun z => e z.1)
theorem pst_u {σ : Sc} {q t : Nat} (h4 : sD σ ≤ 4) (h8 : sN σ ≤ 8) (hq : q < 4) (ht : t < 8) : ∀ (f p : Nat), uF (pst σ q t) t 0 f p = match dcF σ t f p with | some (l, q2) => if q2 = q then some (l + 1) else none | none => none
  | 0, _ => rfl
  | f + 1, p => by
    unfold uF dcF
    rw [if_neg (by show ¬ bt 0 t = true; rw [bt_0 (by omega)]; decide), open_c2 pst_lk, src_c2 pst_lk]
    by_cases ho : bt (openF σ p) t = true
    · rw [if_pos ho, if_pos ho]
      rcases srcF_cases σ p h8 h4 with e | ⟨q2, hq2, e, -⟩ | ⟨q2, hq2, e, -⟩
      · rw [e, if_pos (by decide), if_pos (by decide)]
      · have hlt : nI q2 < 10 := nI_lt (b := 10) (by omega) (by omega)
        have hpos : ¬ nI q2 < 0 := ix_lt (by omega)
        rw [e, if_neg hpos, if_pos hlt, if_neg hpos, if_pos hlt, pst_u h4 h8 hq ht f]
        cases dcF σ t f (nI q2).toNatClampNeg with
        | none => rfl
        | some x =>
          obtain ⟨l, q3⟩ := x
          show Option.map _ (if q3 = q then some (l + 1) else none) = if q3 = q then some (l + 1 + 1) else none
          split
          · rfl
          · rfl
      · have hge : ¬ nI (10 + q2) < 10 := nI_nlt (b := 10) (by omega) (by omega)
        have hpos : ¬ nI (10 + q2) < 0 := ix_lt (by omega)
        rw [e, if_neg hpos, if_neg hge, if_neg hpos, if_neg hge, ix_cl (by omega), show 10 + q2 - 10 = q2 from by omega, pst_fh hq (by omega)]
        show Option.map _ (if q2 = q then some 0 else none) = if q2 = q then some (0 + 1) else none
        split
        · rfl
        · rfl
    · rw [if_neg ho, if_neg ho]
/-- who knows it now, if it came by a door at an hour -/
def knB (σ : Sc) (t H q z p : Nat) : Bool := match dcF σ t 8 p with
  | some (l, q2) => decide (q2 = q) && decide (z + 1 + l ≤ H)
  | none => false
theorem pst_kn {σ : Sc} {q t H z p : Nat} (hF : Wf σ) (hq : q < sD σ) (ht : t < 8) (hp : p < sN σ) (hz : z < H) {k : Nat} (hk : k = min (H - z) 10) : kn (pst σ q t) t k p = knB σ t H q z p := by
  have h8 := hF.1.1
  have h4 := hF.1.2.2.1
  have hw := pst_wf hF hq ht
  rw [Bool.eq_iff_iff, kn_iff hw (h := 0) rfl ht (by rw [pst_sN]; exact hp) (by omega)]
  have e9 : ∀ u, uF (pst σ q t) t 0 9 p = some u ↔ uF (pst σ q t) t 0 8 p = some u := fun u => ⟨fun e => uF_9 hw.1.1 hw.1.2.2.1 hp 9 e, fun e => uF_succ 8 p u e⟩
  unfold knB
  cases hd : dcF σ t 8 p with
  | none =>
    dsimp only
    constructor
    · rintro ⟨u, hu, -⟩
      rw [e9, pst_u h4 h8 (by omega) ht, hd] at hu
      cases hu
    · intro h; cases h
  | some x =>
    obtain ⟨l, q2⟩ := x
    have hb := dcF_bd h4 h8 8 p l q2 hd
    dsimp only
    rw [Bool.and_eq_true, decide_eq_true_iff, decide_eq_true_iff]
    constructor
    · rintro ⟨u, hu, hle⟩
      rw [e9, pst_u h4 h8 (by omega) ht, hd] at hu
      dsimp only at hu
      split at hu
      · next e => cases hu; exact ⟨e, by omega⟩
      · cases hu
    · rintro ⟨e, hle⟩
      refine ⟨l + 1, ?_, by omega⟩
      rw [e9, pst_u h4 h8 (by omega) ht, hd]
      dsimp only
      rw [if_pos e]
/-- the set of those for which f holds -/
def bsN (f : Nat → Bool) : Nat → Nat
  | 0 => 0
  | n + 1 => if f n = true then bsN f n ||| 2 ^ n else bsN f n
theorem bsN_ok {f : Nat → Bool} : ∀ n, bsI f n (bsN f n)
  | 0 => bsI_0
  | n + 1 => by
    unfold bsN
    split
    · next h => exact bsI_t (bsN_ok n) h
    · next h => exact bsI_f (bsN_ok n) (Bool.eq_false_iff.mpr h)
theorem bsN_eq {f : Nat → Bool} {n z : Nat} (h : bsI f n z) : z = bsN f n := bsI_one h (bsN_ok n)
theorem bsI_congr {f g : Nat → Bool} {n z : Nat} (e : ∀ i, i < n → f i = g i) (h : bsI f n z) : bsI g n z := ⟨h.1, fun t ht => by rw [h.2 t ht, e t ht]⟩
