/-! the text: one pure reader -/
def ltF (n : Nat) (L : Nat → Int32) (a : Nat) : Int32 := if a < n then L a else -1
def skF (L : Nat → Int32) : Nat → Nat → Nat
  | 0, a => a
  | k + 1, a => if L a = 32 then skF L k (a + 1) else a
def skp (n : Nat) (L : Nat → Int32) (a : Nat) : Nat := skF L (n - a) a
def figB (x : Int32) : Bool := decide (¬ x < 48 ∧ ¬ 57 < x)
def fgF (L : Nat → Int32) : Nat → Nat → Nat → Nat → Nat × Nat × Nat
  | 0, a, v, c => (a, v, c)
  | k + 1, a, v, c => if figB (L a) = true then fgF L k (a + 1) (if c < 3 then v * 10 + ((L a).toNatClampNeg - 48) else v) (c + 1) else (a, v, c)
abbrev Flt : Type := Nat × Nat
def NU (n : Nat) (L : Nat → Int32) (lo hi : Int32) (a : Nat) : Flt ⊕ (Nat × Nat × Nat) :=
  if figB (ltF n L (skp n L a)) = true then
    (if 3 < (fgF L (n - skp n L a) (skp n L a) 0 0).2.2 ∨ nI (fgF L (n - skp n L a) (skp n L a) 0 0).2.1 < lo ∨ ¬ nI (fgF L (n - skp n L a) (skp n L a) 0 0).2.1 ≤ hi then Sum.inl (2, skp n L a)
    else Sum.inr ((fgF L (n - skp n L a) (skp n L a) 0 0).2.1, skp n L a, (fgF L (n - skp n L a) (skp n L a) 0 0).1))
  else Sum.inl (1, skp n L a)
def EN (n : Nat) (L : Nat → Int32) (a : Nat) : Flt ⊕ Nat := if ltF n L (skp n L a) = 59 then Sum.inr (skp n L a + 1) else Sum.inl (1, skp n L a)
def rwS (ρ : Sc) (w h : Nat) : Sc := sus (sus ρ 0 (nI w)) 1 (nI h)
def rpS (ρ : Sc) (k x y w : Nat) : Sc := fun f j => match f with
  | 2 => nI (sN ρ + 1)
  | 10 => if j = sN ρ then nI k else ρ 10 j
  | 11 => if j = sN ρ then nI x else ρ 11 j
  | 12 => if j = sN ρ then nI y else ρ 12 j
  | 13 => if j = sN ρ then nI w else ρ 13 j
  | 14 => if j = sN ρ then 0 else ρ 14 j
  | f => ρ f j
def rdS (ρ : Sc) (x y : Nat) : Sc := fun f j => match f with
  | 3 => nI (sD ρ + 1)
  | 15 => if j = sD ρ then nI x else ρ 15 j
  | 16 => if j = sD ρ then nI y else ρ 16 j
  | f => ρ f j
def reS (ρ : Sc) (h q t : Nat) : Sc := fun f j => match f with
  | 4 => nI (sC ρ + 1)
  | 17 => if j = sC ρ then nI h else ρ 17 j
  | 18 => if j = sC ρ then nI q else ρ 18 j
  | 19 => if j = sC ρ then nI t else ρ 19 j
  | f => ρ f j
def rsS (ρ : Sc) (p t : Nat) : Sc := sus (sup ρ 14 p (ρ 14 p ||| nI (2 ^ t))) 20 (ρ 20 0 + 1)
abbrev Out : Type := Flt ⊕ (Sc × Nat)
def fin (n : Nat) (L : Nat → Int32) (ρ : Sc) (a : Nat) : Out := match EN n L a with
  | Sum.inl x => Sum.inl x
  | Sum.inr e => Sum.inr (ρ, e)
def clW (n : Nat) (L : Nat → Int32) (ρ : Sc) (a : Nat) : Out := match NU n L 1 7 a with
  | Sum.inl x => Sum.inl x
  | Sum.inr (w, _, e1) => match NU n L 1 7 e1 with
    | Sum.inl x => Sum.inl x
    | Sum.inr (h, _, e2) => fin n L (rwS ρ w h) e2
def clP (n : Nat) (L : Nat → Int32) (ρ : Sc) (a : Nat) : Out := match NU n L 0 5 a with
  | Sum.inl x => Sum.inl x
  | Sum.inr (k, _, e1) => match NU n L 0 (ρ 0 0 - 1) e1 with
    | Sum.inl x => Sum.inl x
    | Sum.inr (x, _, e2) => match NU n L 0 (ρ 1 0 - 1) e2 with
      | Sum.inl x => Sum.inl x
      | Sum.inr (y, s, e3) => if onF ρ (nI x) (nI y) = -1 then (match NU n L 0 3 e3 with
        | Sum.inl x => Sum.inl x
        | Sum.inr (w, _, e4) => fin n L (rpS ρ k x y w) e4) else Sum.inl (4, s)
def clD (n : Nat) (L : Nat → Int32) (ρ : Sc) (a : Nat) : Out := match NU n L 0 (ρ 0 0 - 1) a with
  | Sum.inl x => Sum.inl x
  | Sum.inr (x, _, e2) => match NU n L 0 (ρ 1 0 - 1) e2 with
    | Sum.inl x => Sum.inl x
    | Sum.inr (y, s, e3) => if onF ρ (nI x) (nI y) = -1 then fin n L (rdS ρ x y) e3 else Sum.inl (4, s)
def clE (n : Nat) (L : Nat → Int32) (ρ : Sc) (a : Nat) : Out := match NU n L 0 30 a with
  | Sum.inl x => Sum.inl x
  | Sum.inr (h, _, e2) => match NU n L 0 (ρ 3 0 - 1) e2 with
    | Sum.inl x => Sum.inl x
    | Sum.inr (q, _, e3) => match NU n L 0 7 e3 with
      | Sum.inl x => Sum.inl x
      | Sum.inr (t, _, e4) => fin n L (reS ρ h q t) e4
def clS (n : Nat) (L : Nat → Int32) (ρ : Sc) (a : Nat) : Out := match NU n L 0 (ρ 2 0 - 1) a with
  | Sum.inl x => Sum.inl x
  | Sum.inr (p, s, e2) => if blindP ρ p then Sum.inl (4, s) else match NU n L 0 7 e2 with
    | Sum.inl x => Sum.inl x
    | Sum.inr (t, s2, e3) => if bt (ρ 14 p) t = true then Sum.inl (4, s2) else fin n L (rsS ρ p t) e3
def CL (n : Nat) (L : Nat → Int32) (ρ : Sc) (a : Nat) : Out :=
  if ltF n L a = 119 then (if ρ 0 0 = 0 then clW n L ρ (a + 1) else Sum.inl (3, a))
  else if ltF n L a = 112 then (if ρ 0 0 = 0 then Sum.inl (1, a) else if sN ρ = 8 then Sum.inl (3, a) else clP n L ρ (a + 1))
  else if ltF n L a = 100 then (if ρ 0 0 = 0 then Sum.inl (1, a) else if sD ρ = 4 then Sum.inl (3, a) else clD n L ρ (a + 1))
  else if ltF n L a = 101 then (if ρ 0 0 = 0 then Sum.inl (1, a) else if sC ρ = 8 then Sum.inl (3, a) else clE n L ρ (a + 1))
  else if ltF n L a = 115 then (if ρ 0 0 = 0 then Sum.inl (1, a) else if ρ 20 0 = 8 then Sum.inl (3, a) else clS n L ρ (a + 1))
  else Sum.inl (1, a)
def PL (n : Nat) (L : Nat → Int32) : Nat → Sc → Nat → Flt ⊕ Sc
  | 0, ρ, _ => Sum.inr ρ
  | k + 1, ρ, a => if a < n then (match CL n L ρ a with
    | Sum.inl x => Sum.inl x
    | Sum.inr (ρ', a') => PL n L k ρ' (skp n L a')) else Sum.inr ρ
theorem skF_le {L : Nat → Int32} : ∀ (k a : Nat), a ≤ skF L k a ∧ skF L k a ≤ a + k
  | 0, a => ⟨Nat.le_refl _, Nat.le_refl _⟩
  | k + 1, a => by
    unfold skF
    split
    · have := skF_le (L := L) k (a + 1)
      omega
    · omega
theorem skp_le {n : Nat} {L : Nat → Int32} {a : Nat} (h : a ≤ n) : a ≤ skp n L a ∧ skp n L a ≤ n := by
  have := skF_le (L := L) (n - a) a
  unfold skp
  omega
theorem skF_stop {L : Nat → Int32} : ∀ (k a : Nat), skF L k a = a + k ∨ ¬ L (skF L k a) = 32
  | 0, a => Or.inl rfl
  | k + 1, a => by
    unfold skF
    split
    · rcases skF_stop (L := L) k (a + 1) with h | h
      · exact Or.inl (by omega)
      · exact Or.inr h
    · next h => exact Or.inr h
theorem skp_id {n : Nat} {L : Nat → Int32} {a : Nat} (h : a ≤ n) : skp n L (skp n L a) = skp n L a := by
  have h1 := skp_le (L := L) h
  rcases skF_stop (L := L) (n - a) a with e | e
  · have : skp n L a = n := by unfold skp; omega
    rw [this]
    unfold skp
    rw [Nat.sub_self]
    rfl
  · have e : ¬ L (skp n L a) = 32 := e
    generalize skp n L a = s at *
    unfold skp
    cases n - s with
    | zero => rfl
    | succ k => unfold skF; rw [if_neg e]
theorem skp_step {n : Nat} {L : Nat → Int32} {a : Nat} (h : a < n) (e : L a = 32) : skp n L a = skp n L (a + 1) := by
  unfold skp
  rw [show n - a = (n - (a + 1)) + 1 from by omega, skF, if_pos e]
theorem skp_stop {n : Nat} {L : Nat → Int32} {a : Nat} (h : a < n) (e : ¬ L a = 32) : skp n L a = a := by
  unfold skp
  rw [show n - a = (n - (a + 1)) + 1 from by omega, skF, if_neg e]
theorem skp_end {n : Nat} {L : Nat → Int32} {a : Nat} (h : n ≤ a) : skp n L a = a := by
  unfold skp
  rw [show n - a = 0 from by omega]
  rfl
theorem fgF_le {L : Nat → Int32} : ∀ (k a v c : Nat), a ≤ (fgF L k a v c).1 ∧ (fgF L k a v c).1 ≤ a + k ∧ (fgF L k a v c).2.2 = c + ((fgF L k a v c).1 - a)
  | 0, a, v, c => ⟨Nat.le_refl _, Nat.le_refl _, by show c = c + (a - a); omega⟩
  | k + 1, a, v, c => by
    unfold fgF
    split
    · have := fgF_le (L := L) k (a + 1) (if c < 3 then v * 10 + ((L a).toNatClampNeg - 48) else v) (c + 1)
      omega
    · show a ≤ a ∧ a ≤ a + (k + 1) ∧ c = c + (a - a)
      omega
theorem fig_nI {x : Int32} (h : figB x = true) : ∃ g, g < 10 ∧ x = nI (48 + g) ∧ x.toNatClampNeg - 48 = g := by
  have h1 := of_decide_eq_true h
  have a1 : ¬ x < nI 48 := h1.1
  have a2 : ¬ nI 57 < x := h1.2
  rcases ix_of (x := x) (n := 58) (by omega) with ⟨q, hq, e⟩ | ⟨h2, -⟩
  · rw [e, nI_ltI (by omega) (by omega)] at a1
    exact ⟨q - 48, by omega, by rw [e]; congr 1; omega, by rw [e, ix_cl (by omega)]⟩
  · exfalso
    rcases h2 with h2 | h2
    · exact a1 (Int32.lt_trans h2 (by decide))
    · exact a2 (Int32.lt_of_lt_of_le (by decide) h2)
theorem fgF_bd {L : Nat → Int32} : ∀ (k a v c : Nat), v < 10 ^ min c 3 → (fgF L k a v c).2.1 < 10 ^ min (fgF L k a v c).2.2 3
  | 0, a, v, c, h => h
  | k + 1, a, v, c, h => by
    unfold fgF
    split
    · next hf =>
      refine fgF_bd k (a + 1) _ (c + 1) ?_
      obtain ⟨g, hg, -, eg⟩ := fig_nI hf
      rw [eg]
      by_cases hc : c < 3
      · rw [if_pos hc, show min (c + 1) 3 = min c 3 + 1 from by omega, Nat.pow_succ]
        omega
      · rw [if_neg hc, show min (c + 1) 3 = min c 3 from by omega]
        exact h
    · exact h
theorem fg_999 {L : Nat → Int32} {k a : Nat} : (fgF L k a 0 0).2.1 < 1000 := by
  have := fgF_bd (L := L) k a 0 0 (by decide)
  have h2 : (10 : Nat) ^ min (fgF L k a 0 0).2.2 3 ≤ 10 ^ 3 := Nat.pow_le_pow_right (by decide) (by omega)
  omega
theorem NU_inr {n : Nat} {L : Nat → Int32} {lo hi : Int32} {a v s e : Nat} (ha : a ≤ n) (h : NU n L lo hi a = Sum.inr (v, s, e)) : v < 1000 ∧ ¬ nI v < lo ∧ nI v ≤ hi ∧ s = skp n L a ∧ a ≤ s ∧ s < e ∧ e ≤ n := by
  unfold NU at h
  split at h
  · next hf =>
    split at h
    · cases h
    · next hb =>
      cases h
      have h1 := skp_le (L := L) ha
      have hlt : skp n L a < n := by
        unfold ltF at hf
        split at hf
        · next q => exact q
        · cases hf
      have h2 := fgF_le (L := L) (n - skp n L a) (skp n L a) 0 0
      have hl : ltF n L (skp n L a) = L (skp n L a) := by unfold ltF; rw [if_pos hlt]
      rw [hl] at hf
      have h3 : skp n L a < (fgF L (n - skp n L a) (skp n L a) 0 0).1 := by
        rw [show n - skp n L a = (n - skp n L a - 1) + 1 from by omega]
        unfold fgF
        rw [if_pos hf]
        have := fgF_le (L := L) (n - skp n L a - 1) (skp n L a + 1) (if 0 < 3 then 0 * 10 + ((L (skp n L a)).toNatClampNeg - 48) else 0) (0 + 1)
        omega
      exact ⟨fg_999, fun q => hb (Or.inr (Or.inl q)), Classical.not_not.mp (fun q => hb (Or.inr (Or.inr q))), rfl, h1.1, h3, by omega⟩
  · cases h
theorem NU_inl {n : Nat} {L : Nat → Int32} {lo hi : Int32} {a f p : Nat} (ha : a ≤ n) (h : NU n L lo hi a = Sum.inl (f, p)) : 1 ≤ f ∧ f ≤ 4 ∧ p ≤ n := by
  have h1 := skp_le (L := L) ha
  unfold NU at h
  split at h
  · split at h
    · cases h; omega
    · cases h
  · cases h; omega
theorem EN_inr {n : Nat} {L : Nat → Int32} {a e : Nat} (ha : a ≤ n) (h : EN n L a = Sum.inr e) : a < e ∧ e ≤ n := by
  have h1 := skp_le (L := L) ha
  unfold EN at h
  split at h
  · next q =>
    cases h
    have hlt : skp n L a < n := by
      unfold ltF at q
      split at q
      · next z => exact z
      · exact absurd q (by decide)
    omega
  · cases h
theorem EN_inl {n : Nat} {L : Nat → Int32} {a f p : Nat} (ha : a ≤ n) (h : EN n L a = Sum.inl (f, p)) : 1 ≤ f ∧ f ≤ 4 ∧ p ≤ n := by
  have h1 := skp_le (L := L) ha
  unfold EN at h
  split at h
  · cases h
  · cases h; omega
/-- what the reader has built so far -/
def PW (ρ : Sc) : Prop := Wf ρ ∧ (∃ k, k ≤ 8 ∧ ρ 20 0 = nI k) ∧ ρ 5 0 = 0 ∧ ρ 6 0 = 0 ∧ ρ 7 0 = 0
theorem PW_0 : PW (fun _ _ => 0) := by
  refine ⟨⟨⟨by decide, rfl, by decide, rfl, by decide, rfl, ⟨0, by omega, rfl⟩, ⟨0, by omega, rfl⟩, fun p hp => absurd hp (by show ¬ p < 0; omega)⟩, fun p hp => absurd hp (by show ¬ p < 0; omega), ⟨0, by decide, rfl⟩, ⟨0, by omega, rfl⟩, by decide, fun i hi => absurd hi (by show ¬ i < 0; omega)⟩, ⟨0, by omega, rfl⟩, rfl, rfl, rfl⟩
theorem hi_lt {v w : Nat} (hv : v < 1000) (hw : w ≤ 1000) (h : nI v ≤ nI w - 1) : v < w := by
  rw [i_le, nI_toInt (by omega), i_sub1 (by rw [nI_toInt (by omega)]; omega), nI_toInt (by omega)] at h
  omega
theorem hi_le {v w : Nat} (hv : v < 1000) (hw : w ≤ 1000) (h : nI v ≤ nI w) : v ≤ w := by
  rw [nI_leI (by omega) (by omega)] at h
  exact h
theorem rw_pw {ρ : Sc} {w h : Nat} (hP : PW ρ) (hw : w ≤ 7) (hh : h ≤ 7) : PW (rwS ρ w h) := by
  obtain ⟨⟨⟨a1, a2, a3, a4, a5, a6, a7, a8, a9⟩, b2, b3, b4, b5, b6⟩, c1, c2, c3, c4⟩ := hP
  have o : ∀ f, f ≠ 0 → f ≠ 1 → rwS ρ w h f = ρ f := fun f h1 h2 => by unfold rwS; rw [sus_off h2, sus_off h1]
  have eN : sN (rwS ρ w h) = sN ρ := by unfold sN; rw [o 2 (by decide) (by decide)]
  have eD : sD (rwS ρ w h) = sD ρ := by unfold sD; rw [o 3 (by decide) (by decide)]
  have eC : sC (rwS ρ w h) = sC ρ := by unfold sC; rw [o 4 (by decide) (by decide)]
  have e0 : rwS ρ w h 0 0 = nI w := by unfold rwS; rw [sus_off (by decide)]; unfold sus; rw [if_pos rfl]
  have e1 : rwS ρ w h 1 0 = nI h := by unfold rwS; unfold sus; rw [if_pos rfl]
  refine ⟨⟨⟨?_, ?_, ?_, ?_, ?_, ?_, ⟨w, hw, e0⟩, ⟨h, hh, e1⟩, ?_⟩, ?_, ?_, ?_, ?_, ?_⟩, ?_, ?_, ?_, ?_⟩
  · rw [eN]; exact a1
  · rw [eN, o 2 (by decide) (by decide)]; exact a2
  · rw [eD]; exact a3
  · rw [eD, o 3 (by decide) (by decide)]; exact a4
  · rw [eC]; exact a5
  · rw [eC, o 4 (by decide) (by decide)]; exact a6
  · rw [eN, o 13 (by decide) (by decide)]; exact a9
  · rw [eN, o 10 (by decide) (by decide), o 11 (by decide) (by decide), o 12 (by decide) (by decide), o 14 (by decide) (by decide)]; exact b2
  · rw [eN, o 6 (by decide) (by decide)]; exact b3
  · rw [o 5 (by decide) (by decide)]; exact b4
  · rw [o 7 (by decide) (by decide)]; exact b5
  · rw [eC, eD, o 17 (by decide) (by decide), o 18 (by decide) (by decide), o 19 (by decide) (by decide)]; exact b6
  · rw [o 20 (by decide) (by decide)]; exact c1
  · rw [o 5 (by decide) (by decide)]; exact c2
  · rw [o 6 (by decide) (by decide)]; exact c3
  · rw [o 7 (by decide) (by decide)]; exact c4
theorem rp_pw {ρ : Sc} {k x y w : Nat} (hP : PW ρ) (hN : sN ρ < 8) (hk : k < 6) (hx : x < 7) (hy : y < 7) (hw : w < 4) : PW (rpS ρ k x y w) := by
  obtain ⟨⟨⟨a1, a2, a3, a4, a5, a6, a7, a8, a9⟩, b2, b3, b4, b5, b6⟩, c1, c2, c3, c4⟩ := hP
  have eN : sN (rpS ρ k x y w) = sN ρ + 1 := ix_cl (n := sN ρ + 1) (by omega)
  refine ⟨⟨⟨?_, ?_, a3, a4, a5, a6, a7, a8, ?_⟩, ?_, ?_, b4, b5, b6⟩, c1, c2, c3, c4⟩
  · rw [eN]; omega
  · rw [eN]; rfl
  · intro p hp
    rw [eN] at hp
    show ∃ w', w' < 4 ∧ (if p = sN ρ then nI w else ρ 13 p) = nI w'
    by_cases e : p = sN ρ
    · rw [if_pos e]; exact ⟨w, hw, rfl⟩
    · rw [if_neg e]; exact a9 p (by omega)
  · intro p hp
    rw [eN] at hp
    show (∃ k', k' < 6 ∧ (if p = sN ρ then nI k else ρ 10 p) = nI k') ∧ (∃ x', x' < 7 ∧ (if p = sN ρ then nI x else ρ 11 p) = nI x') ∧ (∃ y', y' < 7 ∧ (if p = sN ρ then nI y else ρ 12 p) = nI y') ∧ (∃ z, z < 256 ∧ (if p = sN ρ then 0 else ρ 14 p) = nI z)
    by_cases e : p = sN ρ
    · rw [if_pos e, if_pos e, if_pos e, if_pos e]
      exact ⟨⟨k, hk, rfl⟩, ⟨x, hx, rfl⟩, ⟨y, hy, rfl⟩, ⟨0, by omega, rfl⟩⟩
    · rw [if_neg e, if_neg e, if_neg e, if_neg e]
      exact b2 p (by omega)
  · obtain ⟨z, hz, ez⟩ := b3
    refine ⟨z, ?_, ez⟩
    rw [eN]
    exact Nat.lt_of_lt_of_le hz (Nat.pow_le_pow_right (by decide) (by omega))
theorem rd_pw {ρ : Sc} {x y : Nat} (hP : PW ρ) (hD : sD ρ < 4) : PW (rdS ρ x y) := by
  obtain ⟨⟨⟨a1, a2, a3, a4, a5, a6, a7, a8, a9⟩, b2, b3, b4, b5, b6⟩, c1, c2, c3, c4⟩ := hP
  have eD : sD (rdS ρ x y) = sD ρ + 1 := ix_cl (n := sD ρ + 1) (by omega)
  refine ⟨⟨⟨a1, a2, ?_, ?_, a5, a6, a7, a8, a9⟩, b2, b3, b4, b5, ?_⟩, c1, c2, c3, c4⟩
  · rw [eD]; omega
  · rw [eD]; rfl
  · intro i hi
    obtain ⟨d1, ⟨q, hq, eq⟩, d3⟩ := b6 i hi
    exact ⟨d1, ⟨q, by rw [eD]; omega, eq⟩, d3⟩
theorem re_pw {ρ : Sc} {h q t : Nat} (hP : PW ρ) (hC : sC ρ < 8) (hh : h ≤ 30) (hq : q < sD ρ) (ht : t < 8) : PW (reS ρ h q t) := by
  obtain ⟨⟨⟨a1, a2, a3, a4, a5, a6, a7, a8, a9⟩, b2, b3, b4, b5, b6⟩, c1, c2, c3, c4⟩ := hP
  have eC : sC (reS ρ h q t) = sC ρ + 1 := ix_cl (n := sC ρ + 1) (by omega)
  refine ⟨⟨⟨a1, a2, a3, a4, ?_, ?_, a7, a8, a9⟩, b2, b3, b4, b5, ?_⟩, c1, c2, c3, c4⟩
  · rw [eC]; omega
  · rw [eC]; rfl
  · intro i hi
    rw [eC] at hi
    show (∃ h', h' ≤ 30 ∧ (if i = sC ρ then nI h else ρ 17 i) = nI h') ∧ (∃ q', q' < sD ρ ∧ (if i = sC ρ then nI q else ρ 18 i) = nI q') ∧ (∃ t', t' < 8 ∧ (if i = sC ρ then nI t else ρ 19 i) = nI t')
    by_cases e : i = sC ρ
    · rw [if_pos e, if_pos e, if_pos e]
      exact ⟨⟨h, hh, rfl⟩, ⟨q, hq, rfl⟩, ⟨t, ht, rfl⟩⟩
    · rw [if_neg e, if_neg e, if_neg e]
      exact b6 i (by omega)
theorem rs_off {ρ : Sc} {p t f : Nat} (h1 : f ≠ 14) (h2 : f ≠ 20) : rsS ρ p t f = ρ f := by unfold rsS; rw [sus_off h2, sup_off h1]
theorem rs_pw {ρ : Sc} {p t : Nat} (hP : PW ρ) (hp : p < sN ρ) (ht : t < 8) (h20 : ¬ ρ 20 0 = 8) : PW (rsS ρ p t) := by
  obtain ⟨⟨⟨a1, a2, a3, a4, a5, a6, a7, a8, a9⟩, b2, b3, b4, b5, b6⟩, ⟨k, hk, ek⟩, c2, c3, c4⟩ := hP
  have eN : sN (rsS ρ p t) = sN ρ := by unfold sN; rw [rs_off (by decide) (by decide)]
  have eD : sD (rsS ρ p t) = sD ρ := by unfold sD; rw [rs_off (by decide) (by decide)]
  have eC : sC (rsS ρ p t) = sC ρ := by unfold sC; rw [rs_off (by decide) (by decide)]
  refine ⟨⟨?_, ?_, ?_, ?_, ?_, ?_⟩, ?_, ?_, ?_, ?_⟩
  · unfold Wg
    rw [eN, eD, eC, rs_off (f := 0) (by decide) (by decide), rs_off (f := 1) (by decide) (by decide), rs_off (f := 2) (by decide) (by decide), rs_off (f := 3) (by decide) (by decide), rs_off (f := 4) (by decide) (by decide), rs_off (f := 13) (by decide) (by decide)]
    exact ⟨a1, a2, a3, a4, a5, a6, a7, a8, a9⟩
  · intro q hq
    rw [eN] at hq
    obtain ⟨d1, d2, d3, z, hz, ez⟩ := b2 q hq
    rw [rs_off (f := 10) (by decide) (by decide), rs_off (f := 11) (by decide) (by decide), rs_off (f := 12) (by decide) (by decide)]
    refine ⟨d1, d2, d3, ?_⟩
    unfold rsS
    rw [sus_off (by decide)]
    by_cases e : q = p
    · subst e
      rw [sup_at, ez, nI_or]
      exact ⟨_, Nat.or_lt_two_pow (n := 8) hz (Nat.pow_lt_pow_right (by decide) ht), rfl⟩
    · rw [sup_ne e]; exact ⟨z, hz, ez⟩
  · rw [eN, rs_off (by decide) (by decide)]; exact b3
  · rw [rs_off (by decide) (by decide)]; exact b4
  · rw [rs_off (by decide) (by decide)]; exact b5
  · rw [eC, eD, rs_off (f := 17) (by decide) (by decide), rs_off (f := 18) (by decide) (by decide), rs_off (f := 19) (by decide) (by decide)]; exact b6
  · refine ⟨k + 1, ?_, ?_⟩
    · have : k ≠ 8 := fun z => h20 (by rw [ek, z]; rfl)
      omega
    · show sus _ 20 (ρ 20 0 + 1) 20 0 = _
      unfold sus
      rw [if_pos rfl, ek, nI_1]
  · rw [rs_off (by decide) (by decide)]; exact c2
  · rw [rs_off (by decide) (by decide)]; exact c3
  · rw [rs_off (by decide) (by decide)]; exact c4
/-- where a clause may end, and what it leaves -/
def OutOk (n a : Nat) (o : Out) : Prop := match o with
  | Sum.inl x => 1 ≤ x.1 ∧ x.1 ≤ 4 ∧ x.2 ≤ n
  | Sum.inr x => PW x.1 ∧ a ≤ x.2 ∧ x.2 ≤ n
theorem fin_ok {n : Nat} {L : Nat → Int32} {ρ : Sc} {a : Nat} (ha : a ≤ n) (hP : PW ρ) : OutOk n a (fin n L ρ a) := by
  unfold fin
  cases h : EN n L a with
  | inl x => exact EN_inl ha h
  | inr e =>
    have := EN_inr ha h
    exact ⟨hP, by omega, this.2⟩
theorem Out_le {n a a' : Nat} {o : Out} (h : OutOk n a o) (ha : a' ≤ a) : OutOk n a' o := by
  unfold OutOk at h ⊢
  split at h
  · exact h
  · exact ⟨h.1, by omega, h.2.2⟩
theorem CL_ok {n : Nat} {L : Nat → Int32} {ρ : Sc} {a : Nat} (hn : n ≤ 240) (ha : a < n) (hP : PW ρ) : OutOk n (a + 1) (CL n L ρ a) := by
  obtain ⟨ww, hww, eww⟩ := hP.1.1.2.2.2.2.2.2.1
  obtain ⟨hh, hhh, ehh⟩ := hP.1.1.2.2.2.2.2.2.2.1
  have h8 := hP.1.1.1
  have h4 := hP.1.1.2.2.1
  have h8C := hP.1.1.2.2.2.2.1
  have eN := hP.1.1.2.1
  have eD := hP.1.1.2.2.2.1
  have f1 : ∀ f, 1 ≤ f → f ≤ 4 → OutOk n (a + 1) (Sum.inl (f, a)) := fun f h1 h2 => ⟨h1, h2, by show a ≤ n; omega⟩
  have nl : ∀ {lo hi a' x}, a' ≤ n → NU n L lo hi a' = Sum.inl x → OutOk n (a + 1) (Sum.inl x) := fun ha' h => NU_inl ha' h
  unfold CL
  split
  · split
    · unfold clW
      cases h1 : NU n L 1 7 (a + 1) with
      | inl x => exact nl (by omega) h1
      | inr x =>
        obtain ⟨w, s1, e1⟩ := x
        have g1 := NU_inr (by omega) h1
        dsimp only
        cases h2 : NU n L 1 7 e1 with
        | inl x => exact nl g1.2.2.2.2.2.2 h2
        | inr x =>
          obtain ⟨h, s2, e2⟩ := x
          have g2 := NU_inr g1.2.2.2.2.2.2 h2
          exact Out_le (fin_ok g2.2.2.2.2.2.2 (rw_pw hP (hi_le (w := 7) g1.1 (by omega) g1.2.2.1) (hi_le (w := 7) g2.1 (by omega) g2.2.2.1))) (by omega)
    · exact f1 3 (by omega) (by omega)
  · split
    · split
      · exact f1 1 (by omega) (by omega)
      · split
        · exact f1 3 (by omega) (by omega)
        · next hN =>
          unfold clP
          cases h1 : NU n L 0 5 (a + 1) with
          | inl x => exact nl (by omega) h1
          | inr x =>
            obtain ⟨k, s1, e1⟩ := x
            have g1 := NU_inr (by omega) h1
            dsimp only
            cases h2 : NU n L 0 (ρ 0 0 - 1) e1 with
            | inl x => exact nl g1.2.2.2.2.2.2 h2
            | inr x =>
              obtain ⟨x, s2, e2⟩ := x
              have g2 := NU_inr g1.2.2.2.2.2.2 h2
              dsimp only
              cases h3 : NU n L 0 (ρ 1 0 - 1) e2 with
              | inl x => exact nl g2.2.2.2.2.2.2 h3
              | inr x =>
                obtain ⟨y, s3, e3⟩ := x
                have g3 := NU_inr g2.2.2.2.2.2.2 h3
                dsimp only
                split
                · cases h5 : NU n L 0 3 e3 with
                  | inl x => exact nl g3.2.2.2.2.2.2 h5
                  | inr x =>
                    obtain ⟨w, s5, e5⟩ := x
                    have g5 := NU_inr g3.2.2.2.2.2.2 h5
                    have q2 := g2.2.2.1
                    have q3 := g3.2.2.1
                    rw [eww] at q2
                    rw [ehh] at q3
                    have b1 := hi_le (w := 5) g1.1 (by omega) g1.2.2.1
                    have b2 := hi_lt g2.1 (by omega) q2
                    have b3 := hi_lt g3.1 (by omega) q3
                    have b5 := hi_le (w := 3) g5.1 (by omega) g5.2.2.1
                    exact Out_le (fin_ok g5.2.2.2.2.2.2 (rp_pw hP (by omega) (by omega) (by omega) (by omega) (by omega))) (by omega)
                · exact ⟨by show 1 ≤ 4; omega, by show 4 ≤ 4; omega, by show s3 ≤ n; omega⟩
    · split
      · split
        · exact f1 1 (by omega) (by omega)
        · split
          · exact f1 3 (by omega) (by omega)
          · unfold clD
            cases h2 : NU n L 0 (ρ 0 0 - 1) (a + 1) with
            | inl x => exact nl (by omega) h2
            | inr x =>
              obtain ⟨x, s2, e2⟩ := x
              have g2 := NU_inr (by omega) h2
              dsimp only
              cases h3 : NU n L 0 (ρ 1 0 - 1) e2 with
              | inl x => exact nl g2.2.2.2.2.2.2 h3
              | inr x =>
                obtain ⟨y, s3, e3⟩ := x
                have g3 := NU_inr g2.2.2.2.2.2.2 h3
                dsimp only
                split
                · exact Out_le (fin_ok g3.2.2.2.2.2.2 (rd_pw hP (by omega))) (by omega)
                · exact ⟨by show 1 ≤ 4; omega, by show 4 ≤ 4; omega, by show s3 ≤ n; omega⟩
      · split
        · split
          · exact f1 1 (by omega) (by omega)
          · split
            · exact f1 3 (by omega) (by omega)
            · unfold clE
              cases h1 : NU n L 0 30 (a + 1) with
              | inl x => exact nl (by omega) h1
              | inr x =>
                obtain ⟨h, s1, e1⟩ := x
                have g1 := NU_inr (by omega) h1
                dsimp only
                cases h2 : NU n L 0 (ρ 3 0 - 1) e1 with
                | inl x => exact nl g1.2.2.2.2.2.2 h2
                | inr x =>
                  obtain ⟨q, s2, e2⟩ := x
                  have g2 := NU_inr g1.2.2.2.2.2.2 h2
                  dsimp only
                  cases h3 : NU n L 0 7 e2 with
                  | inl x => exact nl g2.2.2.2.2.2.2 h3
                  | inr x =>
                    obtain ⟨t, s3, e3⟩ := x
                    have g3 := NU_inr g2.2.2.2.2.2.2 h3
                    have q2 := g2.2.2.1
                    rw [eD] at q2
                    have b1 := hi_le (w := 30) g1.1 (by omega) g1.2.2.1
                    have b2 := hi_lt g2.1 (by omega) q2
                    have b3 := hi_le (w := 7) g3.1 (by omega) g3.2.2.1
                    exact Out_le (fin_ok g3.2.2.2.2.2.2 (re_pw hP (by omega) b1 b2 (by omega))) (by omega)
        · split
          · split
            · exact f1 1 (by omega) (by omega)
            · split
              · exact f1 3 (by omega) (by omega)
              · next h20 =>
                unfold clS
                cases h1 : NU n L 0 (ρ 2 0 - 1) (a + 1) with
                | inl x => exact nl (by omega) h1
                | inr x =>
                  obtain ⟨p, s1, e1⟩ := x
                  have g1 := NU_inr (by omega) h1
                  dsimp only
                  split
                  · exact ⟨by show 1 ≤ 4; omega, by show 4 ≤ 4; omega, by show s1 ≤ n; omega⟩
                  · cases h2 : NU n L 0 7 e1 with
                    | inl x => exact nl g1.2.2.2.2.2.2 h2
                    | inr x =>
                      obtain ⟨t, s2, e2⟩ := x
                      have g2 := NU_inr g1.2.2.2.2.2.2 h2
                      dsimp only
                      split
                      · exact ⟨by show 1 ≤ 4; omega, by show 4 ≤ 4; omega, by show s2 ≤ n; omega⟩
                      · have q1 := g1.2.2.1
                        rw [eN] at q1
                        have b1 := hi_lt g1.1 (by omega) q1
                        have b2 := hi_le (w := 7) g2.1 (by omega) g2.2.2.1
                        exact Out_le (fin_ok g2.2.2.2.2.2.2 (rs_pw hP b1 (by omega) h20)) (by omega)
          · exact f1 1 (by omega) (by omega)
