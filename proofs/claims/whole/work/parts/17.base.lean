/-! small rows for the trees: calls that answer a truth value, numbers, memory -/
theorem k1n {T F : Int32 → Prop} (h : T 1) : ∃ a : Int32, some (aI 1) = some (aI a) ∧ ((¬ a = 0 → T a) ∧ (a = 0 → F a)) := ⟨1, rfl, fun _ => h, fun q => absurd q (by decide)⟩
theorem k0n {T F : Int32 → Prop} (h : F 0) : ∃ a : Int32, some (aI 0) = some (aI a) ∧ ((¬ a = 0 → T a) ∧ (a = 0 → F a)) := ⟨0, rfl, fun q => absurd rfl q, fun _ => h⟩
theorem k1e {T F : Int32 → Prop} (h : F 1) : ∃ a : Int32, some (aI 1) = some (aI a) ∧ ((a = 0 → T a) ∧ (¬ a = 0 → F a)) := ⟨1, rfl, fun q => absurd q (by decide), fun _ => h⟩
theorem k0e {T F : Int32 → Prop} (h : T 0) : ∃ a : Int32, some (aI 0) = some (aI a) ∧ ((a = 0 → T a) ∧ (¬ a = 0 → F a)) := ⟨0, rfl, fun _ => h, fun q => absurd rfl q⟩
theorem kv {T : Int32 → Prop} {x : Int32} (h : T x) : ∃ a : Int32, some (aI x) = some (aI a) ∧ T a := ⟨x, rfl, h⟩
theorem ret1 {P : Prop} (h : P) : (1 : Int32) &&& 1 = 1 ∧ P := ⟨by decide, h⟩
theorem ret0 {P : Prop} (h : P) : (0 : Int32) &&& 1 = 0 ∧ P := ⟨by decide, h⟩
theorem i_lt {a b : Int32} : a < b ↔ a.toInt < b.toInt := Int32.lt_iff_toInt_lt
theorem i_le {a b : Int32} : a ≤ b ↔ a.toInt ≤ b.toInt := Int32.le_iff_toInt_le
theorem l_lt {a b : Int64} : a < b ↔ a.toInt < b.toInt := Int64.lt_iff_toInt_lt
theorem l_le {a b : Int64} : a ≤ b ↔ a.toInt ≤ b.toInt := Int64.le_iff_toInt_le
theorem i_eq {a b : Int32} : a = b ↔ a.toInt = b.toInt := Int32.toInt_inj.symm
theorem i_rng (a : Int32) : -2147483648 ≤ a.toInt ∧ a.toInt < 2147483648 := ⟨Int32.le_toInt a, Int32.toInt_lt a⟩
theorem i_sub1 {a : Int32} (h : -2147483648 < a.toInt) : (a - 1).toInt = a.toInt - 1 := by
  have h1 := i_rng a
  rw [Int32.toInt_sub]
  show Int.bmod (a.toInt - 1) _ = _
  exact Int.bmod_eq_of_le (by omega) (by omega)
theorem i_of {x : Int32} {n : Nat} (h : x.toInt = n) : x = nI n := by
  rw [i_eq, h]
  have h1 := i_rng x
  rw [nI_toInt (by omega)]
theorem ix_in {n N : Nat} (h : n < N) (hN : N ≤ 1000) : vp_in (nI n) N := vp_in_nI h (by omega)
theorem ix_cl {n : Nat} (h : n < 1000) : (nI n).toNatClampNeg = n := nI_clamp (by omega)
theorem up_s {M : am_M} {o k i : Nat} {v : Int32} : am_up M o k i v o k i = v := by simp [am_up]
theorem up_o {M : am_M} {o k i o' k' i' : Nat} {v : Int32} (h : o' ≠ o) : am_up M o k i v o' k' i' = M o' k' i' := by simp [am_up, h]
theorem up_k {M : am_M} {o k i o' k' i' : Nat} {v : Int32} (h : k' ≠ k) : am_up M o k i v o' k' i' = M o' k' i' := by simp [am_up, h]
theorem up_i {M : am_M} {o k i o' k' i' : Nat} {v : Int32} (h : i' ≠ i) : am_up M o k i v o' k' i' = M o' k' i' := by simp [am_up, h]
/-- which of the first n a number is -/
theorem ix_of {x : Int32} {n : Nat} (h : n ≤ 1000) : (∃ q, q < n ∧ x = nI q) ∨ ((x < 0 ∨ nI n ≤ x) ∧ ∀ q, q < n → x ≠ nI q) := by
  rcases pk_ix x (n := n) (by omega) with q | q | ⟨j, hj, q⟩
  · refine Or.inr ⟨Or.inl q, fun k hk e => ?_⟩
    subst e
    exact nI_pos (by omega) q
  · refine Or.inr ⟨Or.inr q, fun k hk e => ?_⟩
    subst e
    exact nI_ge hk (by omega) q
  · exact Or.inl ⟨j, hj, q⟩
theorem ix_lt {q : Nat} (h : q < 1000) : ¬ nI q < 0 := nI_pos (by omega)
theorem ix_ge {q n : Nat} (h : q < n) (hn : n ≤ 1000) : ¬ nI n ≤ nI q := nI_ge h (by omega)
theorem ix_le {q n : Nat} (h : n ≤ q) (hn : q ≤ 1000) : nI n ≤ nI q := nI_le h (by omega)
theorem ix_eq {a b : Nat} (ha : a ≤ 1000) (hb : b ≤ 1000) : nI a = nI b ↔ a = b := nI_eq (by omega) (by omega)
theorem ix_neg1 {q : Nat} (h : q ≤ 1000) : ¬ nI q = -1 := by
  rw [i_eq, nI_toInt (by omega)]
  show ¬ ((q : Int) = -1)
  omega
/-- the first place, from i on, k of them, where p holds -/
def sF (p : Nat → Bool) : Nat → Nat → Option Nat
  | _, 0 => none
  | i, k + 1 => if p i = true then some i else sF p (i + 1) k
theorem sF_some {p : Nat → Bool} : ∀ {k i j : Nat}, sF p i k = some j → i ≤ j ∧ j < i + k ∧ p j = true ∧ ∀ q, i ≤ q → q < j → p q = false
  | 0, _, _, h => by cases h
  | k + 1, i, j, h => by
    unfold sF at h
    split at h
    · next hp =>
      cases h
      exact ⟨Nat.le_refl _, by omega, hp, fun q h1 h2 => by omega⟩
    · next hp =>
      obtain ⟨h1, h2, h3, h4⟩ := sF_some h
      refine ⟨by omega, by omega, h3, fun q a b => ?_⟩
      by_cases e : q = i
      · rw [e]; exact Bool.eq_false_iff.mpr hp
      · exact h4 q (by omega) b
theorem sF_none {p : Nat → Bool} : ∀ {k i : Nat}, sF p i k = none → ∀ q, i ≤ q → q < i + k → p q = false
  | 0, _, _, q, h1, h2 => by omega
  | k + 1, i, h, q, h1, h2 => by
    unfold sF at h
    split at h
    · cases h
    · next hp =>
      by_cases e : q = i
      · rw [e]; exact Bool.eq_false_iff.mpr hp
      · exact sF_none h q (by omega) (by omega)
/-- a number that is one of the first n, cut off there -/
def tr (n : Nat) (f : Nat → Int32) : Nat → Int32 := fun i => if i < n then f i else 0
theorem tr_lt {n : Nat} {f : Nat → Int32} {i : Nat} (h : i < n) : tr n f i = f i := if_pos h
theorem tr_ge {n : Nat} {f : Nat → Int32} {i : Nat} (h : ¬ i < n) : tr n f i = 0 := if_neg h
theorem tr_eq {n : Nat} {f g : Nat → Int32} (h : ∀ i, i < n → f i = g i) : tr n f = tr n g := by
  funext i
  unfold tr
  split
  · next q => exact h i q
  · rfl
