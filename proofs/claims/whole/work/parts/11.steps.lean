/-! each step of the small machine is a step of the machine -/
def am_isU (v : am_V) : Bool := match v with | .inr (.inr (.inr (.inr (.inr _)))) => true | _ => false
def am_lr (ad : Nat × Option Nat → Nat) (ar : Nat → Nat) (ls : List am_V) (sl : Array Slot) : Prop := sl.size = ls.length ∧ lv_wf sl ∧ ∀ (i : Nat) (v : am_V), ls[i]? = some v → am_isU v = false → sl[i]? = some (.val (am_con ad ar v))
def am_prs (ad : Nat × Option Nat → Nat) (ar : Nat → Nat) (ls : List am_V) : List (Nat × Value) := (List.range ls.length).filterMap (fun i => match ls[i]? with | some v => (bif am_isU v then none else some (i, am_con ad ar v)) | none => none)
def am_oks (SL : Nat → Nat) (l : List am_V) : Prop := ∀ v ∈ l, am_okV SL v
theorem am_oks_nil {SL : Nat → Nat} : am_oks SL [] := fun _ h => by cases h
theorem am_oks_cons {SL : Nat → Nat} {v : am_V} {l : List am_V} (h1 : am_okV SL v) (h2 : am_oks SL l) : am_oks SL (v :: l) := fun w h => by
  rcases List.mem_cons.mp h with e | h
  · rw [e]; exact h1
  · exact h2 w h
theorem am_oks_tl {SL : Nat → Nat} {v : am_V} {l : List am_V} (h : am_oks SL (v :: l)) : am_oks SL l := fun w hw => h w (List.mem_cons_of_mem _ hw)
theorem am_oks_hd {SL : Nat → Nat} {v : am_V} {l : List am_V} (h : am_oks SL (v :: l)) : am_okV SL v := h v List.mem_cons_self
theorem am_oks_set {SL : Nat → Nat} {v : am_V} {l : List am_V} {i : Nat} (h : am_oks SL l) (hv : am_okV SL v) : am_oks SL (l.set i v) := fun w hw => by
  rcases List.mem_or_eq_of_mem_set hw with q | q
  · exact h w q
  · rw [q]; exact hv
section AmL
variable {ad : Nat × Option Nat → Nat} {ar : Nat → Nat} {ls : List am_V} {sl : Array Slot}
theorem am_prs_mem {q : Nat × Value} : q ∈ am_prs ad ar ls ↔ ∃ v, ls[q.1]? = some v ∧ am_isU v = false ∧ q.2 = am_con ad ar v := by
  unfold am_prs
  rw [List.mem_filterMap]
  constructor
  · rintro ⟨i, -, h⟩
    cases hv : ls[i]? with
    | none => rw [hv] at h; cases h
    | some v =>
      rw [hv] at h
      cases hu : am_isU v with
      | true => simp only [hu, cond_true] at h; cases h
      | false =>
        simp only [hu, cond_false] at h
        cases h
        exact ⟨v, hv, hu, rfl⟩
  · rintro ⟨v, h1, h2, h3⟩
    refine ⟨q.1, List.mem_range.mpr (List.getElem?_eq_some_iff.mp h1).1, ?_⟩
    rw [h1]
    simp only [h2, cond_false]
    rw [← h3]
theorem am_lr_has (h : am_lr ad ar ls sl) : lv_has sl ls.length (am_prs ad ar ls) := ⟨h.1, h.2.1, fun q hq => by
  obtain ⟨v, h1, h2, h3⟩ := am_prs_mem.mp hq
  rw [h3]
  exact h.2.2 _ _ h1 h2⟩
theorem am_cat1 {v : am_V} (h : am_isL v = false) : (am_con ad ar v).category = 1 := by
  rcases v with x | x | ⟨c, o⟩ | ⟨o, k, n, b⟩ | ⟨j, n⟩ | u
  · rfl
  · cases h
  · rfl
  · rfl
  · rfl
  · rfl
theorem am_fit_lt {x : Nat} (h : am_fit ls x = true) : x < ls.length := by
  unfold am_fit at h
  rw [Bool.and_eq_true] at h
  exact Nat.le_of_ble_eq_true h.1
theorem am_fit_prev {x i : Nat} {v : am_V} (h : am_fit ls x = true) (hi : i + 1 = x) (hv : ls[i]? = some v) : am_isL v = false := by
  subst hi
  unfold am_fit at h
  rw [Bool.and_eq_true] at h
  have h2 := h.2
  dsimp only at h2
  rw [hv] at h2
  dsimp only at h2
  cases hq : am_isL v with
  | false => rfl
  | true => rw [hq] at h2; cases h2
theorem am_has_lr1 {sl' : Array Slot} {x : Nat} {a : am_V} (hf : am_fit ls x = true) (h : lv_has sl' ls.length ((x, am_con ad ar a) :: (am_prs ad ar ls).filter (fun q => !(q.1 == x) && !(q.1 + 1 == x && q.2.category == 2)))) : am_lr ad ar (ls.set x a) sl' := by
  refine ⟨by rw [List.length_set]; exact h.1, h.2.1, fun i v hv hu => ?_⟩
  by_cases hi : i = x
  · subst hi
    rw [List.getElem?_set_self (am_fit_lt hf)] at hv
    cases hv
    exact h.2.2 _ List.mem_cons_self
  · rw [List.getElem?_set_ne (Ne.symm hi)] at hv
    refine h.2.2 (i, am_con ad ar v) (List.mem_cons_of_mem _ (List.mem_filter.mpr ⟨am_prs_mem.mpr ⟨v, hv, hu, rfl⟩, ?_⟩))
    simp only [Bool.and_eq_true, Bool.not_eq_true', beq_eq_false_iff_ne, ne_eq, Bool.and_eq_false_iff]
    refine ⟨hi, ?_⟩
    by_cases hx : i + 1 = x
    · right
      rw [am_cat1 (am_fit_prev hf hx hv)]
      decide
    · left; exact hx
theorem am_has_lr2 {sl' : Array Slot} {x : Nat} {a : am_V} (hf : am_fit ls x = true) (hl : x + 2 ≤ ls.length) (h : lv_has sl' ls.length ((x, am_con ad ar a) :: (am_prs ad ar ls).filter (fun q => !(q.1 == x) && (!(q.1 == x + 1) && !(q.1 + 1 == x && q.2.category == 2))))) : am_lr ad ar ((ls.set x a).set (x + 1) aU) sl' := by
  refine ⟨by rw [List.length_set, List.length_set]; exact h.1, h.2.1, fun i v hv hu => ?_⟩
  by_cases hi1 : i = x + 1
  · subst hi1
    rw [List.getElem?_set_self (by rw [List.length_set]; omega)] at hv
    cases hv
    cases hu
  · rw [List.getElem?_set_ne (Ne.symm hi1)] at hv
    by_cases hi : i = x
    · subst hi
      rw [List.getElem?_set_self (am_fit_lt hf)] at hv
      cases hv
      exact h.2.2 _ List.mem_cons_self
    · rw [List.getElem?_set_ne (Ne.symm hi)] at hv
      refine h.2.2 (i, am_con ad ar v) (List.mem_cons_of_mem _ (List.mem_filter.mpr ⟨am_prs_mem.mpr ⟨v, hv, hu, rfl⟩, ?_⟩))
      simp only [Bool.and_eq_true, Bool.not_eq_true', beq_eq_false_iff_ne, ne_eq, Bool.and_eq_false_iff]
      refine ⟨hi, hi1, ?_⟩
      by_cases hx : i + 1 = x
      · right
        rw [am_cat1 (am_fit_prev hf hx hv)]
        decide
      · left; exact hx
theorem am_lr_get (h : am_lr ad ar ls sl) {x : Nat} {v : am_V} (hv : ls[x]? = some v) (hu : am_isU v = false) : sl[x]? = some (.val (am_con ad ar v)) := h.2.2 x v hv hu
/-- the locals with which a method begins -/
theorem am_args_mem : ∀ (as : List am_V) (k i : Nat) (v : am_V), (am_args as)[i]? = some v → am_isU v = false → (k + i, am_con ad ar v) ∈ lv_args k (as.map (am_con ad ar))
  | [], k, i, v, h, _ => by simp [am_args] at h
  | a :: t, k, i, v, h, hu => by
    by_cases ha : am_isL a = true
    · rcases a with x | x | ⟨c, o⟩ | ⟨o, k', n, b⟩ | ⟨j, n⟩ | u <;> try cases ha
      rw [show am_args (Sum.inr (Sum.inl x) :: t) = aL x :: aU :: am_args t from rfl] at h
      match i, h with
      | 0, h =>
        simp at h
        subst h
        exact List.mem_cons_self
      | 1, h =>
        simp at h
        subst h
        cases hu
      | i + 2, h =>
        have h' : (am_args t)[i]? = some v := by simpa using h
        have h2 := am_args_mem t (k + 2) i v h' hu
        refine List.mem_cons_of_mem _ ?_
        rw [show k + (i + 2) = k + 2 + i from by omega]
        exact h2
    · have e : am_args (a :: t) = a :: am_args t := by
        rcases a with x | x | ⟨c, o⟩ | ⟨o, k', n, b⟩ | ⟨j, n⟩ | u <;> first | rfl | exact absurd rfl ha
      have hc := am_cat1 (ad := ad) (ar := ar) (Bool.eq_false_iff.mpr ha)
      rw [e] at h
      match i, h with
      | 0, h =>
        simp at h
        subst h
        exact List.mem_cons_self
      | i + 1, h =>
        have h' : (am_args t)[i]? = some v := by simpa using h
        have h2 := am_args_mem t (k + 1) i v h' hu
        rw [List.map_cons, lv_args, hc]
        refine List.mem_cons_of_mem _ ?_
        rw [show k + (i + 1) = k + 1 + i from by omega]
        exact h2
theorem am_args_len : ∀ (as : List am_V), (am_args as).length = (lg_sl (as.map (am_con ad ar))).length
  | [] => rfl
  | a :: t => by
    have ih := am_args_len t
    unfold lg_sl at ih ⊢
    rw [List.map_cons, List.flatMap_cons, List.length_append]
    rcases a with x | x | ⟨c, o⟩ | ⟨o, k', n, b⟩ | ⟨j, n⟩ | u
    · show (am_args t).length + 1 = _
      rw [ih]; show _ = 1 + _; omega
    · show (am_args t).length + 1 + 1 = _
      rw [ih]; show _ = 2 + _; omega
    · show (am_args t).length + 1 = _
      rw [ih]; show _ = 1 + _; omega
    · show (am_args t).length + 1 = _
      rw [ih]; show _ = 1 + _; omega
    · show (am_args t).length + 1 = _
      rw [ih]; show _ = 1 + _; omega
    · show (am_args t).length + 1 = _
      rw [ih]; show _ = 1 + _; omega
theorem am_pad_len : ∀ (n : Nat) (l : List am_V), l.length ≤ n → (am_pad n l).length = n
  | 0, l, h => by
    have : l.length = 0 := by omega
    exact this
  | n + 1, [], _ => by show (am_pad n []).length + 1 = _; rw [am_pad_len n [] (by simp)]
  | n + 1, v :: l, h => by show (am_pad n l).length + 1 = _; rw [am_pad_len n l (by simpa using h)]
theorem am_pad_get : ∀ (n : Nat) (l : List am_V) (i : Nat) (v : am_V), (am_pad n l)[i]? = some v → am_isU v = false → l[i]? = some v
  | 0, l, i, v, h, _ => h
  | n + 1, [], i, v, h, hu => by
    cases i with
    | zero => simp [am_pad] at h; subst h; cases hu
    | succ i =>
      have h' : (am_pad n [])[i]? = some v := by simpa [am_pad] using h
      have := am_pad_get n [] i v h' hu
      simp at this
  | n + 1, w :: l, i, v, h, hu => by
    cases i with
    | zero => simpa [am_pad] using h
    | succ i =>
      have h' : (am_pad n l)[i]? = some v := by simpa [am_pad] using h
      simpa using am_pad_get n l i v h' hu
theorem am_pad_mem : ∀ (n : Nat) (l : List am_V) (v : am_V), v ∈ am_pad n l → v ∈ l ∨ v = aU
  | 0, l, v, h => Or.inl h
  | n + 1, [], v, h => by
    rcases List.mem_cons.mp h with e | h
    · exact Or.inr e
    · exact am_pad_mem n [] v h
  | n + 1, w :: l, v, h => by
    rcases List.mem_cons.mp h with e | h
    · exact Or.inl (e ▸ List.mem_cons_self)
    · rcases am_pad_mem n l v h with q | q
      · exact Or.inl (List.mem_cons_of_mem _ q)
      · exact Or.inr q
theorem am_args_in : ∀ (as : List am_V) (v : am_V), v ∈ am_args as → v ∈ as ∨ v = aU
  | [], v, h => by cases h
  | a :: t, v, h => by
    rcases a with x | x | ⟨c, o⟩ | ⟨o, k', n, b⟩ | ⟨j, n⟩ | u
    · rcases List.mem_cons.mp h with e | h
      · exact Or.inl (e ▸ List.mem_cons_self)
      · exact (am_args_in t v h).imp (List.mem_cons_of_mem _) id
    · rcases List.mem_cons.mp h with e | h
      · exact Or.inl (e ▸ List.mem_cons_self)
      · rcases List.mem_cons.mp h with e | h
        · exact Or.inr e
        · exact (am_args_in t v h).imp (List.mem_cons_of_mem _) id
    · rcases List.mem_cons.mp h with e | h
      · exact Or.inl (e ▸ List.mem_cons_self)
      · exact (am_args_in t v h).imp (List.mem_cons_of_mem _) id
    · rcases List.mem_cons.mp h with e | h
      · exact Or.inl (e ▸ List.mem_cons_self)
      · exact (am_args_in t v h).imp (List.mem_cons_of_mem _) id
    · rcases List.mem_cons.mp h with e | h
      · exact Or.inl (e ▸ List.mem_cons_self)
      · exact (am_args_in t v h).imp (List.mem_cons_of_mem _) id
    · rcases List.mem_cons.mp h with e | h
      · exact Or.inl (e ▸ List.mem_cons_self)
      · exact (am_args_in t v h).imp (List.mem_cons_of_mem _) id
theorem am_lr_entry {as : List am_V} {n : Nat} (h : (am_args as).length ≤ n) : am_lr ad ar (am_pad n (am_args as)) ((lg_sl (as.map (am_con ad ar)) ++ List.replicate (n - (lg_sl (as.map (am_con ad ar))).length) Slot.unset).toArray) := by
  have h1 := lv_entry (as.map (am_con ad ar)) (n := n) (by rw [← am_args_len (ad := ad) (ar := ar) as]; exact h)
  refine ⟨by rw [am_pad_len n _ h]; exact h1.1, h1.2.1, fun i v hv hu => ?_⟩
  have h2 := am_args_mem (ad := ad) (ar := ar) as 0 i v (am_pad_get n _ i v hv hu) hu
  rw [Nat.zero_add] at h2
  exact h1.2.2 _ h2
end AmL
