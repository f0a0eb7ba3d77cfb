/-! the world of the small machine: its cells, their places in the heap, what they hold -/
def am_ocl : List Nat := [6, 3, 2, 2, 4, 4, 4, 4, 4, 4, 0, 5, 1, 7]
def am_cls (o : Nat) : Nat := am_ocl.getD o 99
def am_arr (f : Nat × Nat) : Bool := Nat.beq f.1 1 || Nat.beq f.1 2
def am_cells : List (Nat × Option Nat) := (List.range 14).flatMap (fun o => (o, none) :: ((List.range (am_nf (am_cls o))).filterMap (fun k => bif am_arr (am_fk (am_cls o) k) then some (o, some k) else none)))
def am_con (ad : Nat × Option Nat → Nat) (ar : Nat → Nat) (v : am_V) : Value := match v with
  | .inl x => .int x
  | .inr (.inl x) => .long x
  | .inr (.inr (.inl (_, o))) => .ref (ad (o, none))
  | .inr (.inr (.inr (.inl (o, k, _, _)))) => .ref (ad (o, some k))
  | .inr (.inr (.inr (.inr (.inl (j, _))))) => .ref (ar j)
  | .inr (.inr (.inr (.inr (.inr _)))) => .null
def am_fs (ad : Nat × Option Nat → Nat) (ar : Nat → Nat) (M : am_M) (R : am_R) (o : Nat) : List Value := (List.range (am_nf (am_cls o))).map (fun k => am_con ad ar (am_fld (am_fk (am_cls o) k) M R o k))
def am_ent (ad : Nat × Option Nat → Nat) (ar : Nat → Nat) (tI tZ : ClassId) (M : am_M) (R : am_R) (c : Nat × Option Nat) : va_E := match c with
  | (o, none) => .inr (am_cls o, am_fs ad ar M R o)
  | (o, some k) => .inl (bif Nat.beq (am_fk (am_cls o) k).1 2 then tZ else tI, (am_fk (am_cls o) k).2, .inl (M o k))
def am_ws (ad : Nat × Option Nat → Nat) (ar : Nat → Nat) (tI tZ : ClassId) (M : am_M) (R : am_R) : va_W := am_cells.map (fun c => (ad c, am_ent ad ar tI tZ M R c))
def am_okV (SL : Nat → Nat) (v : am_V) : Prop := match v with
  | .inr (.inr (.inl (c, o))) => o < 14 ∧ am_cls o = c
  | .inr (.inr (.inr (.inl (o, k, n, b)))) => o < 14 ∧ am_fk (am_cls o) k = (bif b then 2 else 1, n)
  | .inr (.inr (.inr (.inr (.inl (j, n))))) => j < 3 ∧ n = SL j
  | _ => True
def am_okR (R : am_R) : Prop := ∀ o k c, o < 14 → am_fk (am_cls o) k = (3, c) → R o k < 14 ∧ am_cls (R o k) = c
theorem am_fk_lt {c k a b : Nat} (h : am_fk c k = (a, b)) (ha : a ≠ 9) : k < am_nf c := by
  rcases Nat.lt_or_ge k (am_nf c) with q | q
  · exact q
  · exfalso
    unfold am_fk at h
    rw [List.getD_eq_getElem?_getD, List.getElem?_eq_none (by exact q)] at h
    cases h
    exact ha rfl
theorem am_cell_o {o : Nat} (h : o < 14) : (o, none) ∈ am_cells := List.mem_flatMap.mpr ⟨o, List.mem_range.mpr h, List.mem_cons_self⟩
theorem am_cell_a {o k a n : Nat} (h : o < 14) (hf : am_fk (am_cls o) k = (a, n)) (ha : a = 1 ∨ a = 2) : (o, some k) ∈ am_cells := by
  refine List.mem_flatMap.mpr ⟨o, List.mem_range.mpr h, List.mem_cons_of_mem _ (List.mem_filterMap.mpr ⟨k, List.mem_range.mpr (am_fk_lt hf (by omega)), ?_⟩)⟩
  rw [hf]
  rcases ha with rfl | rfl <;> rfl
theorem am_cell_inv {o k : Nat} (h : (o, some k) ∈ am_cells) : o < 14 ∧ am_arr (am_fk (am_cls o) k) = true := by
  obtain ⟨o', h1, h2⟩ := List.mem_flatMap.mp h
  rcases List.mem_cons.mp h2 with h3 | h3
  · cases h3
  · obtain ⟨k', h4, h5⟩ := List.mem_filterMap.mp h3
    cases hb : am_arr (am_fk (am_cls o') k') with
    | false => rw [hb] at h5; cases h5
    | true =>
      rw [hb] at h5
      cases h5
      exact ⟨List.mem_range.mp h1, hb⟩
theorem am_cells_nd : am_cells.Nodup := by decide +kernel
theorem am_cells_inj {i j : Nat} {c : Nat × Option Nat} (hi : am_cells[i]? = some c) (hj : am_cells[j]? = some c) : i = j := by
  obtain ⟨h1, h2⟩ := List.getElem?_eq_some_iff.mp hi
  obtain ⟨h3, h4⟩ := List.getElem?_eq_some_iff.mp hj
  exact (List.getElem_inj am_cells_nd).mp (h2.trans h4.symm)
section AmW
variable {ad : Nat × Option Nat → Nat} {ar : Nat → Nat} {tI tZ : ClassId} {M M' : am_M} {R R' : am_R}
theorem am_ws_at {q : Nat} {c : Nat × Option Nat} (h : am_cells[q]? = some c) : (am_ws ad ar tI tZ M R)[q]? = some (ad c, am_ent ad ar tI tZ M R c) := by
  unfold am_ws
  rw [List.getElem?_map, h]
  rfl
theorem am_ws_of {q : Nat} {p : Nat × va_E} (h : (am_ws ad ar tI tZ M R)[q]? = some p) : ∃ c, am_cells[q]? = some c ∧ p = (ad c, am_ent ad ar tI tZ M R c) := by
  unfold am_ws at h
  rw [List.getElem?_map] at h
  cases hc : am_cells[q]? with
  | none => rw [hc] at h; cases h
  | some c => rw [hc] at h; exact ⟨c, rfl, (Option.some.inj h).symm⟩
theorem am_ws_set {q : Nat} {c : Nat × Option Nat} {e : va_E} (h : am_cells[q]? = some c) (he : e = am_ent ad ar tI tZ M' R' c) (ho : ∀ c', c' ∈ am_cells → c' ≠ c → am_ent ad ar tI tZ M' R' c' = am_ent ad ar tI tZ M R c') : (am_ws ad ar tI tZ M R).set q (ad c, e) = am_ws ad ar tI tZ M' R' := by
  apply List.ext_getElem?
  intro j
  by_cases hj : j = q
  · subst hj
    have hl : j < (am_ws ad ar tI tZ M R).length := by unfold am_ws; rw [List.length_map]; exact (List.getElem?_eq_some_iff.mp h).1
    rw [List.getElem?_set_self hl, am_ws_at h, he]
  · rw [List.getElem?_set_ne (Ne.symm hj)]
    cases hc : am_cells[j]? with
    | none =>
      unfold am_ws
      rw [List.getElem?_map, List.getElem?_map, hc]
      rfl
    | some c' =>
      rw [am_ws_at hc, am_ws_at hc, ho c' (List.mem_of_getElem? hc) (fun e => hj (am_cells_inj (e ▸ hc) h))]
theorem am_DD {A : Nat → Prop} (hi : ∀ c c', c ∈ am_cells → c' ∈ am_cells → ad c = ad c' → c = c') (hA : ∀ c, c ∈ am_cells → A (ad c)) : va_D A (am_ws ad ar tI tZ M R) := by
  refine ⟨fun i j p q h1 h2 h3 => ?_, fun k q h => ?_⟩
  · obtain ⟨c, e1, rfl⟩ := am_ws_of h1
    obtain ⟨c', e2, rfl⟩ := am_ws_of h2
    have := hi c c' (List.mem_of_getElem? e1) (List.mem_of_getElem? e2) h3
    subst this
    exact am_cells_inj e1 e2
  · obtain ⟨c, e1, rfl⟩ := am_ws_of h
    exact hA c (List.mem_of_getElem? e1)
theorem am_fs_at {o k : Nat} (hk : k < am_nf (am_cls o)) : (am_fs ad ar M R o)[k]? = some (am_con ad ar (am_fld (am_fk (am_cls o) k) M R o k)) := by
  unfold am_fs
  rw [List.getElem?_map, List.getElem?_range hk]
  rfl
theorem am_fs_len {o : Nat} : (am_fs ad ar M R o).length = am_nf (am_cls o) := by
  unfold am_fs
  rw [List.length_map, List.length_range]
theorem am_fs_set {o k : Nat} {v : Value} (hk : k < am_nf (am_cls o)) (hv : v = am_con ad ar (am_fld (am_fk (am_cls o) k) M' R' o k)) (ho : ∀ j, j ≠ k → am_fld (am_fk (am_cls o) j) M' R' o j = am_fld (am_fk (am_cls o) j) M R o j) : (am_fs ad ar M R o).set k v = am_fs ad ar M' R' o := by
  apply List.ext_getElem?
  intro j
  by_cases hj : j = k
  · subst hj
    rw [List.getElem?_set_self (by rw [am_fs_len]; exact hk), am_fs_at hk, hv]
  · rw [List.getElem?_set_ne (Ne.symm hj)]
    by_cases hl : j < am_nf (am_cls o)
    · rw [am_fs_at hl, am_fs_at hl, ho j hj]
    · rw [List.getElem?_eq_none (by rw [am_fs_len]; omega), List.getElem?_eq_none (by rw [am_fs_len]; omega)]
theorem am_fs_eq {o : Nat} (ho : ∀ j, am_fld (am_fk (am_cls o) j) M' R' o j = am_fld (am_fk (am_cls o) j) M R o j) : am_fs ad ar M' R' o = am_fs ad ar M R o := by
  unfold am_fs
  apply List.map_congr_left
  intro j _
  rw [ho j]
/-- memory that differs at one row of an object -/
theorem am_fld_row {o k o' k' a n : Nat} (hf : am_fk (am_cls o) k = (a, n)) (ha : a = 1 ∨ a = 2) (hM : ∀ o' k', ¬ (o' = o ∧ k' = k) → M' o' k' = M o' k') : am_fld (am_fk (am_cls o') k') M' R o' k' = am_fld (am_fk (am_cls o') k') M R o' k' := by
  by_cases h : o' = o ∧ k' = k
  · obtain ⟨rfl, rfl⟩ := h
    rw [hf]
    rcases ha with rfl | rfl <;> rfl
  · unfold am_fld
    split <;> first | rfl | rw [hM o' k' h]
theorem am_ent_row {o k a n : Nat} (hf : am_fk (am_cls o) k = (a, n)) (ha : a = 1 ∨ a = 2) (hM : ∀ o' k', ¬ (o' = o ∧ k' = k) → M' o' k' = M o' k') : ∀ c', c' ∈ am_cells → c' ≠ (o, some k) → am_ent ad ar tI tZ M' R c' = am_ent ad ar tI tZ M R c' := by
  rintro ⟨o', _ | k'⟩ hc' hne
  · show Sum.inr _ = Sum.inr _
    rw [am_fs_eq (fun j => am_fld_row hf ha hM)]
  · show Sum.inl _ = Sum.inl _
    rw [hM o' k' (fun h => hne (by rw [h.1, h.2]))]
/-- memory that differs at one number of an object -/
theorem am_ent_num {o k n : Nat} (hf : am_fk (am_cls o) k = (0, n)) (hM : ∀ o' k', ¬ (o' = o ∧ k' = k) → M' o' k' = M o' k') : ∀ c', c' ∈ am_cells → c' ≠ (o, none) → am_ent ad ar tI tZ M' R c' = am_ent ad ar tI tZ M R c' := by
  rintro ⟨o', _ | k'⟩ hc' hne
  · show Sum.inr _ = Sum.inr _
    rw [am_fs_eq (M' := M') (R' := R) (M := M) (R := R) (fun j => ?_)]
    unfold am_fld
    split <;> first | rfl | rw [hM o' j (fun h => hne (by rw [h.1]))]
  · show Sum.inl _ = Sum.inl _
    rw [hM o' k' (fun h => ?_)]
    obtain ⟨rfl, rfl⟩ := h
    have := (am_cell_inv hc').2
    rw [hf] at this
    cases this
theorem am_fld_num {o k n j : Nat} (hf : am_fk (am_cls o) k = (0, n)) (hM : ∀ o' k', ¬ (o' = o ∧ k' = k) → M' o' k' = M o' k') (hj : j ≠ k) : am_fld (am_fk (am_cls o) j) M' R o j = am_fld (am_fk (am_cls o) j) M R o j := by
  unfold am_fld
  split <;> first | rfl | rw [hM o j (fun h => hj h.2)]
theorem am_fld_ref {o k j v : Nat} (hj : j ≠ k) : am_fld (am_fk (am_cls o) j) M (am_upR R o k v) o j = am_fld (am_fk (am_cls o) j) M R o j := by
  unfold am_fld
  split <;> first | rfl | (unfold am_upR; rw [if_neg (fun h => hj h.2)])
theorem am_ent_ref {o k v : Nat} : ∀ c', c' ∈ am_cells → c' ≠ (o, none) → am_ent ad ar tI tZ M (am_upR R o k v) c' = am_ent ad ar tI tZ M R c' := by
  rintro ⟨o', _ | k'⟩ hc' hne
  · show Sum.inr _ = Sum.inr _
    rw [am_fs_eq (M' := M) (R' := am_upR R o k v) (M := M) (R := R) (fun j => ?_)]
    unfold am_fld
    split <;> first | rfl | (unfold am_upR; rw [if_neg (fun h => hne (by rw [h.1]))])
  · rfl
theorem am_up_off {o k i : Nat} {v : Int32} : ∀ o' k', ¬ (o' = o ∧ k' = k) → am_up M o k i v o' k' = M o' k' := by
  intro o' k' h
  funext i'
  unfold am_up
  rw [if_neg (fun q => h ⟨q.1, q.2.1⟩)]
theorem am_up_row {o k i : Nat} {v : Int32} : am_up M o k i v o k = upd (M o k) i v := by
  funext j
  unfold am_up upd
  by_cases h : j = i
  · rw [if_pos ⟨rfl, rfl, h⟩, if_pos h]
  · rw [if_neg (fun q => h q.2.2), if_neg h]
theorem am_cp_off {o0 k0 sp o1 k1 dp n : Nat} : ∀ o' k', ¬ (o' = o1 ∧ k' = k1) → am_cp M o0 k0 sp o1 k1 dp n o' k' = M o' k' := by
  intro o' k' h
  funext i'
  unfold am_cp
  rw [if_neg h]
theorem am_cp_row {o0 k0 sp o1 k1 dp n : Nat} : am_cp M o0 k0 sp o1 k1 dp n o1 k1 = va_cpy (M o0 k0) (M o1 k1) sp dp n := by
  funext j
  unfold am_cp
  rw [if_pos ⟨rfl, rfl⟩]
theorem am_okR_up {SL : Nat → Nat} {o k c c2 o2 : Nat} (h : am_okR R) (hf : am_fk (am_cls o) k = (3, c)) (hv : am_okV SL (aO c2 o2)) (hc : c2 = c) : am_okR (am_upR R o k o2) := by
  intro o' k' c' ho' hf'
  unfold am_upR
  by_cases q : o' = o ∧ k' = k
  · obtain ⟨rfl, rfl⟩ := q
    rw [if_pos ⟨rfl, rfl⟩]
    rw [hf] at hf'
    cases hf'
    exact ⟨hv.1, hv.2.trans hc⟩
  · rw [if_neg q]
    exact h o' k' c' ho' hf'
theorem am_okV_fld {SL : Nat → Nat} {o k : Nat} (h : am_okR R) (ho : o < 14) : am_okV SL (am_fld (am_fk (am_cls o) k) M R o k) := by
  unfold am_fld
  split
  · trivial
  · next n hf => exact ⟨ho, hf⟩
  · next n hf => exact ⟨ho, hf⟩
  · next c hf => exact h o k c ho hf
  · trivial
end AmW
