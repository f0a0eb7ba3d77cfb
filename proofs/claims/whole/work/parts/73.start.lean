/-! the start: what the constructors leave, in the small machine's words -/
def am_M0 : am_M := fun o k _ => match o, k with
  | 0, 8 => -1
  | 1, 5 => -1
  | 13, 15 => -1
  | _, _ => 0
def s0 : St := (fun _ _ => 0, fun _ _ => 0, fun _ _ => 0, -1, fun _ => false, fun _ _ _ => 0)
theorem tr_z {n : Nat} {f : Nat → Int32} {i : Nat} (h : f i = 0) : tr n f i = 0 := by
  unfold tr
  split
  · exact h
  · rfl
theorem s0_vc : vc am_M0 2 6 = fun _ _ => 0 := by
  funext f j
  unfold vc
  split <;> first | rfl | exact tr_z rfl
theorem s0_vm : vm am_M0 = fun _ _ => 0 := by
  funext f j
  unfold vm
  split <;> first | rfl | exact tr_z rfl
theorem s0_aC : aC am_M0 = fun _ _ => 0 := by
  funext f j
  unfold aC
  split <;> first | rfl | exact tr_z rfl
theorem s0_aM : aM am_M0 = fun _ _ => 0 := by
  funext f j
  unfold aM
  split <;> first | rfl | exact tr_z rfl
theorem s0_tC : tC am_M0 = fun _ _ => 0 := by
  funext f j
  unfold tC
  split <;> first | rfl | exact tr_z rfl
theorem s0_tM : tM am_M0 = fun _ _ => 0 := by
  funext f j
  unfold tM
  split <;> first | rfl | exact tr_z rfl
theorem s0_C : CRel am_M0 false s0 := by
  refine ⟨s0_vc, ?_, s0_aC, s0_tC, rfl, ⟨0, by decide, rfl, fun i _ => by simp [s0]⟩, fun i _ h => by cases h⟩
  intro p hp
  exact absurd hp (by show ¬ p < 0; omega)
theorem s0_M : MRel am_M0 s0 := ⟨s0_vm, s0_aM, s0_tM, rfl, fun i _ => rfl, fun i _ h => by cases h⟩
theorem s0_ok : SOk s0 := by
  have h0 : ∀ p : Nat, ¬ p < sN (fun _ _ => 0) := fun p => by show ¬ p < 0; omega
  refine ⟨⟨⟨by decide, rfl, by decide, rfl, by decide, rfl, ⟨0, by decide, rfl⟩, ⟨0, by decide, rfl⟩, fun p hp => absurd hp (h0 p)⟩, fun p hp => absurd hp (h0 p), ⟨0, by decide, rfl⟩, ⟨0, by decide, rfl⟩, by decide, fun p hp => absurd hp (by show ¬ p < 0; omega)⟩, ⟨0, by decide, rfl⟩, te_wa, ⟨0, by decide, rfl, fun j hj => absurd hj (by omega)⟩, fun i _ h => by cases h⟩
/-- addresses of the cells -/
def ctAd (q : Nat → Nat) (a : Nat → Nat → Nat) (c : Nat × Option Nat) : Nat := match c with
  | (o, none) => q o
  | (o, some k) => a o k
section Cw
variable {tI tZ : ClassId} {q : Nat → Nat} {a : Nat → Nat → Nat} {ar : Nat → Nat}
theorem ct_fs {o : Nat} {ad : Nat → Nat} {nm : Nat → Int32} {rf : Nat → Value} {done : List Nat} (h1 : ∀ k, k < am_nf (am_cls o) → am_arr (am_fk (am_cls o) k) = true → done.elem k = true ∧ ad k = a o k) (h2 : ∀ k, k < am_nf (am_cls o) → (am_fk (am_cls o) k).1 = 0 → nm k = am_M0 o k 0) (h3 : ∀ k, k < am_nf (am_cls o) → (am_fk (am_cls o) k).1 = 3 → rf k = .ref (q (Rs false o k))) :
    ctFs (am_cls o) ad nm rf done = am_fs (ctAd q a) ar am_M0 (Rs false) o := by
  unfold ctFs am_fs
  apply List.map_congr_left
  intro k hk
  have hk := List.mem_range.mp hk
  have h1 := h1 k hk
  have h2 := h2 k hk
  have h3 := h3 k hk
  unfold ctF
  generalize am_fk (am_cls o) k = f at h1 h2 h3 ⊢
  obtain ⟨f1, f2⟩ := f
  match f1, h1, h2, h3 with
  | 0, _, h2, _ =>
    show Value.int (nm k) = Value.int (am_M0 o k 0)
    rw [h2 rfl]
  | 1, h1, _, _ =>
    have h := h1 rfl
    show (bif done.elem k then Value.ref (ad k) else .null) = Value.ref (a o k)
    rw [h.1, h.2]
    rfl
  | 2, h1, _, _ =>
    have h := h1 rfl
    show (bif done.elem k then Value.ref (ad k) else .null) = Value.ref (a o k)
    rw [h.1, h.2]
    rfl
  | 3, _, _, h3 =>
    show rf k = Value.ref (q (Rs false o k))
    exact h3 rfl
  | n + 4, _, _, _ => rfl
def ctE (q : Nat → Nat) (a : Nat → Nat → Nat) (ar : Nat → Nat) (tI tZ : ClassId) (c : Nat × Option Nat) : Nat × va_E := (ctAd q a c, am_ent (ctAd q a) ar tI tZ am_M0 (Rs false) c)
def ctCo (o : Nat) (done : List Nat) : List (Nat × Option Nat) := (o, none) :: done.map (fun k => (o, some k))
theorem ct_world {o : Nat} {nm : Nat → Int32} {rf : Nat → Value} {done : List Nat} (h1 : ∀ k, k < am_nf (am_cls o) → am_arr (am_fk (am_cls o) k) = true → done.elem k = true) (h2 : ∀ k, k < am_nf (am_cls o) → (am_fk (am_cls o) k).1 = 0 → nm k = am_M0 o k 0) (h3 : ∀ k, k < am_nf (am_cls o) → (am_fk (am_cls o) k).1 = 3 → rf k = .ref (q (Rs false o k))) (h4 : ∀ k, k ∈ done → am_M0 o k 0 = 0) :
    ctO tI tZ (am_cls o) (q o) (a o) nm rf done = (ctCo o done).map (ctE q a ar tI tZ) := by
  unfold ctO ctCo
  rw [List.map_cons, List.map_map, ct_fs (q := q) (a := a) (ar := ar) (fun k hk ha => ⟨h1 k hk ha, rfl⟩) h2 h3]
  congr 1
  apply List.map_congr_left
  intro k hk
  have : am_M0 o k = fun _ => 0 := funext (fun i => h4 k hk)
  show (a o k, _) = (a o k, _)
  show (a o k, Sum.inl (ctT tI tZ (am_cls o) k, (am_fk (am_cls o) k).2, Sum.inl (fun _ => 0))) = (a o k, Sum.inl (ctT tI tZ (am_cls o) k, (am_fk (am_cls o) k).2, Sum.inl (am_M0 o k)))
  rw [this]
theorem ct_noref {o : Nat} (h : (List.range (am_nf (am_cls o))).all (fun k => !Nat.beq (am_fk (am_cls o) k).1 3) = true) {rf : Nat → Value} : ∀ k, k < am_nf (am_cls o) → (am_fk (am_cls o) k).1 = 3 → rf k = .ref (q (Rs false o k)) := by
  intro k hk h3
  have h1 := List.all_eq_true.mp h k (List.mem_range.mpr hk)
  rw [h3] at h1
  cases h1
def ctD7 : List Nat := ctR7.map (·.1) ++ ctR7b.map (·.1)
def ctSC (o : Nat) : List (Nat × Option Nat) := ctCo o (ctR4.map (·.1))
def ctPC (o o4 : Nat) : List (Nat × Option Nat) := ctCo o (ctR2.map (·.1)) ++ ctSC o4
def ctC6 : List (Nat × Option Nat) := (0, none) :: ([] ++ ctCo 1 (ctR3.map (·.1)) ++ ctPC 2 4 ++ ctPC 3 5 ++ ctSC 6 ++ ctSC 7 ++ ctSC 8 ++ ctSC 9 ++ ctCo 10 (ctR0.map (·.1)) ++ ctCo 11 (ctR5.map (·.1)) ++ ctCo 12 (ctR1.map (·.1)))
def ctCells : List (Nat × Option Nat) := ctC6 ++ ctCo 13 ctD7
theorem ct_cells : ∀ c ∈ am_cells, c ∈ ctCells := by decide +kernel
theorem ct_scene {o : Nat} (h : 4 ≤ o ∧ o ≤ 9) : ctSc tI tZ q a o = (ctSC o).map (ctE q a ar tI tZ) := by
  unfold ctSc ctSC
  rcases (show o = 4 ∨ o = 5 ∨ o = 6 ∨ o = 7 ∨ o = 8 ∨ o = 9 by omega) with rfl | rfl | rfl | rfl | rfl | rfl
  · exact ct_world (o := 4) (by decide +kernel) (by decide +kernel) (ct_noref (by decide +kernel)) (by decide +kernel)
  · exact ct_world (o := 5) (by decide +kernel) (by decide +kernel) (ct_noref (by decide +kernel)) (by decide +kernel)
  · exact ct_world (o := 6) (by decide +kernel) (by decide +kernel) (ct_noref (by decide +kernel)) (by decide +kernel)
  · exact ct_world (o := 7) (by decide +kernel) (by decide +kernel) (ct_noref (by decide +kernel)) (by decide +kernel)
  · exact ct_world (o := 8) (by decide +kernel) (by decide +kernel) (ct_noref (by decide +kernel)) (by decide +kernel)
  · exact ct_world (o := 9) (by decide +kernel) (by decide +kernel) (ct_noref (by decide +kernel)) (by decide +kernel)
theorem ct_only {o k0 : Nat} (h : (List.range (am_nf (am_cls o))).all (fun k => !Nat.beq (am_fk (am_cls o) k).1 3 || Nat.beq k k0) = true) {rf : Nat → Value} (h0 : rf k0 = .ref (q (Rs false o k0))) : ∀ k, k < am_nf (am_cls o) → (am_fk (am_cls o) k).1 = 3 → rf k = .ref (q (Rs false o k)) := by
  intro k hk h3
  have h1 := List.all_eq_true.mp h k (List.mem_range.mpr hk)
  rw [h3] at h1
  have h2 : k = k0 := Nat.eq_of_beq_eq_true h1
  rw [h2]
  exact h0
theorem ct_plan2 : ctPl tI tZ q a 2 4 = (ctPC 2 4).map (ctE q a ar tI tZ) := by
  unfold ctPl ctPC
  rw [List.map_append, ct_scene (ar := ar) (o := 4) (by decide)]
  congr 1
theorem ct_plan3 : ctPl tI tZ q a 3 5 = (ctPC 3 5).map (ctE q a ar tI tZ) := by
  unfold ctPl ctPC
  rw [List.map_append, ct_scene (ar := ar) (o := 5) (by decide)]
  congr 1
theorem ct_house : ctFs 6 (fun _ => 0) ctNm6 (ctRf6 q) [] = am_fs (ctAd q a) ar am_M0 (Rs false) 0 := by
  refine ct_fs (o := 0) (fun k hk ha => ?_) (by decide +kernel) (fun k hk h3 => ?_)
  · have h : (List.range (am_nf (am_cls 0))).all (fun k => !am_arr (am_fk (am_cls 0) k)) = true := by decide +kernel
    have h1 := List.all_eq_true.mp h k (List.mem_range.mpr hk)
    rw [ha] at h1
    cases h1
  · have hk : k < 12 := hk
    match k, hk, h3 with
    | 0, _, _ => rfl
    | 1, _, _ => rfl
    | 2, _, _ => rfl
    | 3, _, _ => rfl
    | 4, _, _ => rfl
    | 5, _, _ => rfl
    | 6, _, _ => rfl
    | 7, _, h3 => exact absurd h3 (by decide +kernel)
    | 8, _, h3 => exact absurd h3 (by decide +kernel)
    | 9, _, _ => rfl
    | 10, _, _ => rfl
    | 11, _, _ => rfl
    | n + 12, h, _ => exact absurd h (by omega)
theorem ct_W6 : ctW6 tI tZ q a = ctC6.map (ctE q a ar tI tZ) := by
  unfold ctW6 ctC6
  rw [List.map_cons]
  congr 1
theorem ct_W : ctW6 tI tZ q a ++ ctO tI tZ 7 (q 13) (a 13) (ctN (ctN (fun _ => 0) 15 (-1)) 0 0) (fun _ => .null) ctD7 = ctCells.map (ctE q a ar tI tZ) := by
  unfold ctCells
  rw [List.map_append, ct_W6 (ar := ar)]
  congr 1
theorem ct_toP {D : va_G} {H : Heap} (hP : va_P D vwCl (ctCells.map (ctE q a ar tI tZ)) H) : va_P D vwCl (am_ws (ctAd q a) ar tI tZ am_M0 (Rs false)) H := by
  intro k x hx
  obtain ⟨c, hc, rfl⟩ := am_ws_of hx
  obtain ⟨j, hj⟩ := List.getElem?_of_mem (ct_cells c (List.mem_of_getElem? hc))
  exact hP j (ctE q a ar tI tZ c) (by rw [List.getElem?_map, hj]; rfl)
theorem ct_toI {A : Nat → Prop} (hD : va_D A (ctCells.map (ctE q a ar tI tZ))) : (∀ c c', c ∈ am_cells → c' ∈ am_cells → ctAd q a c = ctAd q a c' → c = c') ∧ ∀ c, c ∈ am_cells → A (ctAd q a c) := by
  refine ⟨fun c c' hc hc' e => ?_, fun c hc => ?_⟩
  · obtain ⟨j, hj⟩ := List.getElem?_of_mem (ct_cells c hc)
    obtain ⟨j', hj'⟩ := List.getElem?_of_mem (ct_cells c' hc')
    have h := hD.1 j j' (ctE q a ar tI tZ c) (ctE q a ar tI tZ c') (by rw [List.getElem?_map, hj]; rfl) (by rw [List.getElem?_map, hj']; rfl) e
    rw [← h, hj] at hj'
    exact Option.some.inj hj'
  · obtain ⟨j, hj⟩ := List.getElem?_of_mem (ct_cells c hc)
    exact hD.2 j (ctE q a ar tI tZ c) (by rw [List.getElem?_map, hj]; rfl)
end Cw
