/-! the state that both sides hold: scene, notes, text, fault, what is kept, images -/
def tC (M : am_M) : Sc := fun f j => match f with
  | 0 => M 1 1 0
  | 1 => tr (M 1 1 0).toNatClampNeg (M 1 0) j
  | _ => 0
def tM (M : am_M) : Sc := fun f j => match f with
  | 0 => M 13 14 0
  | 1 => tr (M 13 14 0).toNatClampNeg (M 13 13) j
  | _ => 0
/-- an image of the reference -/
def vi (M : am_M) (i : Nat) : Sc := fun f j => match f with
  | 5 => M 13 46 (35 * i + 33)
  | 6 => M 13 46 (35 * i + 32)
  | 7 => M 13 46 (35 * i + 34)
  | 11 => tr (M 13 2 0).toNatClampNeg (fun j => M 13 46 (35 * i + j)) j
  | 12 => tr (M 13 2 0).toNatClampNeg (fun j => M 13 46 (35 * i + (8 + j))) j
  | 13 => tr (M 13 2 0).toNatClampNeg (fun j => M 13 46 (35 * i + (16 + j))) j
  | 14 => tr (M 13 2 0).toNatClampNeg (fun j => M 13 46 (35 * i + (24 + j))) j
  | f => vm M f j
abbrev St : Type := Sc × Sc × Sc × Int32 × (Nat → Bool) × (Nat → Sc)
def CRel (M : am_M) (b : Bool) (s : St) : Prop := vc M (pl b) 6 = s.1 ∧ LkOk M (pl b) 6 ∧ aC M = s.2.1 ∧ tC M = s.2.2.1 ∧ M 0 8 0 = s.2.2.2.1 ∧ (∃ m, m < 4 ∧ M 0 7 0 = nI m ∧ ∀ i, i < 2 → m.testBit i = s.2.2.2.2.1 i) ∧ ∀ i, i < 2 → s.2.2.2.2.1 i = true → vc M (pl b) (8 + i) = s.2.2.2.2.2 i ∧ LkOk M (pl b) (8 + i)
def MRel (M : am_M) (s : St) : Prop := vm M = s.1 ∧ aM M = s.2.1 ∧ tM M = s.2.2.1 ∧ M 13 15 0 = s.2.2.2.1 ∧ (∀ i, i < 2 → M 13 47 i = if s.2.2.2.2.1 i = true then 1 else 0) ∧ ∀ i, i < 2 → s.2.2.2.2.1 i = true → vi M i = s.2.2.2.2.2 i
def hOk (σ : Sc) : Prop := ∃ h, h ≤ 90060 ∧ σ 5 0 = nI h
def TOk (τ : Sc) : Prop := ∃ n, n ≤ 240 ∧ τ 0 0 = nI n ∧ ∀ j, j < n → ∃ c, c < 256 ∧ τ 1 j = nI c
/-- what an image shares with the scene -/
def imF (f : Nat) : Bool := match f with
  | 5 => false | 6 => false | 7 => false | 11 => false | 12 => false | 13 => false | 14 => false
  | _ => true
def IOk (σ ι : Sc) : Prop := Wf ι ∧ hOk ι ∧ ∀ f, imF f = true → ι f = σ f
def SOk (s : St) : Prop := Wf s.1 ∧ hOk s.1 ∧ WA s.2.1 (sN s.1) ∧ TOk s.2.2.1 ∧ ∀ i, i < 2 → s.2.2.2.2.1 i = true → IOk s.1 (s.2.2.2.2.2 i)
theorem imF_no {f : Nat} (hf : ¬ imF f = true) : f = 5 ∨ f = 6 ∨ f = 7 ∨ f = 11 ∨ f = 12 ∨ f = 13 ∨ f = 14 := by
  unfold imF at hf
  split at hf <;> first | omega | exact absurd rfl hf
theorem vi_at {M : am_M} {i f j : Nat} (hf : imF f = true) : vi M i f j = vm M f j := by
  have h : ¬ (f = 5 ∨ f = 6 ∨ f = 7 ∨ f = 11 ∨ f = 12 ∨ f = 13 ∨ f = 14) := by
    rintro (rfl | rfl | rfl | rfl | rfl | rfl | rfl) <;> cases hf
  unfold vi
  split
  · omega
  · omega
  · omega
  · omega
  · omega
  · omega
  · omega
  · rfl
theorem vi_off {M M' : am_M} {i : Nat} (h46 : M' 13 46 = M 13 46) (hv : ∀ f, imF f = true → vm M' f = vm M f) : vi M' i = vi M i := by
  have e2 : M' 13 2 0 = M 13 2 0 := congrFun (hv 2 rfl) 0
  funext f j
  by_cases hf : imF f = true
  · rw [vi_at hf, vi_at hf, hv f hf]
  · rcases imF_no hf with rfl | rfl | rfl | rfl | rfl | rfl | rfl
    · exact congrFun h46 _
    · exact congrFun h46 _
    · exact congrFun h46 _
    · show tr (M' 13 2 0).toNatClampNeg (fun j => M' 13 46 (35 * i + j)) j = tr (M 13 2 0).toNatClampNeg (fun j => M 13 46 (35 * i + j)) j
      rw [h46, e2]
    · show tr (M' 13 2 0).toNatClampNeg (fun j => M' 13 46 (35 * i + (8 + j))) j = tr (M 13 2 0).toNatClampNeg (fun j => M 13 46 (35 * i + (8 + j))) j
      rw [h46, e2]
    · show tr (M' 13 2 0).toNatClampNeg (fun j => M' 13 46 (35 * i + (16 + j))) j = tr (M 13 2 0).toNatClampNeg (fun j => M 13 46 (35 * i + (16 + j))) j
      rw [h46, e2]
    · show tr (M' 13 2 0).toNatClampNeg (fun j => M' 13 46 (35 * i + (24 + j))) j = tr (M 13 2 0).toNatClampNeg (fun j => M 13 46 (35 * i + (24 + j))) j
      rw [h46, e2]
theorem tC_off {M M' : am_M} (h : ∀ k, M' 1 k = M 1 k) : tC M' = tC M := by
  funext f j
  unfold tC
  rw [h 0, h 1]
theorem tM_off {M M' : am_M} (h : ∀ k, k = 13 ∨ k = 14 → M' 13 k = M 13 k) : tM M' = tM M := by
  funext f j
  unfold tM
  rw [h 13 (Or.inl rfl), h 14 (Or.inr rfl)]
/-- the class's side when the reference moves, and the other way round -/
theorem CRel_o {M M' : am_M} {b : Bool} {s : St} (h : ∀ o, o ≠ 13 → M' o = M o) (hC : CRel M b s) : CRel M' b s := by
  have hpl : pl b ≠ 13 := pl_ne (by omega)
  have hv : ∀ c, c ≠ 13 → vc M' (pl b) c = vc M (pl b) c := fun c hc => vc_same (fun k => by rw [h _ hpl]) (fun k _ => by rw [h c hc])
  have hl : ∀ c, c ≠ 13 → LkOk M (pl b) c → LkOk M' (pl b) c := fun c hc hL => LkOk_of hL (hv c hc) (by rw [h c hc])
  obtain ⟨c1, c2, c3, c4, c5, c6, c7⟩ := hC
  refine ⟨by rw [hv 6 (by decide)]; exact c1, hl 6 (by decide) c2, ?_, ?_, by rw [h 0 (by decide)]; exact c5, by rw [h 0 (by decide)]; exact c6, fun i hi hk => ⟨by rw [hv _ (by omega)]; exact (c7 i hi hk).1, hl _ (by omega) (c7 i hi hk).2⟩⟩
  · rw [← c3]; unfold aC; rw [h 10 (by decide)]
  · rw [← c4]; exact tC_off (fun k => by rw [h 1 (by decide)])
theorem MRel_o {M M' : am_M} {s : St} (h : M' 13 = M 13) (hM : MRel M s) : MRel M' s := by
  obtain ⟨c1, c2, c3, c4, c5, c6⟩ := hM
  refine ⟨?_, ?_, ?_, by rw [h]; exact c4, fun i hi => by rw [h]; exact c5 i hi, fun i hi hk => ?_⟩
  · rw [← c1]; unfold vm; rw [h]
  · rw [← c2]; unfold aM; rw [h]
  · rw [← c3]; unfold tM; rw [h]
  · rw [← c6 i hi hk]; unfold vi vm; rw [h]
/-- the class's side when only its trial objects move -/
theorem CRel_t {S : List (Nat × Nat)} {M M' : am_M} {b : Bool} {s : St} (hX : eqX S M M') (hS : ∀ o k, (o, k) ∈ S → o = 7 ∨ o = 11 ∨ o = 12) (hC : CRel M b s) : CRel M' b s := by
  have h : ∀ o, o ≠ 7 → o ≠ 11 → o ≠ 12 → M' o = M o := fun o a1 a2 a3 => by
    funext k
    exact hX o k (fun z => by have := hS o k z; omega)
  have hpl : M' (pl b) = M (pl b) := h _ (pl_ne (by omega)) (pl_ne (by omega)) (pl_ne (by omega))
  have hv : ∀ c, c ≠ 7 → c ≠ 11 → c ≠ 12 → vc M' (pl b) c = vc M (pl b) c := fun c a1 a2 a3 => vc_same (fun k => by rw [hpl]) (fun k _ => by rw [h c a1 a2 a3])
  have hl : ∀ c, c ≠ 7 → c ≠ 11 → c ≠ 12 → LkOk M (pl b) c → LkOk M' (pl b) c := fun c a1 a2 a3 hL => LkOk_of hL (hv c a1 a2 a3) (by rw [h c a1 a2 a3])
  obtain ⟨c1, c2, c3, c4, c5, c6, c7⟩ := hC
  refine ⟨by rw [hv 6 (by decide) (by decide) (by decide)]; exact c1, hl 6 (by decide) (by decide) (by decide) c2, ?_, ?_, by rw [h 0 (by decide) (by decide) (by decide)]; exact c5, by rw [h 0 (by decide) (by decide) (by decide)]; exact c6, fun i hi hk => ⟨by rw [hv _ (by omega) (by omega) (by omega)]; exact (c7 i hi hk).1, hl _ (by omega) (by omega) (by omega) (c7 i hi hk).2⟩⟩
  · rw [← c3]; unfold aC; rw [h 10 (by decide) (by decide) (by decide)]
  · rw [← c4]; exact tC_off (fun k => by rw [h 1 (by decide) (by decide) (by decide)])
/-- what a trial of the reference may leave otherwise -/
def trF (k : Nat) : Bool := match k with
  | 3 => true | 11 => true | 34 => true | 35 => true | 36 => true | 37 => true | 42 => true
  | _ => false
theorem MRel_t {S : List (Nat × Nat)} {M M' : am_M} {s : St} (hX : eqX S M M') (hS : ∀ o k, (o, k) ∈ S → o = 13 ∧ trF k = true) (hv : vm M' = vm M) (hM : MRel M s) : MRel M' s := by
  have h : ∀ k, trF k = false → M' 13 k = M 13 k := fun k a => hX 13 k (fun z => by have := (hS 13 k z).2; rw [a] at this; cases this)
  obtain ⟨c1, c2, c3, c4, c5, c6⟩ := hM
  refine ⟨by rw [hv]; exact c1, ?_, ?_, by rw [h 15 rfl]; exact c4, fun i hi => by rw [h 47 rfl]; exact c5 i hi, fun i hi hk => ?_⟩
  · rw [← c2]; unfold aM; rw [h 38 rfl, h 39 rfl, h 40 rfl, h 41 rfl, h 43 rfl, h 44 rfl, h 45 rfl]
  · rw [← c3]; exact tM_off (fun k hk => by rcases hk with rfl | rfl <;> exact h _ rfl)
  · rw [← c6 i hi hk]; exact vi_off (h 46 rfl) (fun f _ => by rw [hv])
theorem eq13 {S : List (Nat × Nat)} {M M' : am_M} (hX : eqX S M M') (hS : ∀ k, (13, k) ∉ S) : M' 13 = M 13 := by
  funext k
  exact hX 13 k (hS k)
theorem eqo {S : List (Nat × Nat)} {M M' : am_M} (hX : eqX S M M') (hS : ∀ o k, (o, k) ∈ S → o = 13) : ∀ o, o ≠ 13 → M' o = M o := fun o ho => by
  funext k
  exact hX o k (fun z => ho (hS o k z))
theorem sel {c : Prop} [Decidable c] {a b : Int32} {F : Int32 → Prop} (h : F (if c then a else b)) : (c → F a) ∧ (¬ c → F b) := ⟨fun q => by rw [if_pos q] at h; exact h, fun q => by rw [if_neg q] at h; exact h⟩
