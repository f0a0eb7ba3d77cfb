/-! contracts over the state: what is asked and tried -/
abbrev KC (M : am_M) (b : Bool) (s : St) (a : Int32) (Q : am_Q) : Prop := ∀ M', M' 13 = M 13 → CRel M' b s → Q (some (aI a)) M' (Rs b)
abbrev KM (M : am_M) (R : am_R) (s : St) (a : Int32) (Q : am_Q) : Prop := ∀ M', (∀ o, o ≠ 13 → M' o = M o) → MRel M' s → Q (some (aI a)) M' R
theorem tuS_t : ∀ o k, (o, k) ∈ tuS → o = 7 ∨ o = 11 ∨ o = 12 := fun o k h => by simp [tuS] at h; omega
theorem cp7_t : ∀ o k, (o, k) ∈ cpS 7 → o = 7 ∨ o = 11 ∨ o = 12 := fun o k h => by simp [cpS] at h; omega
theorem psS_t : ∀ o k, (o, k) ∈ psS → o = 7 ∨ o = 11 ∨ o = 12 := fun o k h => by simp [psS] at h; omega
theorem trS_t : ∀ o k, (o, k) ∈ trS → o = 13 ∧ trF k = true := fun o k h => by simp [trS] at h; rcases h with ⟨rfl, rfl⟩ | ⟨rfl, rfl⟩ | ⟨rfl, rfl⟩ <;> exact ⟨rfl, rfl⟩
theorem ftS_t : ∀ o k, (o, k) ∈ ftS → o = 13 ∧ trF k = true := fun o k h => by simp [ftS] at h; rcases h with ⟨rfl, rfl⟩ | ⟨rfl, rfl⟩ | ⟨rfl, rfl⟩ | ⟨rfl, rfl⟩ | ⟨rfl, rfl⟩ <;> exact ⟨rfl, rfl⟩
theorem kiS_t : ∀ o k, (o, k) ∈ kiS → o = 13 ∧ trF k = true := fun o k h => by simp [kiS] at h; rcases h with ⟨rfl, rfl⟩ | ⟨rfl, rfl⟩ | ⟨rfl, rfl⟩ | ⟨rfl, rfl⟩ <;> exact ⟨rfl, rfl⟩
theorem wyS_t : ∀ o k, (o, k) ∈ wyS → o = 13 ∧ trF k = true := fun o k h => by simp [wyS] at h; rcases h with ⟨rfl, rfl⟩ | ⟨rfl, rfl⟩ | ⟨rfl, rfl⟩ | ⟨rfl, rfl⟩ <;> exact ⟨rfl, rfl⟩
def toA (σ α τ : Sc) (x : Int32) : Int32 := if x.toInt = 0 then σ 0 0 else if x.toInt = 1 then σ 1 0 else if x.toInt = 2 then σ 2 0 else if x.toInt = 3 then σ 3 0 else if x.toInt = 4 then σ 4 0 else if x.toInt = 5 then τ 0 0 else if x.toInt = 6 then σ 5 0 else if x.toInt = 7 then σ 6 0 else if x.toInt = 8 then orF (σ 14) 0 (sN σ) 0 else if x.toInt = 9 then α 0 0 else if x.toInt = 10 then α 4 0 else -1000000002
def piA (σ : Sc) (x1 x2 : Int32) : Int32 := if inN x1 (sN σ) then (if x2.toInt = 0 then σ 10 x1.toNatClampNeg else if x2.toInt = 1 then σ 11 x1.toNatClampNeg else if x2.toInt = 2 then σ 12 x1.toNatClampNeg else if x2.toInt = 3 then σ 13 x1.toNatClampNeg else if x2.toInt = 4 then σ 14 x1.toNatClampNeg else if x2.toInt = 5 then lk σ x1.toNatClampNeg else -1000000002) else -1000000001
def onA (σ : Sc) (x1 x2 : Int32) : Int32 := if cellP σ x1 x2 then onF σ x1 x2 else -1000000001
def cgA (σ : Sc) (x1 x2 : Int32) : Int32 := if inN x2 3 then (if inN x1 (sC σ) then (if x2 = 0 then σ 17 x1.toNatClampNeg else if x2 = 1 then σ 18 x1.toNatClampNeg else σ 19 x1.toNatClampNeg) else -1) else -1000000002
section Tried
variable {E : Nat → Nat → Int32} {d : Nat} {Q : am_Q} {M : am_M} {R : am_R} {b : Bool} {s : St} {x1 x2 x3 x4 x5 : Int32}
theorem CR_F (hR : CRel M b s) (hS : SOk s) : Wf (vc M (pl b) 6) := by rw [hR.1]; exact hS.1
theorem CR_A (hR : CRel M b s) (hS : SOk s) : WA (aC M) (sN (vc M (pl b) 6)) := by rw [hR.1, hR.2.2.1]; exact hS.2.2.1
theorem CR_5 (hR : CRel M b s) (hS : SOk s) : ∃ h, h ≤ 90060 ∧ vc M (pl b) 6 5 0 = nI h := by rw [hR.1]; exact hS.2.1
theorem MR_F (hR : MRel M s) (hS : SOk s) : Wf (vm M) := by rw [hR.1]; exact hS.1
theorem MR_A (hR : MRel M s) (hS : SOk s) : WA (aM M) (sN (vm M)) := by rw [hR.1, hR.2.1]; exact hS.2.2.1
theorem MR_5 (hR : MRel M s) (hS : SOk s) : ∃ h, h ≤ 90060 ∧ vm M 5 0 = nI h := by rw [hR.1]; exact hS.2.1
theorem MR_t {S : List (Nat × Nat)} {M' : am_M} (hR : MRel M s) (hS : SOk s) (hX : eqX S M M') (hT : ∀ o k, (o, k) ∈ S → o = 13 ∧ trF k = true) (h3 : (13, 3) ∉ S) (h11 : ∀ j, j < 34 → M' 13 11 j = M 13 11 j) : MRel M' s := by
  refine MRel_t hX hT (vm_now h11 (fun k h1 h2 => hX 13 k (fun z => ?_)) (MR_F hR hS).1.1) hR
  have := (hT 13 k z).2
  rcases (by omega : k = 0 ∨ k = 1 ∨ k = 2 ∨ k = 3 ∨ k = 4 ∨ k = 5 ∨ k = 6 ∨ k = 7 ∨ k = 8 ∨ k = 9 ∨ k = 10 ∨ k = 12) with rfl | rfl | rfl | rfl | rfl | rfl | rfl | rfl | rfl | rfl | rfl | rfl <;> first | exact h3 z | cases this
theorem c_when (hR : CRel M b s) (hS : SOk s) (hQ : KC M b s (whA s.1 x1 x2) Q) : am_WM E (d + 3) 75 [aO 6 0, aI x1, aI x2] M (Rs b) Q := by
  obtain ⟨h, hh, h5⟩ := CR_5 hR hS
  exact m_X6_when (CR_F hR hS) hR.2.1 h5 (by omega) (by rw [hR.1]; exact hQ M rfl hR)
theorem r_when (hR : MRel M s) (hS : SOk s) (hQ : KM M R s (whA s.1 x1 x2) Q) : am_WM E (d + 7) 144 [aO 7 13, aI x1, aI x2] M R Q := by
  obtain ⟨h, hh, h5⟩ := MR_5 hR hS
  exact m_X7_when (MR_F hR hS) h5 (fun M' hX h11 => by rw [hR.1]; exact hQ M' (eqo hX (fun o k z => (trS_t o k z).1)) (MR_t hR hS hX trS_t (by simp [trS]) h11))
theorem c_all (hR : CRel M b s) (hS : SOk s) (hQ : KC M b s (alA s.1 x1 x2) Q) : am_WM E (d + 3) 80 [aO 6 0, aI x1, aI x2] M (Rs b) Q := by
  obtain ⟨h, hh, h5⟩ := CR_5 hR hS
  exact m_X6_all (CR_F hR hS) hR.2.1 h5 (by omega) (by rw [hR.1]; exact hQ M rfl hR)
theorem r_all (hR : MRel M s) (hS : SOk s) (hQ : KM M R s (alA s.1 x1 x2) Q) : am_WM E (d + 7) 145 [aO 7 13, aI x1, aI x2] M R Q := by
  obtain ⟨h, hh, h5⟩ := MR_5 hR hS
  exact m_X7_all (MR_F hR hS) h5 (fun M' hX h11 => by rw [hR.1]; exact hQ M' (eqo hX (fun o k z => (trS_t o k z).1)) (MR_t hR hS hX trS_t (by simp [trS]) h11))
theorem c_hidden (hR : CRel M b s) (hS : SOk s) (hQ : KC M b s (hiA s.1 x1) Q) : am_WM E (d + 4) 76 [aO 6 0, aI x1] M (Rs b) Q := by
  obtain ⟨h, hh, h5⟩ := CR_5 hR hS
  exact m_X6_hidden (CR_F hR hS) hR.2.1 h5 (by omega) (by rw [hR.1]; exact hQ M rfl hR)
theorem r_hidden (hR : MRel M s) (hS : SOk s) (hQ : KM M R s (hiA s.1 x1) Q) : am_WM E (d + 6) 146 [aO 7 13, aI x1] M R Q := by
  obtain ⟨h, hh, h5⟩ := MR_5 hR hS
  exact m_X7_hidden (MR_F hR hS) h5 (by omega) (fun M' hX h11 => by rw [hR.1]; exact hQ M' (eqo hX (fun o k z => (trS_t o k z).1)) (MR_t hR hS hX trS_t (by simp [trS]) h11))
theorem c_turns (hE : stepE E) (hR : CRel M b s) (hS : SOk s) (hQ : KC M b s (tuA s.1 x1 x2 x3 x4 x5) Q) : am_WM E (d + 7) 77 [aO 6 0, aI x1, aI x2, aI x3, aI x4, aI x5] M (Rs b) Q := by
  obtain ⟨h, hh, h5⟩ := CR_5 hR hS
  exact m_X6_turns hE (CR_F hR hS) hR.2.1 h5 (by omega) (fun M' hX => by rw [hR.1]; exact hQ M' (eq13 hX (by simp [tuS])) (CRel_t hX tuS_t hR))
theorem r_turns (hR : MRel M s) (hS : SOk s) (hQ : KM M R s (tuA s.1 x1 x2 x3 x4 x5) Q) : am_WM E (d + 8) 150 [aO 7 13, aI x1, aI x2, aI x3, aI x4, aI x5] M R Q :=
  m_X7_turns (MR_F hR hS) (fun M' hX h11 => by rw [hR.1]; exact hQ M' (eqo hX (fun o k z => (ftS_t o k z).1)) (MR_t hR hS hX ftS_t (by simp [ftS]) h11))
theorem c_walled (hE : stepE E) (hR : CRel M b s) (hS : SOk s) (hQ : KC M b s (waA s.1 x1 x2 x3 x4) Q) : am_WM E (d + 6) 78 [aO 6 0, aI x1, aI x2, aI x3, aI x4] M (Rs b) Q := by
  obtain ⟨h, hh, h5⟩ := CR_5 hR hS
  exact m_X6_walled hE (CR_F hR hS) hR.2.1 h5 (by omega) (fun M' hX => by rw [hR.1]; exact hQ M' (eq13 hX (by simp [cpS])) (CRel_t hX cp7_t hR))
theorem r_walled (hR : MRel M s) (hS : SOk s) (hQ : KM M R s (waA s.1 x1 x2 x3 x4) Q) : am_WM E (d + 7) 151 [aO 7 13, aI x1, aI x2, aI x3, aI x4] M R Q := by
  obtain ⟨h, hh, h5⟩ := MR_5 hR hS
  exact m_X7_walled (MR_F hR hS) h5 (by omega) (fun M' hX h11 => by rw [hR.1]; exact hQ M' (eqo hX (fun o k z => (ftS_t o k z).1)) (MR_t hR hS hX ftS_t (by simp [ftS]) h11))
theorem c_kinds (hE : stepE E) (hR : CRel M b s) (hS : SOk s) (hQ : KC M b s (kiA s.1 x1 x2 x3) Q) : am_WM E (d + 5) 79 [aO 6 0, aI x1, aI x2, aI x3] M (Rs b) Q := by
  obtain ⟨h, hh, h5⟩ := CR_5 hR hS
  exact m_X6_kinds hE (CR_F hR hS) h5 (by omega) (fun M' hX => by rw [hR.1]; exact hQ M' (eq13 hX (by simp [cpS])) (CRel_t hX cp7_t hR))
theorem r_kinds (hR : MRel M s) (hS : SOk s) (hQ : KM M R s (kiA s.1 x1 x2 x3) Q) : am_WM E (d + 6) 152 [aO 7 13, aI x1, aI x2, aI x3] M R Q := by
  obtain ⟨h, hh, h5⟩ := MR_5 hR hS
  exact m_X7_kinds (MR_F hR hS) h5 (by omega) (fun M' hX hv => by rw [hR.1]; exact hQ M' (eqo hX (fun o k z => (kiS_t o k z).1)) (MRel_t hX kiS_t hv hR))
theorem c_common (hR : CRel M b s) (hS : SOk s) (hQ : KC M b s (coA s.1 x1) Q) : am_WM E (d + 2) 81 [aO 6 0, aI x1] M (Rs b) Q :=
  m_X6_common (CR_F hR hS) (by rw [hR.1]; exact hQ M rfl hR)
theorem r_common (hR : MRel M s) (hS : SOk s) (hQ : KM M R s (coA s.1 x1) Q) : am_WM E (d + 3) 153 [aO 7 13, aI x1] M R Q :=
  m_X7_common (MR_F hR hS) (by rw [hR.1]; exact hQ M (fun _ _ => rfl) hR)
theorem c_safe (hR : CRel M b s) (hQ : KC M b s (sfA x1 x2) Q) : am_WM E (d + 1) 82 [aO 6 0, aI x1, aI x2] M (Rs b) Q := m_X6_safe (hQ M rfl hR)
theorem r_safe (hR : MRel M s) (hQ : KM M R s (sfA x1 x2) Q) : am_WM E (d + 2) 154 [aO 7 13, aI x1, aI x2] M R Q := m_X7_safe (hQ M (fun _ _ => rfl) hR)
theorem c_came (hR : CRel M b s) (hS : SOk s) (hQ : KC M b s (caA s.1 s.2.1 x1 x2) Q) : am_WM E (d + 4) 84 [aO 6 0, aI x1, aI x2] M (Rs b) Q := by
  obtain ⟨h, hh, h5⟩ := CR_5 hR hS
  exact m_X6_came (CR_F hR hS) hR.2.1 h5 (by omega) (CR_A hR hS) (fun M' hX => by rw [hR.1, hR.2.2.1]; exact hQ M' (eq13 hX (by simp [psS])) (CRel_t hX psS_t hR))
theorem r_came (hR : MRel M s) (hS : SOk s) (hQ : KM M R s (caA s.1 s.2.1 x1 x2) Q) : am_WM E (d + 7) 158 [aO 7 13, aI x1, aI x2] M R Q := by
  obtain ⟨h, hh, h5⟩ := MR_5 hR hS
  exact m_X7_came (MR_F hR hS) h5 (by omega) (MR_F hR hS).1.1 (MR_A hR hS) (fun M' hX h11 => by rw [hR.1, hR.2.1]; exact hQ M' (eqo hX (fun o k z => (wyS_t o k z).1)) (MR_t hR hS hX wyS_t (by simp [wyS]) h11))
theorem c_next (hR : CRel M b s) (hS : SOk s) (hQ : KC M b s (nxA s.1 s.2.1 x1) Q) : am_WM E (d + 4) 85 [aO 6 0, aI x1] M (Rs b) Q := by
  obtain ⟨h, hh, h5⟩ := CR_5 hR hS
  exact m_X6_next (CR_F hR hS) hR.2.1 h5 (by omega) (CR_A hR hS) (fun M' hX => by rw [hR.1, hR.2.2.1]; exact hQ M' (eq13 hX (by simp [psS])) (CRel_t hX psS_t hR))
theorem r_next (hR : MRel M s) (hS : SOk s) (hQ : KM M R s (nxA s.1 s.2.1 x1) Q) : am_WM E (d + 7) 159 [aO 7 13, aI x1] M R Q := by
  obtain ⟨h, hh, h5⟩ := MR_5 hR hS
  exact m_X7_next (MR_F hR hS) h5 (by omega) (MR_F hR hS).1.1 (MR_A hR hS) (fun M' hX h11 => by rw [hR.1, hR.2.1]; exact hQ M' (eqo hX (fun o k z => (wyS_t o k z).1)) (MR_t hR hS hX wyS_t (by simp [wyS]) h11))
theorem c_judge (hR : CRel M b s) (hS : SOk s) (hQ : KC M b s (juA s.1 s.2.1) Q) : am_WM E (d + 3) 88 [aO 6 0] M (Rs b) Q :=
  m_X6_judge (CR_F hR hS).1 (CR_A hR hS) (by rw [hR.1, hR.2.2.1]; exact hQ M rfl hR)
theorem r_judge (hR : MRel M s) (hS : SOk s) (hQ : KM M R s (juA s.1 s.2.1) Q) : am_WM E (d + 1) 162 [aO 7 13] M R Q :=
  m_X7_judge (MR_F hR hS).1 (MR_A hR hS) (by rw [hR.1, hR.2.1]; exact hQ M (fun _ _ => rfl) hR)
theorem c_fault (hR : CRel M b s) (hQ : KC M b s s.2.2.2.1 Q) : am_WM E (d + 1) 65 [aO 6 0] M (Rs b) Q :=
  w_X6_fault (by rw [hR.2.2.2.2.1]; exact hQ M rfl hR)
theorem r_fault (hR : MRel M s) (hQ : KM M R s s.2.2.2.1 Q) : am_WM E (d + 1) 121 [aO 7 13] M R Q :=
  w_X7_fault (by rw [hR.2.2.2.1]; exact hQ M (fun _ _ => rfl) hR)
theorem c_told (hR : CRel M b s) (hS : SOk s) (hQ : KC M b s (toA s.1 s.2.1 s.2.2.1 x1) Q) : am_WM E (d + 2) 66 [aO 6 0, aI x1] M (Rs b) Q := by
  have h0 : Q (some (aI (toA (vc M (pl b) 6) (aC M) (tC M) x1))) M (Rs b) := by rw [hR.1, hR.2.2.1, hR.2.2.2.1]; exact hQ M rfl hR
  unfold toA at h0
  have h0 := sel (F := fun z => Q (some (aI z)) M (Rs b)) h0
  refine w_X6_told ⟨h0.1, fun e0 => ?_⟩
  have h1 := sel (F := fun z => Q (some (aI z)) M (Rs b)) (h0.2 e0)
  refine ⟨h1.1, fun e1 => ?_⟩
  have h2 := sel (F := fun z => Q (some (aI z)) M (Rs b)) (h1.2 e1)
  refine ⟨h2.1, fun e2 => ?_⟩
  have h3 := sel (F := fun z => Q (some (aI z)) M (Rs b)) (h2.2 e2)
  refine ⟨h3.1, fun e3 => ?_⟩
  have h4 := sel (F := fun z => Q (some (aI z)) M (Rs b)) (h3.2 e3)
  refine ⟨h4.1, fun e4 => ?_⟩
  have h5 := sel (F := fun z => Q (some (aI z)) M (Rs b)) (h4.2 e4)
  refine ⟨h5.1, fun e5 => ?_⟩
  have h6 := sel (F := fun z => Q (some (aI z)) M (Rs b)) (h5.2 e5)
  refine ⟨h6.1, fun e6 => ?_⟩
  have h7 := sel (F := fun z => Q (some (aI z)) M (Rs b)) (h6.2 e6)
  refine ⟨h7.1, fun e7 => ?_⟩
  have h8 := sel (F := fun z => Q (some (aI z)) M (Rs b)) (h7.2 e7)
  refine ⟨fun e8 => m_X4_knownToSomebody (g := pl b) (CR_F hR hS).1 (kv (h8.1 e8)), fun e8 => ?_⟩
  have h9 := sel (F := fun z => Q (some (aI z)) M (Rs b)) (h8.2 e8)
  refine ⟨h9.1, fun e9 => ?_⟩
  exact sel (F := fun z => Q (some (aI z)) M (Rs b)) (h9.2 e9)
theorem r_told (hR : MRel M s) (hS : SOk s) (hQ : KM M R s (toA s.1 s.2.1 s.2.2.1 x1) Q) : am_WM E (d + 2) 123 [aO 7 13, aI x1] M R Q := by
  have h0 : Q (some (aI (toA (vm M) (aM M) (tM M) x1))) M R := by rw [hR.1, hR.2.1, hR.2.2.1]; exact hQ M (fun _ _ => rfl) hR
  unfold toA at h0
  have h0 := sel (F := fun z => Q (some (aI z)) M R) h0
  refine w_X7_told ⟨h0.1, fun e0 => ?_⟩
  have h1 := sel (F := fun z => Q (some (aI z)) M R) (h0.2 e0)
  refine ⟨h1.1, fun e1 => ?_⟩
  have h2 := sel (F := fun z => Q (some (aI z)) M R) (h1.2 e1)
  refine ⟨h2.1, fun e2 => ?_⟩
  have h3 := sel (F := fun z => Q (some (aI z)) M R) (h2.2 e2)
  refine ⟨h3.1, fun e3 => ?_⟩
  have h4 := sel (F := fun z => Q (some (aI z)) M R) (h3.2 e3)
  refine ⟨h4.1, fun e4 => ?_⟩
  have h5 := sel (F := fun z => Q (some (aI z)) M R) (h4.2 e4)
  refine ⟨h5.1, fun e5 => ?_⟩
  have h6 := sel (F := fun z => Q (some (aI z)) M R) (h5.2 e5)
  refine ⟨fun e6 => ⟨ix_in (n := 33) (by omega) (by omega), h6.1 e6⟩, fun e6 => ?_⟩
  have h7 := sel (F := fun z => Q (some (aI z)) M R) (h6.2 e6)
  refine ⟨fun e7 => ⟨ix_in (n := 32) (by omega) (by omega), h7.1 e7⟩, fun e7 => ?_⟩
  have h8 := sel (F := fun z => Q (some (aI z)) M R) (h7.2 e7)
  refine ⟨fun e8 => m_X7_known (MR_F hR hS).1 (kv (h8.1 e8)), fun e8 => ?_⟩
  have h9 := sel (F := fun z => Q (some (aI z)) M R) (h8.2 e8)
  refine ⟨h9.1, fun e9 => ?_⟩
  exact sel (F := fun z => Q (some (aI z)) M R) (h9.2 e9)
theorem c_picture (hR : CRel M b s) (hS : SOk s) (hQ : KC M b s (piA s.1 x1 x2) Q) : am_WM E (d + 2) 67 [aO 6 0, aI x1, aI x2] M (Rs b) Q := by
  have hF := CR_F hR hS
  have h8 := hF.1.1
  have h0 : Q (some (aI (piA (vc M (pl b) 6) x1 x2))) M (Rs b) := by rw [hR.1]; exact hQ M rfl hR
  unfold piA at h0
  refine w_X6_picture (m_X4_has hF.1.2.1 h8 (fun p hp e => kv ⟨fun _ => ?_, fun q => absurd q (by decide)⟩) (fun a => kv ⟨fun q => absurd rfl q, fun _ => ?_⟩))
  · subst e
    rw [if_pos (inN_mk hp (by omega)), ix_cl (n := p) (by omega), show vc M (pl b) 6 10 p = M 6 4 p from tr_lt hp, show vc M (pl b) 6 11 p = M 6 5 p from tr_lt hp, show vc M (pl b) 6 12 p = M 6 6 p from tr_lt hp, show vc M (pl b) 6 13 p = M 6 7 p from tr_lt hp, show vc M (pl b) 6 14 p = M 6 8 p from tr_lt hp, ← hR.2.1 p hp] at h0
    rw [ix_cl (n := p) (by omega)]
    have hin : vp_in (nI p) 8 := ix_in (by omega) (by omega)
    have h0 := sel (F := fun z => Q (some (aI z)) M (Rs b)) h0
    refine ⟨fun e => ⟨hin, h0.1 e⟩, fun e0 => ?_⟩
    have h1 := sel (F := fun z => Q (some (aI z)) M (Rs b)) (h0.2 e0)
    refine ⟨fun e => ⟨hin, h1.1 e⟩, fun e1 => ?_⟩
    have h2 := sel (F := fun z => Q (some (aI z)) M (Rs b)) (h1.2 e1)
    refine ⟨fun e => ⟨hin, h2.1 e⟩, fun e2 => ?_⟩
    have h3 := sel (F := fun z => Q (some (aI z)) M (Rs b)) (h2.2 e2)
    refine ⟨fun e => ⟨hin, h3.1 e⟩, fun e3 => ?_⟩
    have h4 := sel (F := fun z => Q (some (aI z)) M (Rs b)) (h3.2 e3)
    refine ⟨fun e => ⟨hin, h4.1 e⟩, fun e4 => ?_⟩
    have h5 := sel (F := fun z => Q (some (aI z)) M (Rs b)) (h4.2 e4)
    exact ⟨fun e => ⟨hin, h5.1 e⟩, h5.2⟩
  · rw [if_neg (inN_not a)] at h0
    exact h0
theorem r_picture (hR : MRel M s) (hS : SOk s) (hQ : KM M R s (piA s.1 x1 x2) Q) : am_WM E (d + 4) 126 [aO 7 13, aI x1, aI x2] M R Q := by
  have hF := MR_F hR hS
  have h8 := hF.1.1
  have h0 : Q (some (aI (piA (vm M) x1 x2))) M R := by rw [hR.1]; exact hQ M (fun _ _ => rfl) hR
  unfold piA at h0
  refine w_X7_picture (m_X7_isPicture hF.1.2.1 h8 (fun p hp e => kv ⟨fun _ => ?_, fun q => absurd q (by decide)⟩) (fun a => kv ⟨fun q => absurd rfl q, fun _ => ?_⟩))
  · subst e
    rw [if_pos (inN_mk hp (by omega)), ix_cl (n := p) (by omega), show vm M 10 p = M 13 3 p from tr_lt hp, show vm M 11 p = M 13 11 p from tr_lt (f := fun j => M 13 11 j) hp, show vm M 12 p = M 13 11 (8 + p) from tr_lt (f := fun j => M 13 11 (8 + j)) hp, show vm M 13 p = M 13 11 (16 + p) from tr_lt (f := fun j => M 13 11 (16 + j)) hp, show vm M 14 p = M 13 11 (24 + p) from tr_lt (f := fun j => M 13 11 (24 + j)) hp] at h0
    rw [show (8 : Int32) + nI p = nI (8 + p) from nI_add 8 p, show (16 : Int32) + nI p = nI (16 + p) from nI_add 16 p, show (24 : Int32) + nI p = nI (24 + p) from nI_add 24 p, ix_cl (n := p) (by omega), ix_cl (n := 8 + p) (by omega), ix_cl (n := 16 + p) (by omega), ix_cl (n := 24 + p) (by omega)]
    have h0 := sel (F := fun z => Q (some (aI z)) M R) h0
    refine ⟨fun e => ⟨ix_in (by omega) (by omega), h0.1 e⟩, fun e0 => ?_⟩
    have h1 := sel (F := fun z => Q (some (aI z)) M R) (h0.2 e0)
    refine ⟨fun e => ⟨ix_in (by omega) (by omega), h1.1 e⟩, fun e1 => ?_⟩
    have h2 := sel (F := fun z => Q (some (aI z)) M R) (h1.2 e1)
    refine ⟨fun e => ⟨ix_in (by omega) (by omega), h2.1 e⟩, fun e2 => ?_⟩
    have h3 := sel (F := fun z => Q (some (aI z)) M R) (h2.2 e2)
    refine ⟨fun e => ⟨ix_in (by omega) (by omega), h3.1 e⟩, fun e3 => ?_⟩
    have h4 := sel (F := fun z => Q (some (aI z)) M R) (h3.2 e3)
    refine ⟨fun e => ⟨ix_in (by omega) (by omega), h4.1 e⟩, fun e4 => ?_⟩
    have h5 := sel (F := fun z => Q (some (aI z)) M R) (h4.2 e4)
    exact ⟨fun e => m_X7_looksAt hF.1 hp (kv (h5.1 e)), h5.2⟩
  · rw [if_neg (inN_not a)] at h0
    exact h0
theorem c_on (hR : CRel M b s) (hS : SOk s) (hQ : KC M b s (onA s.1 x1 x2) Q) : am_WM E (d + 3) 68 [aO 6 0, aI x1, aI x2] M (Rs b) Q := by
  have hF := CR_F hR hS
  have h0 : Q (some (aI (onA (vc M (pl b) 6) x1 x2))) M (Rs b) := by rw [hR.1]; exact hQ M rfl hR
  have h0 := sel (F := fun z => Q (some (aI z)) M (Rs b)) h0
  exact w_X6_on (m_X2_hasCell (c := 6) (fun a => kv ⟨fun _ => m_X4_whatIsOn (g := pl b) (c := 6) hF.1.2.1 hF.1.1 hF.1.2.2.2.1 hF.1.2.2.1 (kv (h0.1 a)), fun q => absurd q (by decide)⟩) (fun a => kv ⟨fun q => absurd rfl q, fun _ => h0.2 a⟩))
theorem r_on (hR : MRel M s) (hS : SOk s) (hQ : KM M R s (onA s.1 x1 x2) Q) : am_WM E (d + 3) 127 [aO 7 13, aI x1, aI x2] M R Q := by
  have hF := MR_F hR hS
  have h0 : Q (some (aI (onA (vm M) x1 x2))) M R := by rw [hR.1]; exact hQ M (fun _ _ => rfl) hR
  have h0 := sel (F := fun z => Q (some (aI z)) M R) h0
  obtain ⟨w, hw, ew⟩ := hF.1.2.2.2.2.2.2.1
  obtain ⟨h', hh', eh⟩ := hF.1.2.2.2.2.2.2.2.1
  exact w_X7_on (m_X7_isCell ew eh hw hh' (fun a => k1e (m_X7_onCell hF.1.2.1 hF.1.1 hF.1.2.2.2.1 hF.1.2.2.1 (kv (h0.1 a)))) (fun a => k0e (h0.2 a)))
theorem c_coming (hR : CRel M b s) (hS : SOk s) (hQ : KC M b s (cgA s.1 x1 x2) Q) : am_WM E (d + 1) 69 [aO 6 0, aI x1, aI x2] M (Rs b) Q := by
  have hF := CR_F hR hS
  have hC : M (pl b) 3 0 = nI (sC (vc M (pl b) 6)) := hF.1.2.2.2.2.2.1
  have h8 : sC (vc M (pl b) 6) ≤ 8 := hF.1.2.2.2.2.1
  have h0 : Q (some (aI (cgA (vc M (pl b) 6) x1 x2))) M (Rs b) := by rw [hR.1]; exact hQ M rfl hR
  unfold cgA at h0
  refine w_X6_coming ?_
  rw [hC]
  rcases inN_or (x := x2) (n := 3) (by omega) with ⟨m, hm, e, hin2⟩ | ⟨hx, hno⟩
  · rw [if_pos hin2] at h0
    refine ⟨fun q => absurd q (by rw [e]; exact ix_lt (by omega)), fun _ => ⟨fun _ => ?_, fun q => absurd (by rw [e]; exact ix_le (n := m) (q := 2) (by omega) (by omega)) q⟩⟩
    rcases inN_or (x := x1) (n := sC (vc M (pl b) 6)) (by omega) with ⟨n, hn, e1, hin1⟩ | ⟨hx, hno⟩
    · rw [if_pos hin1] at h0
      subst e1
      rw [ix_cl (n := n) (by omega)] at h0 ⊢
      have hin : vp_in (nI n) 8 := ix_in (by omega) (by omega)
      rw [show vc M (pl b) 6 17 n = M (pl b) 7 n from tr_lt hn, show vc M (pl b) 6 18 n = M (pl b) 8 n from tr_lt hn, show vc M (pl b) 6 19 n = M (pl b) 9 n from tr_lt hn] at h0
      have h0 := sel (F := fun z => Q (some (aI z)) M (Rs b)) h0
      refine ⟨fun q => absurd q (ix_lt (by omega)), fun _ => ⟨fun _ => ⟨fun z => ?_, fun z => ⟨hin, h0.1 z⟩⟩, fun q => absurd (nI_lt hn (by omega)) q⟩⟩
      have h1 := sel (F := fun z => Q (some (aI z)) M (Rs b)) (h0.2 z)
      exact ⟨fun y => ⟨hin, h1.2 y⟩, fun y => ⟨hin, h1.1 y⟩⟩
    · rw [if_neg hno] at h0
      exact ⟨fun _ => h0, fun q => ⟨fun y => absurd y (Int32.not_lt.mpr (hx.resolve_left q)), fun _ => h0⟩⟩
  · rw [if_neg hno] at h0
    exact ⟨fun _ => h0, fun q => ⟨fun q2 => absurd q2 (fun z => hx.elim q (fun y => ix_ge (q := 2) (n := 3) (by omega) (by omega) (Int32.le_trans y z))), fun _ => h0⟩⟩
theorem r_coming (hR : MRel M s) (hS : SOk s) (hQ : KM M R s (cgA s.1 x1 x2) Q) : am_WM E (d + 2) 128 [aO 7 13, aI x1, aI x2] M R Q := by
  have hF := MR_F hR hS
  have hC : M 13 7 0 = nI (sC (vm M)) := hF.1.2.2.2.2.2.1
  have h8 : sC (vm M) ≤ 8 := hF.1.2.2.2.2.1
  have h0 : Q (some (aI (cgA (vm M) x1 x2))) M R := by rw [hR.1]; exact hQ M (fun _ _ => rfl) hR
  unfold cgA at h0
  refine w_X7_coming (m_X7_in (fun q => kv ⟨fun _ => ?_, fun z => absurd z (by decide)⟩) (fun q => kv ⟨fun z => absurd rfl z, fun _ => ?_⟩))
  · rw [Int32.toInt_toInt64] at q
    have q0 : (0 : Int) ≤ x2.toInt := q.1
    have q1 : x2.toInt ≤ 2 := q.2
    rw [if_pos (show inN x2 3 from ⟨q0, by omega⟩)] at h0
    rw [hC]
    have e1 : (nI (sC (vm M)) - 1).toInt = (sC (vm M) : Int) - 1 := by rw [i_sub1 (by rw [nI_toInt (by omega)]; omega), nI_toInt (by omega)]
    refine m_X7_in (fun q => kv ⟨fun _ => ?_, fun z => absurd z (by decide)⟩) (fun q => kv ⟨fun z => absurd rfl z, fun _ => ?_⟩)
    · rw [Int32.toInt_toInt64, Int32.toInt_toInt64, e1] at q
      have q0 : (0 : Int) ≤ x1.toInt := q.1
      rw [if_pos (show inN x1 (sC (vm M)) from ⟨q0, by omega⟩)] at h0
      obtain ⟨n, e4⟩ : ∃ n : Nat, x1.toInt = n := ⟨x1.toInt.toNat, by omega⟩
      have e4' := i_of e4
      have hn : n < sC (vm M) := by omega
      subst e4'
      rw [ix_cl (n := n) (by omega)] at h0 ⊢
      have hin : vp_in (nI n) 8 := ix_in (by omega) (by omega)
      rw [show vm M 17 n = M 13 8 n from tr_lt hn, show vm M 18 n = M 13 9 n from tr_lt hn, show vm M 19 n = M 13 10 n from tr_lt hn] at h0
      have h0 := sel (F := fun z => Q (some (aI z)) M R) h0
      refine ⟨fun z => ?_, fun z => ⟨hin, h0.1 z⟩⟩
      have h1 := sel (F := fun z => Q (some (aI z)) M R) (h0.2 z)
      exact ⟨fun y => ⟨hin, h1.2 y⟩, fun y => ⟨hin, h1.1 y⟩⟩
    · rw [Int32.toInt_toInt64, Int32.toInt_toInt64, e1] at q
      rw [if_neg (show ¬ inN x1 (sC (vm M)) from fun z => q ⟨z.1, by have := z.2; omega⟩)] at h0
      exact h0
  · rw [Int32.toInt_toInt64] at q
    rw [if_neg (show ¬ inN x2 3 from fun z => q ⟨z.1, by show x2.toInt ≤ (2 : Int); have := z.2; omega⟩)] at h0
    exact h0
end Tried
