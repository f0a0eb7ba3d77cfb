/-! turns of the reference -/
theorem rvl {v f : Int32} {P : Int32 → Prop} (hv : (v = -1 ∧ f = -1) ∨ ∃ c, c < 32 ∧ v = nI c ∧ f = wy c) (h : P f) : (0 ≤ v → (¬ 4 = (0 : Int32) ∧ (¬ 4 = (0 : Int32) ∧ P (10 * (v / 4) + (v - v / 4 * 4))))) ∧ (¬ 0 ≤ v → P (-1)) := by
  rcases hv with ⟨e, e'⟩ | ⟨c, hc, e, e'⟩
  · subst e; subst e'
    exact ⟨fun z => absurd z (by decide), fun _ => h⟩
  · subst e; subst e'
    refine ⟨fun _ => ⟨by decide, by decide, ?_⟩, fun z => absurd (ix_le (n := 0) (q := c) (by omega) (by omega)) z⟩
    rw [n_rem4 (by omega), n_div4 (by omega), show (10 : Int32) * nI (c / 4) + nI (c % 4) = nI (10 * (c / 4) + c % 4) from by rw [show (10 : Int32) * nI (c / 4) = nI (10 * (c / 4)) from pk_mul 10 _, nI_add]]
    exact h
theorem tum {x5 a f0 f1 v0 v1 : Int32} {P : Int32 → Prop} (h : P (tuR (a, f0, f1) x5)) (ha : a < 0 → a = -1 ∧ f0 = -1 ∧ f1 = -1) (hv0 : (v0 = -1 ∧ f0 = -1) ∨ ∃ c, c < 32 ∧ v0 = nI c ∧ f0 = wy c) (hv1 : (v1 = -1 ∧ f1 = -1) ∨ ∃ c, c < 32 ∧ v1 = nI c ∧ f1 = wy c) :
    (a < 0 → P a) ∧ (¬ a < 0 → ((¬ x5 = -1 → ((¬ x5 = 0 → ((¬ x5 = 1 → ((0 ≤ (-1 : Int32) → (¬ 4 = (0 : Int32) ∧ (¬ 4 = (0 : Int32) ∧ P (10 * ((-1) / 4) + ((-1) - (-1) / 4 * 4))))) ∧ (¬ 0 ≤ (-1 : Int32) → P (-1)))) ∧ (x5 = 1 → ((0 ≤ v1 → (¬ 4 = (0 : Int32) ∧ (¬ 4 = (0 : Int32) ∧ P (10 * (v1 / 4) + (v1 - v1 / 4 * 4))))) ∧ (¬ 0 ≤ v1 → P (-1)))))) ∧ (x5 = 0 → ((0 ≤ v0 → (¬ 4 = (0 : Int32) ∧ (¬ 4 = (0 : Int32) ∧ P (10 * (v0 / 4) + (v0 - v0 / 4 * 4))))) ∧ (¬ 0 ≤ v0 → P (-1)))))) ∧ (x5 = -1 → P a))) := by
  unfold tuR at h
  refine ⟨fun q => ?_, fun q => ⟨fun n1 => ⟨fun n2 => ⟨fun n3 => ?_, fun n3 => rvl hv1 ?_⟩, fun n2 => rvl hv0 ?_⟩, fun n1 => ?_⟩⟩
  · obtain ⟨e1, e2, e3⟩ := ha q
    subst e1; subst e2; subst e3
    by_cases c1 : x5 = -1
    · rw [if_pos c1] at h; exact h
    · by_cases c2 : x5 = 0
      · rw [if_neg c1, if_pos c2] at h; exact h
      · by_cases c3 : x5 = 1
        · rw [if_neg c1, if_neg c2, if_pos c3] at h; exact h
        · rw [if_neg c1, if_neg c2, if_neg c3] at h; exact h
  · rw [if_neg n1, if_neg n2, if_neg n3] at h
    exact rvl (v := -1) (f := -1) (Or.inl ⟨rfl, rfl⟩) h
  · rw [if_neg n1, if_neg n2, if_pos n3] at h; exact h
  · rw [if_neg n1, if_pos n2] at h; exact h
  · rw [if_pos n1] at h; exact h
theorem okt_c2 {σ : Sc} {p t n K c1 : Nat} {set : Int32} (h : sF (okt σ p t set n) 0 K = some c1) : ∃ c2, sF (okc (tw σ (c1 / 4) (c1 % 4)) p t set n) (4 * (c1 / 4 + 1)) (4 * sN σ - 4 * (c1 / 4 + 1)) = some c2 := by
  have a := (sF_some h).2.2.1
  unfold okt at a
  rw [Bool.and_eq_true] at a
  exact Option.isSome_iff_exists.mp a.2
section Mturns
variable {E : Nat → Nat → Int32} {d : Nat} {Q : am_Q} {M : am_M} {R : am_R}
theorem m_X7_turns {x1 x2 x3 x4 x5 : Int32} (hF : Wf (vm M)) (hQ : ∀ M', eqX ftS M M' → (∀ j, j < 34 → M' 13 11 j = M 13 11 j) → Q (some (aI (tuA (vm M) x1 x2 x3 x4 x5))) M' R) : am_WM E (d + 8) 150 [aO 7 13, aI x1, aI x2, aI x3, aI x4, aI x5] M R Q := by
  have h8 := hF.1.1
  have hp2 := p2_le h8
  unfold tuA at hQ
  refine w_X7_turns (m_X7_isPicture hF.1.2.1 h8 (fun p hp e1 => k1e (m_X7_isThing (fun t ht e2 => k1e (m_X7_isSet hF.1 (fun z hz e3 => kv ⟨fun _ => ?_, fun q => absurd q (by decide)⟩) (fun a => kv ⟨fun q => absurd rfl q, fun _ => ?_⟩))) (fun a => k0e ?_))) (fun a => k0e ?_))
  · subst e1; subst e2
    rw [if_pos ⟨inN_mk hp (by omega), inN_mk ht (by omega), by rw [e3]; exact inN_mk hz (by omega)⟩, ix_cl (by omega), ix_cl (by omega)] at hQ
    refine m_X7_in (fun q => kv ⟨fun _ => ?_, fun q => absurd q (by decide)⟩) (fun q => kv ⟨fun q => absurd rfl q, fun _ => ?_⟩)
    · rw [Int32.toInt_toInt64] at q
      have q0 : (0 : Int) ≤ x4.toInt := q.1
      have q1 : x4.toInt ≤ 30 := q.2
      obtain ⟨n, e4⟩ : ∃ n : Nat, x4.toInt = n := ⟨x4.toInt.toNat, by omega⟩
      have e4' := i_of e4
      have hn : n < 31 := by omega
      subst e4'
      rw [if_pos (inN_mk hn (by omega)), ix_cl (by omega)] at hQ
      have tl : ∀ {a f0 f1 : Int32} {M3 : am_M}, ftI M M3 → twF (vm M) p t x3 n = (a, f0, f1) → (a < 0 → a = -1 ∧ f0 = -1 ∧ f1 = -1) → ((M3 13 36 0 = -1 ∧ f0 = -1) ∨ ∃ c, c < 32 ∧ M3 13 36 0 = nI c ∧ f0 = wy c) → ((M3 13 37 0 = -1 ∧ f1 = -1) ∨ ∃ c, c < 32 ∧ M3 13 37 0 = nI c ∧ f1 = wy c) → _ := fun {a f0 f1 M3} hx e g0 g1 g2 => tum (x5 := x5) (P := fun v => Q (some (aI v)) M3 R) (by have := hQ M3 hx.1 hx.2.1; rw [e] at this; exact this) g0 g1 g2
      refine m_X7_findTurns hF hp (by omega) rfl (fun so M3 hI a b => kv (tl (f0 := -1) (f1 := -1) hI ?_ (fun z => absurd z (by decide)) (Or.inl ⟨a, rfl⟩) (Or.inl ⟨b, rfl⟩))) (fun so code M3 hs hI a b => kv (tl (f0 := wy code) (f1 := -1) hI ?_ (fun z => absurd z (by decide)) (Or.inr ⟨code, by have := sF_some hs; omega, a, rfl⟩) (Or.inl ⟨b, rfl⟩))) (fun so hs code M3 hs1 hI a b => ?_) (fun so hs hs1 M3 hI => kv ⟨fun _ => ?_, fun z => absurd (by decide) z⟩)
      · unfold twF
        rw [if_pos (soB_iff.mpr so)]
      · unfold twF
        rw [if_neg (fun z => so (soB_iff.mp z)), hs]
      · cases hc : sF (okt (vm M) p t x3 n) 0 (4 * sN (vm M)) with
        | none => rw [flat_none rfl hc] at hs1; cases hs1
        | some c1 =>
          obtain ⟨c2, hc2⟩ := okt_c2 hc
          obtain ⟨f1, f2, f3⟩ := flat_some rfl hc hc2
          rw [f1] at hs1
          have ec : 4 * sN (vm M) * c1 + c2 = code := Option.some.inj hs1
          rw [← ec, f2] at a
          rw [← ec, f3] at b
          refine kv (tl (f0 := wy c1) (f1 := wy c2) hI ?_ (fun z => absurd z (by decide)) (Or.inr ⟨c1, by have := sF_some hc; omega, a, rfl⟩) (Or.inr ⟨c2, by have := sF_some hc2; omega, b, rfl⟩))
          unfold twF
          rw [if_neg (fun z => so (soB_iff.mp z)), hs]
          dsimp only
          rw [hc]
          dsimp only
          rw [hc2]
      · have e : twF (vm M) p t x3 n = (-1, -1, -1) := by
          unfold twF
          rw [if_neg (fun z => so (soB_iff.mp z)), hs]
          dsimp only
          cases hc : sF (okt (vm M) p t x3 n) 0 (4 * sN (vm M)) with
          | none => rfl
          | some c1 =>
            obtain ⟨c2, hc2⟩ := okt_c2 hc
            rw [(flat_some rfl hc hc2).1] at hs1; cases hs1
        have := hQ M3 hI.1 hI.2.1
        rw [e] at this
        exact (tum (v0 := -1) (v1 := -1) (P := fun v => Q (some (aI v)) M3 R) this (fun _ => ⟨rfl, rfl, rfl⟩) (Or.inl ⟨rfl, rfl⟩) (Or.inl ⟨rfl, rfl⟩)).1 (by decide)
    · rw [Int32.toInt_toInt64] at q
      rw [if_neg (fun z => q ⟨z.1, by show x4.toInt ≤ (30 : Int); have := z.2; omega⟩)] at hQ
      exact hQ M eqX_rfl (fun _ _ => rfl)
  · rw [if_neg (fun z => inN_not a z.2.2)] at hQ
    exact hQ M eqX_rfl (fun _ _ => rfl)
  · rw [if_neg (fun z => inN_not a z.2.1)] at hQ
    exact hQ M eqX_rfl (fun _ _ => rfl)
  · rw [if_neg (fun z => inN_not a z.1)] at hQ
    exact hQ M eqX_rfl (fun _ _ => rfl)
end Mturns
