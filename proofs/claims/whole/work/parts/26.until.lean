/-! the class: the fewest hours, by the chain -/
def huF (σ : Sc) (t h p : Nat) : Int32 := match uF σ t h 9 p with | some u => nI u | none => 1000000
theorem uF_bd {σ : Sc} {t h : Nat} : ∀ (f p u : Nat), uF σ t h f p = some u → u ≤ f + 31
  | 0, _, _, hu => by cases hu
  | f + 1, p, u, hu => by
    by_cases hp : psP σ t p
    · rw [uF_ps hp] at hu
      cases hv : uF σ t h f (nxF σ p) with
      | none => rw [hv] at hu; cases hu
      | some v =>
        rw [hv] at hu
        have hu : v + 1 = u := Option.some.inj hu
        have := uF_bd f _ v hv
        omega
    · unfold uF at hu
      by_cases h1 : bt (σ 14 p) t = true
      · rw [if_pos h1] at hu
        cases hu
        omega
      · rw [if_neg h1] at hu
        by_cases h2 : bt (openF σ p) t = true
        · rw [if_pos h2] at hu
          by_cases h3 : srcF σ p < 0
          · rw [if_pos h3] at hu; cases hu
          · rw [if_neg h3] at hu
            by_cases h4 : srcF σ p < 10
            · exact absurd ⟨h1, h2, h3, h4⟩ hp
            · rw [if_neg h4] at hu
              cases hv : fhO σ ((srcF σ p).toNatClampNeg - 10) t h with
              | none => rw [hv] at hu; cases hu
              | some v =>
                rw [hv] at hu
                have hu : v + 1 = u := Option.some.inj hu
                have := sF_some hv
                omega
        · rw [if_neg h2] at hu; cases hu
def fhP (σ : Sc) (q t h : Nat) (j z : Nat) : Prop := σ 18 j = nI q ∧ σ 19 j = nI t ∧ σ 17 j = nI z ∧ h ≤ z
def fhI (σ : Sc) (q t h i : Nat) (a : Int32) : Prop := (a = 1000000 ∧ ∀ j z, j < i → z ≤ 30 → ¬ fhP σ q t h j z) ∨ ∃ z, z ≤ 30 ∧ a = nI z ∧ (∃ j, j < i ∧ fhP σ q t h j z) ∧ ∀ j z', j < i → z' ≤ 30 → fhP σ q t h j z' → z ≤ z'
theorem fhI_end {σ : Sc} {q t h : Nat} (hF : Wf σ) (hh : h ≤ 100000) {a : Int32} (hi : fhI σ q t h (sC σ) a) : a = match fhO σ q t h with | some j => nI (h + j) | none => 1000000 := by
  rcases hi with ⟨ea, hno⟩ | ⟨z, hz, ea, ⟨j, hj, h1, h2, h3, h4⟩, hmin⟩
  · cases hv : fhO σ q t h with
    | none => exact ea
    | some v =>
      exfalso
      obtain ⟨-, hv2, hv1, -⟩ := sF_some hv
      obtain ⟨j, hj, h1, h2, h3⟩ := cB_iff.mp hv1
      obtain ⟨⟨z, hz, ez⟩, -⟩ := hF.2.2.2.2.2 j hj
      rw [ez, nI_eq (by omega) (by omega)] at h2
      exact hno j z hj hz ⟨h1, h3, ez, by omega⟩
  · cases hv : fhO σ q t h with
    | none =>
      exfalso
      have := sF_none hv (z - h) (Nat.zero_le _) (by omega)
      rw [show h + (z - h) = z from by omega] at this
      rw [cB_iff.mpr ⟨j, hj, h1, h3, h2⟩] at this
      cases this
    | some v =>
      obtain ⟨-, hv2, hv1, hv3⟩ := sF_some hv
      have hle : z ≤ h + v := by
        obtain ⟨j', hj', g1, g2, g3⟩ := cB_iff.mp hv1
        obtain ⟨⟨z', hz', ez'⟩, -⟩ := hF.2.2.2.2.2 j' hj'
        have e : z' = h + v := by rw [ez', nI_eq (by omega) (by omega)] at g2; exact g2
        have := hmin j' z' hj' hz' ⟨g1, g3, ez', by omega⟩
        omega
      have hge : h + v ≤ z := by
        rcases Nat.lt_or_ge (z - h) v with y | y
        · have := hv3 (z - h) (Nat.zero_le _) y
          rw [show h + (z - h) = z from by omega] at this
          rw [cB_iff.mpr ⟨j, hj, h1, h3, h2⟩] at this
          cases this
        · omega
      show a = nI (h + v)
      rw [ea]
      congr 1
      omega
section Until
variable {E : Nat → Nat → Int32} {d : Nat} {Q : am_Q} {M : am_M} {R : am_R} {g c : Nat}
theorem m_X6_holds {s : Int32} {k : Nat} (h1 : bt s k = true → Q (some (aI 1)) M R) (h0 : bt s k = false → Q (some (aI 0)) M R) : am_WM E (d + 1) 98 [aI s, aI (nI k)] M R Q := by
  refine w_X6_holds ⟨fun q => ret0 (h0 (bt_f q)), fun q => ret1 (h1 (bt_t q))⟩
theorem first_loop {q t h : Nat} (hF : Wf (vc M g c)) (hq : q < 4) (ht : t < 8) (hh : h ≤ 100000) (hQ : ∀ a, fhI (vc M g c) q t h (sC (vc M g c)) a → Q (some (aI a)) M R) : ∀ (k i : Nat) (a : Int32), i + k = sC (vc M g c) → fhI (vc M g c) q t h i a → am_WP E (am_WM E d) am_L_X2_firstHourBy Q 7 [aO 2 g, aI (nI q), aI (nI t), aI (nI h), aI a, aI (nI i), aU] [] M R := by
  have hC : M g 3 0 = nI (sC (vc M g c)) := hF.1.2.2.2.2.2.1
  have h8 := hF.1.2.2.2.2.1
  have hcm := hF.2.2.2.2.2
  intro k
  induction k with
  | zero =>
    intro i a hi hA
    refine w_X2_firstHourBy_7 ?_
    rw [hC]
    have : i = sC (vc M g c) := by omega
    subst this
    exact ⟨fun _ => hQ a hA, fun q => absurd (ix_le (by omega) (by omega)) q⟩
  | succ k ih =>
    intro i a hi hA
    have e1 : vc M g c 18 i = M g 8 i := tr_lt (show i < sC (vc M g c) by omega)
    have e2 : vc M g c 17 i = M g 7 i := tr_lt (show i < sC (vc M g c) by omega)
    have e3 : vc M g c 19 i = M g 9 i := tr_lt (show i < sC (vc M g c) by omega)
    obtain ⟨⟨z, hz, ez⟩, -⟩ := hcm i (by omega)
    have hskip : (∀ z', z' ≤ 30 → fhP (vc M g c) q t h i z' → ∃ w, a = nI w ∧ w ≤ z' ∧ w ≤ 30) → am_WP E (am_WM E d) am_L_X2_firstHourBy Q 7 [aO 2 g, aI (nI q), aI (nI t), aI (nI h), aI a, aI (nI (i + 1)), aU] [] M R := by
      intro hs
      refine ih (i + 1) a (by omega) ?_
      rcases hA with ⟨ea, hno⟩ | ⟨w, hw, ea, ⟨j, hj, hj2⟩, hmin⟩
      · refine Or.inl ⟨ea, fun j z' hj hz' hf => ?_⟩
        by_cases e : j = i
        · subst e
          obtain ⟨w, hw, -, hw2⟩ := hs z' hz' hf
          rw [ea, i_eq, nI_toInt (by omega)] at hw
          have : (1000000 : Int) = w := hw
          omega
        · exact hno j z' (by omega) hz' hf
      · refine Or.inr ⟨w, hw, ea, ⟨j, by omega, hj2⟩, fun j' z' hj' hz' hf => ?_⟩
        by_cases e : j' = i
        · subst e
          obtain ⟨w', hw', hw2, hw3⟩ := hs z' hz' hf
          rw [ea, ix_eq (by omega) (by omega)] at hw'
          omega
        · exact hmin j' z' (by omega) hz' hf
    have k45 : ∀ b : Int32, (b = 1 ∧ vc M g c 18 i = nI q ∧ vc M g c 19 i = nI t) ∨ (b = 0 ∧ ¬ (vc M g c 18 i = nI q ∧ vc M g c 19 i = nI t)) → am_WP E (am_WM E d) am_L_X2_firstHourBy Q 45 [aO 2 g, aI (nI q), aI (nI t), aI (nI h), aI a, aI (nI i), aI b] [] M R := by
      intro b hb
      refine w_X2_firstHourBy_45 ?_
      rw [ix_cl (by omega), nI_1, ← e2, ez]
      rcases hb with ⟨rfl, g1, g2⟩ | ⟨rfl, hno⟩
      · refine ⟨fun q => absurd q (by decide), fun _ => ⟨ix_in (by omega) (by omega), fun q => hskip ?_, fun q => ⟨ix_in (by omega) (by omega), fun q2 => hskip ?_, fun q2 => ⟨ix_in (by omega) (by omega), ih (i + 1) _ (by omega) ?_⟩⟩⟩⟩
        · rintro z' hz' ⟨-, -, f3, f4⟩
          rw [ez, ix_eq (by omega) (by omega)] at f3
          rw [nI_ltI (by omega) (by omega)] at q
          omega
        · rintro z' hz' ⟨-, -, f3, f4⟩
          rw [ez, ix_eq (by omega) (by omega)] at f3
          subst f3
          rcases hA with ⟨ea, hno⟩ | ⟨w, hw, ea, -⟩
          · rw [ea, i_le, nI_toInt (by omega)] at q2
            have : (1000000 : Int) ≤ z := q2
            omega
          · rw [ea, nI_leI (by omega) (by omega)] at q2
            exact ⟨w, ea, q2, hw⟩
        · rw [nI_ltI (by omega) (by omega)] at q
          refine Or.inr ⟨z, hz, rfl, ⟨i, by omega, g1, g2, ez, by omega⟩, fun j z' hj hz' hf => ?_⟩
          by_cases e : j = i
          · subst e
            have f3 := hf.2.2.1
            rw [ez, ix_eq (by omega) (by omega)] at f3
            omega
          · rcases hA with ⟨ea, hno⟩ | ⟨w, hw, ea, -, hmin⟩
            · exact absurd hf (hno j z' (by omega) hz')
            · rw [ea, nI_leI (by omega) (by omega)] at q2
              have := hmin j z' (by omega) hz' hf
              omega
      · refine ⟨fun _ => hskip (fun z' hz' hf => absurd ⟨hf.1, hf.2.1⟩ hno), fun q => absurd rfl q⟩
    refine w_X2_firstHourBy_7 ?_
    rw [hC, ix_cl (by omega), ← e1, ← e3]
    exact ⟨fun q => absurd q (ix_ge (by omega) (by omega)), fun _ => ⟨ix_in (by omega) (by omega), fun q => k45 0 (Or.inr ⟨rfl, fun z => q z.1⟩), fun q => ⟨ix_in (by omega) (by omega), fun q2 => k45 0 (Or.inr ⟨rfl, fun z => q2 z.2⟩), fun q2 => k45 1 (Or.inl ⟨rfl, q, q2⟩)⟩⟩⟩
theorem m_X2_firstHourBy {q t h : Nat} (hF : Wf (vc M g c)) (hq : q < 4) (ht : t < 8) (hh : h ≤ 100000) (hQ : Q (some (aI (match fhO (vc M g c) q t h with | some j => nI (h + j) | none => 1000000))) M R) : am_WM E (d + 1) 19 [aO 2 g, aI (nI q), aI (nI t), aI (nI h)] M R Q := by
  refine w_X2_firstHourBy ?_
  refine first_loop (c := c) hF hq ht hh (fun a ha => ?_) (sC (vc M g c)) 0 1000000 (by omega) (Or.inl ⟨rfl, fun j z hj => absurd hj (by omega)⟩)
  rw [fhI_end hF hh ha]
  exact hQ
/-- looks that are those of another scene, which differs in ways alone -/
def LkV (M : am_M) (g c : Nat) (τ : Sc) : Prop := (∀ f, f ≠ 13 → τ f = vc M g c f) ∧ ∀ p, p < sN (vc M g c) → M c 9 p = lk τ p
theorem LkV_self (h : LkOk M g c) : LkV M g c (vc M g c) := ⟨fun _ _ => rfl, h⟩
theorem m_X4_sourceV {τ : Sc} {p : Nat} (hn : M c 0 0 = nI (sN τ)) (h8 : sN τ ≤ 8) (h4 : sD τ ≤ 4) (hp : p < sN τ) (hL : LkV M g c τ) (h : Q (some (aI (srcF τ p))) M R) : am_WM E (d + 1) 51 [aO 4 c, aI (nI p)] M R Q := by
  have eN : sN (vc M g c) = sN τ := by unfold sN; rw [hL.1 2 (by decide)]
  refine w_X4_sourceOf ?_
  rw [ix_cl (by omega), hL.2 p (by rw [eN]; exact hp), hn]
  refine ⟨ix_in (by omega) (by omega), ?_⟩
  unfold srcF at h
  rcases lookF_cases τ p (τ 13 p).toNatClampNeg with e | ⟨q, hq, e⟩ | ⟨q, hq, e⟩
  · have e : lk τ p = -1 := e
    rw [e] at h ⊢
    exact ⟨fun _ => h, fun a => absurd (by decide) a⟩
  · have e : lk τ p = nI q := e
    rw [e] at h ⊢
    have hlt : nI q < 10 := nI_lt (b := 10) (by omega) (by omega)
    have hpos : ¬ nI q < 0 := ix_lt (by omega)
    have e10 : τ 10 q = M c 4 q := by rw [hL.1 10 (by decide)]; exact tr_lt (show q < sN (vc M g c) by rw [eN]; exact hq)
    rw [if_neg (by simpa using hlt), if_neg hpos, ix_cl (by omega), e10] at h
    rw [ix_cl (by omega)]
    refine ⟨fun a => absurd a hpos, fun _ => ⟨fun a => absurd a (ix_ge hq (by omega)), fun _ => ⟨ix_in (by omega) (by omega), fun a => ?_, fun a => ?_⟩⟩⟩
    · rw [if_neg a] at h; exact h
    · rw [if_pos a] at h; exact h
  · have e : lk τ p = nI (10 + q) := e
    rw [e] at h ⊢
    have hge : ¬ nI (10 + q) < 10 := nI_nlt (b := 10) (by omega) (by omega)
    rw [if_pos hge] at h
    exact ⟨fun a => absurd a (ix_lt (by omega)), fun _ => ⟨fun _ => h, fun a => absurd (ix_le (by omega) (by omega)) a⟩⟩
theorem fhO_congr {σ τ : Sc} (h : ∀ f, f ≠ 13 → τ f = σ f) (q t hr : Nat) : fhO τ q t hr = fhO σ q t hr := by
  unfold fhO cB sC
  rw [h 4 (by decide), h 17 (by decide), h 18 (by decide), h 19 (by decide)]
theorem until_loop {τ : Sc} {t h : Nat} (hT : Wf τ) (hF : Wf (vc M g c)) (hL : LkV M g c τ) (h5 : τ 5 0 = nI h) (hh : h ≤ 100000) (ht : t < 8) : ∀ (k l p : Nat), l + k = 9 → p < sN τ → Q (some (aI (match uF τ t h k p with | some u => nI (l + u) | none => 1000000))) M R → am_WP E (am_WM E (d + 1)) am_L_X4_hoursUntil Q 6 [aO 4 c, aO 2 g, aU, aI (nI t), aI (nI p), aI (nI l), aU, aU] [] M R := by
  have eN : sN (vc M g c) = sN τ := by unfold sN; rw [hL.1 2 (by decide)]
  have h8 := hT.1.1
  have h8' := hF.1.1
  have hn' : M c 0 0 = nI (sN (vc M g c)) := hF.1.2.1
  have hn : M c 0 0 = nI (sN τ) := by rw [← eN]; exact hn'
  have h4 := hT.1.2.2.1
  have eo : ∀ p, openF (vc M g c) p = openF τ p := fun p => by unfold openF blindP; rw [hL.1 10 (by decide), hL.1 6 (by decide)]
  intro k
  induction k with
  | zero =>
    intro l p hl hp hA
    have : l = 9 := by omega
    subst this
    refine w_X4_hoursUntil_6 ⟨fun _ => hA, fun q => absurd (by decide) q⟩
  | succ k ih =>
    intro l p hl hp hA
    refine w_X4_hoursUntil_6 ⟨fun q => absurd q (nI_nlt (a := 8) (by omega) (by omega)), fun _ => m_X4_has (g := g) hn' h8' (fun q hq eq => k1e ⟨ix_in (by omega) (by omega), ?_⟩) (fun hne => absurd rfl (hne p (by rw [eN]; exact hp)))⟩
    have e14 : τ 14 p = M c 8 p := by rw [hL.1 14 (by decide)]; exact tr_lt (show p < sN (vc M g c) by rw [eN]; exact hp)
    rw [ix_cl (by omega), ← e14]
    unfold uF at hA
    refine m_X6_holds (fun b => k1e ?_) (fun b => k0e (m_X4_openTo (g := g) h8' (by rw [eN]; exact hp) (kv ?_)))
    · rw [if_pos b] at hA; exact hA
    rw [eo]
    refine m_X6_holds (fun b2 => k1n (m_X4_sourceV (g := g) hn h8 h4 hp hL (kv ?_))) (fun b2 => k0n ?_)
    · rw [if_neg (by rw [b]; decide), if_pos b2] at hA
      rw [nI_1]
      rcases srcF_cases τ p h8 h4 with es | ⟨q, hq, es, -⟩ | ⟨q, hq, es, -⟩
      · rw [es, if_pos (by decide)] at hA
        rw [es]
        refine ⟨fun _ => ?_, fun q => absurd (by decide) q⟩
        by_cases hl9 : l + 1 = 9
        · rw [hl9]
          exact w_X4_hoursUntil_6 ⟨fun _ => hA, fun q => absurd (by decide) q⟩
        · exact w_X4_hoursUntil_6 ⟨fun _ => hA, fun _ => m_X4_has (g := g) hn' h8' (fun q hq eq => absurd eq.symm (ix_neg1 (by omega))) (fun _ => k0e hA)⟩
      · have hlt : nI q < 10 := nI_lt (b := 10) (by omega) (by omega)
        rw [es, if_neg (ix_lt (by omega)), if_pos hlt, ix_cl (by omega)] at hA
        rw [es]
        refine ⟨fun _ => ih (l + 1) q (by omega) hq ?_, fun z => absurd hlt z⟩
        cases hv : uF τ t h k q with
        | none => rw [hv] at hA; exact hA
        | some v =>
          rw [hv] at hA
          show Q (some (aI (nI (l + 1 + v)))) M R
          rw [show l + 1 + v = l + (v + 1) from by omega]
          exact hA
      · have hge : ¬ nI (10 + q) < 10 := nI_nlt (b := 10) (by omega) (by omega)
        have e2 : nI (10 + q) - 10 = nI q := by rw [show nI (10 + q) - 10 = nI (10 + q - 10) from pk_sub (b := 10) (by omega)]; congr 1; omega
        rw [es, if_neg (ix_lt (by omega)), if_neg hge, ix_cl (by omega), show 10 + q - 10 = q from by omega, fhO_congr hL.1] at hA
        have h5' : M c 2 0 = nI h := by rw [← h5, hL.1 5 (by decide)]; rfl
        rw [es, e2, h5']
        refine ⟨fun z => absurd z hge, fun _ => m_X2_firstHourBy (c := c) hF (by omega) ht hh (kv ?_)⟩
        rw [h5']
        cases hv : fhO (vc M g c) q t h with
        | none =>
          rw [hv] at hA
          exact ⟨fun z => absurd rfl z, fun _ => hA⟩
        | some v =>
          rw [hv] at hA
          have hv2 := (sF_some hv).2.1
          refine ⟨fun _ => ?_, fun z => ?_⟩
          · show Q (some (aI (nI (h + v) - nI h + 1 + nI l))) M R
            rw [pk_sub (by omega), nI_1, nI_add, show h + v - h + 1 + l = l + (v + 1) from by omega]
            exact hA
          · exfalso
            have z : nI (h + v) = 1000000 := z
            rw [i_eq, nI_toInt (by omega)] at z
            have : ((h + v : Nat) : Int) = 1000000 := z
            omega
    · rw [if_neg (by rw [b]; decide), if_neg (by rw [b2]; decide)] at hA; exact hA
theorem m_X4_hoursUntilV {τ : Sc} {t h p : Nat} (hT : Wf τ) (hF : Wf (vc M g c)) (hL : LkV M g c τ) (h5 : τ 5 0 = nI h) (hh : h ≤ 100000) (ht : t < 8) (hp : p < sN τ) (hQ : Q (some (aI (huF τ t h p))) M R) : am_WM E (d + 2) 53 [aO 4 c, aO 2 g, aI (nI p), aI (nI t)] M R Q := by
  refine w_X4_hoursUntil ?_
  refine until_loop hT hF hL h5 hh ht 9 0 p (by omega) hp ?_
  unfold huF at hQ
  cases hv : uF τ t h 9 p with
  | none => rw [hv] at hQ; exact hQ
  | some u =>
    rw [hv] at hQ
    show Q (some (aI (nI (0 + u)))) M R
    rw [Nat.zero_add]
    exact hQ
theorem m_X4_hoursUntil {t h p : Nat} (hF : Wf (vc M g c)) (hL : LkOk M g c) (h5 : vc M g c 5 0 = nI h) (hh : h ≤ 100000) (ht : t < 8) (hp : p < sN (vc M g c)) (hQ : Q (some (aI (huF (vc M g c) t h p))) M R) : am_WM E (d + 2) 53 [aO 4 c, aO 2 g, aI (nI p), aI (nI t)] M R Q := m_X4_hoursUntilV hF hF (LkV_self hL) h5 hh ht hp hQ
end Until
/-- behind k hours, said by the chain's number -/
theorem hu_le {σ : Sc} {h : Nat} (hF : Wf σ) (h5 : σ 5 0 = nI h) {t k p : Nat} (ht : t < 8) (hp : p < sN σ) (hk : h + k ≤ 100000) (hk2 : k ≤ 1000) : kn σ t k p = true ↔ ¬ nI k < huF σ t h p := by
  rw [kn_iff hF h5 ht hp hk]
  unfold huF
  cases hv : uF σ t h 9 p with
  | none =>
    constructor
    · rintro ⟨u, hu, -⟩; cases hu
    · intro q
      exact absurd (by rw [i_lt, nI_toInt (by omega)]; show (k : Int) < 1000000; omega) q
  | some u =>
    have := uF_bd 9 p u hv
    show _ ↔ ¬ nI k < nI u
    rw [nI_ltI (by omega) (by omega)]
    constructor
    · rintro ⟨u', hu, hle⟩
      cases hu
      omega
    · intro q
      exact ⟨u, rfl, by omega⟩
