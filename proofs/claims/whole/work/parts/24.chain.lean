/-! THE BRIDGE: who knows a thing behind k hours, by the one chain of looks -/
def pN (σ : Sc) : Nat → Sc
  | 0 => σ
  | k + 1 => passF (pN σ k)
theorem pN_off {σ : Sc} {f : Nat} (h1 : f ≠ 14) (h2 : f ≠ 5) : ∀ k, pN σ k f = σ f
  | 0 => rfl
  | k + 1 => by
    show passG _ _ f = _
    rw [passG_off h1 h2, pN_off h1 h2 k]
theorem pN_5 {σ : Sc} {h : Nat} (h5 : σ 5 0 = nI h) : ∀ k, pN σ k 5 0 = nI (h + k)
  | 0 => h5
  | k + 1 => by
    show passG (pN σ k) (comesF (pN σ k)) 5 0 = _
    rw [passG_5, pN_5 h5 k, nI_1]
    rfl
theorem pN_wf {σ : Sc} {h : Nat} (hF : Wf σ) (h5 : σ 5 0 = nI h) : ∀ k, h + k ≤ 100000 → Wf (pN σ k)
  | 0, _ => hF
  | k + 1, hk => by
    have ih := pN_wf hF h5 k (by omega)
    exact passG_wf ih (fun q _ => comesF_small ih (nI q)) (pN_5 h5 k) (by omega)
theorem pN_sN {σ : Sc} (k : Nat) : sN (pN σ k) = sN σ := by unfold sN; rw [pN_off (by decide) (by decide)]
theorem pN_sC {σ : Sc} (k : Nat) : sC (pN σ k) = sC σ := by unfold sC; rw [pN_off (by decide) (by decide)]
theorem pN_lk {σ : Sc} (k p : Nat) : lk (pN σ k) p = lk σ p := lk_congr (fun f a b _ => pN_off a b k) p
theorem pN_src {σ : Sc} (k p : Nat) : srcF (pN σ k) p = srcF σ p := by
  unfold srcF
  rw [pN_lk, pN_off (f := 10) (by decide) (by decide)]
theorem pN_open {σ : Sc} (k p : Nat) : openF (pN σ k) p = openF σ p := by
  unfold openF blindP
  rw [pN_off (f := 10) (by decide) (by decide), pN_off (f := 6) (by decide) (by decide)]
/-- does a thing come by a door at an hour -/
def cB (σ : Sc) (q t h : Nat) : Bool := (List.range (sC σ)).any (fun j => decide (σ 18 j = nI q ∧ σ 17 j = nI h ∧ σ 19 j = nI t))
theorem cB_iff {σ : Sc} {q t h : Nat} : cB σ q t h = true ↔ ∃ j, j < sC σ ∧ σ 18 j = nI q ∧ σ 17 j = nI h ∧ σ 19 j = nI t := by
  unfold cB
  rw [List.any_eq_true]
  constructor
  · rintro ⟨j, h1, h2⟩
    exact ⟨j, List.mem_range.mp h1, of_decide_eq_true h2⟩
  · rintro ⟨j, h1, h2⟩
    exact ⟨j, List.mem_range.mpr h1, decide_eq_true h2⟩
/-- known behind k hours -/
def kn (σ : Sc) (t k p : Nat) : Bool := bt (pN σ k 14 p) t
theorem kn_step {σ : Sc} {h : Nat} (hF : Wf σ) (h5 : σ 5 0 = nI h) {k p t : Nat} (hk : h + k ≤ 100000) (hp : p < sN σ) (ht : t < 8) :
    kn σ t (k + 1) p = (kn σ t k p || (bt (openF σ p) t && (if srcF σ p < 0 then false else if srcF σ p < 10 then kn σ t k (srcF σ p).toNatClampNeg else cB σ ((srcF σ p).toNatClampNeg - 10) t (h + k)))) := by
  have hw := pN_wf hF h5 k hk
  have e1 : kn σ t (k + 1) p = bt (newK (pN σ k) (comesF (pN σ k)) p) t := by
    unfold kn
    show bt (passG _ _ 14 p) t = _
    rw [passG_14 (by rw [pN_sN]; exact hp)]
  rw [e1, newK_bt hw (fun q _ => comesF_small hw (nI q)) (by rw [pN_sN]; exact hp) ht, pN_open]
  unfold kn toldB
  rw [pN_src]
  congr 2
  rcases srcF_cases σ p hF.1.1 hF.1.2.2.1 with es | ⟨q, hq, es, -⟩ | ⟨q, hq, es, -⟩
  · rw [es, if_pos (by decide), if_pos (by decide)]
  · have h8 := hF.1.1
    have hlt : nI q < 10 := nI_lt (b := 10) (by omega) (by omega)
    rw [es, if_neg (ix_lt (by omega)), if_pos hlt, if_neg (ix_lt (by omega)), if_pos hlt]
  · have h4 := hF.1.2.2.1
    have hge : ¬ nI (10 + q) < 10 := nI_nlt (b := 10) (by omega) (by omega)
    have e2 : nI (10 + q) - 10 = nI q := by rw [show nI (10 + q) - 10 = nI (10 + q - 10) from pk_sub (b := 10) (by omega)]; congr 1; omega
    rw [es, if_neg (ix_lt (by omega)), if_neg hge, if_neg (ix_lt (by omega)), if_neg hge, e2, ix_cl (by omega), show 10 + q - 10 = q from by omega]
    rw [Bool.eq_iff_iff, comesF_bt hw (nI q) ht, cB_iff, pN_sC, pN_5 h5, pN_off (f := 18) (by decide) (by decide), pN_off (f := 17) (by decide) (by decide), pN_off (f := 19) (by decide) (by decide)]
theorem kn_mono {σ : Sc} {h : Nat} (hF : Wf σ) (h5 : σ 5 0 = nI h) {p t : Nat} (hp : p < sN σ) (ht : t < 8) : ∀ (j k : Nat), h + k ≤ 100000 → j ≤ k → kn σ t j p = true → kn σ t k p = true := by
  intro j k
  induction k with
  | zero =>
    intro _ hj hk
    have : j = 0 := by omega
    subst this
    exact hk
  | succ k ih =>
    intro hb hj hk
    by_cases e : j = k + 1
    · subst e; exact hk
    · rw [kn_step hF h5 (by omega) hp ht, ih (by omega) (by omega) hk, Bool.true_or]
/-- first hour from now on at which it comes -/
def fhO (σ : Sc) (q t h : Nat) : Option Nat := sF (fun j => cB σ q t (h + j)) 0 31
/-- the fewest hours, by the chain -/
def uF (σ : Sc) (t h : Nat) : Nat → Nat → Option Nat
  | 0, _ => none
  | f + 1, p => if bt (σ 14 p) t = true then some 0 else if bt (openF σ p) t = true then (if srcF σ p < 0 then none else if srcF σ p < 10 then (uF σ t h f (srcF σ p).toNatClampNeg).map (· + 1) else (fhO σ ((srcF σ p).toNatClampNeg - 10) t h).map (· + 1)) else none
theorem cB_late {σ : Sc} (hF : Wf σ) {q t h : Nat} (hh : h ≤ 200000) (hl : 30 < h) : cB σ q t h = false := by
  rw [Bool.eq_false_iff]
  intro e
  obtain ⟨j, h1, -, h3, -⟩ := cB_iff.mp e
  obtain ⟨⟨z, hz, ez⟩, -⟩ := hF.2.2.2.2.2 j h1
  rw [ez, nI_eq (by omega) (by omega)] at h3
  omega
theorem kn_u {σ : Sc} {h : Nat} (hF : Wf σ) (h5 : σ 5 0 = nI h) {t : Nat} (ht : t < 8) : ∀ (f p u : Nat), p < sN σ → uF σ t h f p = some u → ∀ k, h + k ≤ 100000 → (kn σ t k p = true ↔ u ≤ k)
  | 0, _, _, _, hu => by cases hu
  | f + 1, p, u, hp, hu => by
    have h8 := hF.1.1
    have h4 := hF.1.2.2.1
    unfold uF at hu
    by_cases h0 : bt (σ 14 p) t = true
    · rw [if_pos h0] at hu
      cases hu
      intro k hk
      exact ⟨fun _ => Nat.zero_le _, fun _ => kn_mono hF h5 hp ht 0 k hk (Nat.zero_le _) h0⟩
    · rw [if_neg h0] at hu
      by_cases ho : bt (openF σ p) t = true
      · rw [if_pos ho] at hu
        rcases srcF_cases σ p h8 h4 with es | ⟨q, hq, es, -⟩ | ⟨q, hq, es, -⟩
        · rw [es, if_pos (by decide)] at hu
          cases hu
        · have hlt : nI q < 10 := nI_lt (b := 10) (by omega) (by omega)
          rw [es, if_neg (ix_lt (by omega)), if_pos hlt, ix_cl (by omega)] at hu
          cases hv : uF σ t h f q with
          | none => rw [hv] at hu; cases hu
          | some v =>
            rw [hv] at hu
            have hu : v + 1 = u := Option.some.inj hu
            subst hu
            have ih := kn_u hF h5 ht f q v hq hv
            intro k
            induction k with
            | zero =>
              intro _
              exact ⟨fun z => absurd z h0, fun z => absurd z (by omega)⟩
            | succ k ihk =>
              intro hk
              rw [kn_step hF h5 (by omega) hp ht, es, if_neg (ix_lt (by omega)), if_pos hlt, ix_cl (by omega), ho, Bool.true_and, Bool.or_eq_true, ihk (by omega), ih k (by omega)]
              omega
        · have hge : ¬ nI (10 + q) < 10 := nI_nlt (b := 10) (by omega) (by omega)
          rw [es, if_neg (ix_lt (by omega)), if_neg hge, ix_cl (by omega), show 10 + q - 10 = q from by omega] at hu
          cases hv : fhO σ q t h with
          | none => rw [hv] at hu; cases hu
          | some v =>
            rw [hv] at hu
            have hu : v + 1 = u := Option.some.inj hu
            subst hu
            obtain ⟨-, -, hv1, hv2⟩ := sF_some hv
            intro k
            induction k with
            | zero =>
              intro _
              exact ⟨fun z => absurd z h0, fun z => absurd z (by omega)⟩
            | succ k ihk =>
              intro hk
              rw [kn_step hF h5 (by omega) hp ht, es, if_neg (ix_lt (by omega)), if_neg hge, ix_cl (by omega), show 10 + q - 10 = q from by omega, ho, Bool.true_and, Bool.or_eq_true, ihk (by omega)]
              constructor
              · rintro (z | z)
                · omega
                · rcases Nat.lt_or_ge k v with y | y
                  · have := hv2 k (Nat.zero_le _) y
                    rw [this] at z; cases z
                  · omega
              · intro z
                rcases Nat.lt_or_ge v k with y | y
                · exact Or.inl (by omega)
                · have : k = v := by omega
                  subst this
                  exact Or.inr hv1
      · rw [if_neg ho] at hu
        cases hu
/-- who comes to know it has a chain of some length -/
theorem kn_ex {σ : Sc} {h : Nat} (hF : Wf σ) (h5 : σ 5 0 = nI h) {t : Nat} (ht : t < 8) : ∀ (k p : Nat), p < sN σ → h + k ≤ 100000 → kn σ t k p = true → ∃ f u, uF σ t h f p = some u
  | 0, p, hp, _, hk => ⟨1, 0, by unfold uF; exact if_pos hk⟩
  | k + 1, p, hp, hb, hk => by
    have h8 := hF.1.1
    have h4 := hF.1.2.2.1
    by_cases hk0 : kn σ t k p = true
    · exact kn_ex hF h5 ht k p hp (by omega) hk0
    · rw [kn_step hF h5 (by omega) hp ht, Bool.or_eq_true] at hk
      rcases hk with hk | hk
      · exact absurd hk hk0
      · rw [Bool.and_eq_true] at hk
        obtain ⟨ho, hk⟩ := hk
        have h0 : ¬ bt (σ 14 p) t = true := fun z => hk0 (kn_mono hF h5 hp ht 0 k (by omega) (Nat.zero_le _) z)
        rcases srcF_cases σ p h8 h4 with es | ⟨q, hq, es, -⟩ | ⟨q, hq, es, -⟩
        · rw [es, if_pos (by decide)] at hk
          cases hk
        · have hlt : nI q < 10 := nI_lt (b := 10) (by omega) (by omega)
          rw [es, if_neg (ix_lt (by omega)), if_pos hlt, ix_cl (by omega)] at hk
          obtain ⟨f, u, hu⟩ := kn_ex hF h5 ht k q hq (by omega) hk
          refine ⟨f + 1, u + 1, ?_⟩
          unfold uF
          rw [if_neg h0, if_pos ho, es, if_neg (ix_lt (by omega)), if_pos hlt, ix_cl (by omega), hu]
          rfl
        · have hge : ¬ nI (10 + q) < 10 := nI_nlt (b := 10) (by omega) (by omega)
          rw [es, if_neg (ix_lt (by omega)), if_neg hge, ix_cl (by omega), show 10 + q - 10 = q from by omega] at hk
          cases hv : fhO σ q t h with
          | some v =>
            refine ⟨1, v + 1, ?_⟩
            unfold uF
            rw [if_neg h0, if_pos ho, es, if_neg (ix_lt (by omega)), if_neg hge, ix_cl (by omega), show 10 + q - 10 = q from by omega, hv]
            rfl
          | none =>
            rcases Nat.lt_or_ge k 31 with y | y
            · have := sF_none hv k (Nat.zero_le _) (by omega)
              rw [this] at hk; cases hk
            · rw [cB_late hF (by omega) (by omega)] at hk
              cases hk
