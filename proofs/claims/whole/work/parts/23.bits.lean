/-! bits of small numbers; an hour keeps what scenes keep to; what one hour adds, bit by bit -/
theorem smod32 : ∀ t, t < 31 → ((nI t &&& 31).toBitVec.smod 32).toNat = t := by decide +kernel
theorem bt_nI {z t : Nat} (hz : z < 2 ^ 31) (ht : t < 31) : bt (nI z) t = z.testBit t := by
  unfold bt
  rw [pk_shrN hz _ t (smod32 t ht), show nI (z / 2 ^ t) &&& 1 = nI (z / 2 ^ t % 2) from pk_andN (by have := Nat.div_le_self z (2 ^ t); omega) 1 rfl, Nat.testBit_eq_decide_div_mod_eq]
  have h2 : z / 2 ^ t % 2 < 2 := Nat.mod_lt _ (by decide)
  congr 1
  rw [show (1 : Int32) = nI 1 from rfl, nI_eq (by omega) (by omega)]
theorem bt_or {a b t : Nat} (ha : a < 256) (hb : b < 256) (ht : t < 31) : bt (nI a ||| nI b) t = (bt (nI a) t || bt (nI b) t) := by
  have h1 : a ||| b < 256 := Nat.or_lt_two_pow (n := 8) ha hb
  rw [nI_or, bt_nI (by omega) ht, bt_nI (by omega) ht, bt_nI (by omega) ht, Nat.testBit_or]
theorem bt_and {a b t : Nat} (ha : a < 256) (hb : b < 256) (ht : t < 31) : bt (nI a &&& nI b) t = (bt (nI a) t && bt (nI b) t) := by
  have h1 : a &&& b ≤ a := Nat.and_le_left
  rw [nI_and, bt_nI (by omega) ht, bt_nI (by omega) ht, bt_nI (by omega) ht, Nat.testBit_and]
theorem bt_0 {t : Nat} (ht : t < 31) : bt 0 t = false := by
  rw [show (0 : Int32) = nI 0 from rfl, bt_nI (by omega) ht]
  exact Nat.zero_testBit t
theorem bt_255 {t : Nat} (ht : t < 8) : bt 255 t = true := by
  have : ∀ t, t < 8 → bt 255 t = true := by decide +kernel
  exact this t ht
theorem bt_pow {s t : Nat} (hs : s < 31) (ht : t < 31) : bt (nI (2 ^ s)) t = decide (s = t) := by
  rw [bt_nI (Nat.pow_lt_pow_right (by decide) hs) ht, Nat.testBit_two_pow]
/-- comings by a door at an hour, bit by bit -/
theorem cmF_bt {σ : Sc} (hc : ∀ i, i < sC σ → ∃ t, t < 8 ∧ σ 19 i = nI t) (q h : Int32) {t : Nat} (ht : t < 8) : ∀ k i a, i + k = sC σ → (∃ z, z < 256 ∧ a = nI z) → (bt (cmF σ q h i k a) t = true ↔ (bt a t = true ∨ ∃ j, i ≤ j ∧ j < sC σ ∧ σ 18 j = q ∧ σ 17 j = h ∧ σ 19 j = nI t))
  | 0, i, a, hi, ha => by
    unfold cmF
    constructor
    · exact Or.inl
    · rintro (q1 | ⟨j, h1, h2, -⟩)
      · exact q1
      · omega
  | k + 1, i, a, hi, ha => by
    unfold cmF
    obtain ⟨z, hz, rfl⟩ := ha
    obtain ⟨s, hs, es⟩ := hc i (by omega)
    have hp : (2 : Nat) ^ s < 256 := Nat.pow_lt_pow_right (n := 8) (by decide) hs
    by_cases hq : σ 18 i = q ∧ σ 17 i = h
    · rw [if_pos hq, es, sh1 (by omega)]
      rw [cmF_bt hc q h ht k (i + 1) _ (by omega) ⟨z ||| 2 ^ s, Nat.or_lt_two_pow (n := 8) hz hp, nI_or _ _⟩, bt_or hz hp (by omega), bt_pow (by omega) (by omega), Bool.or_eq_true, decide_eq_true_eq]
      constructor
      · rintro ((h1 | h1) | ⟨j, h1, h2⟩)
        · exact Or.inl h1
        · exact Or.inr ⟨i, Nat.le_refl _, by omega, hq.1, hq.2, by rw [es, h1]⟩
        · exact Or.inr ⟨j, by omega, h2⟩
      · rintro (h1 | ⟨j, h1, h2, h3, h4, h5⟩)
        · exact Or.inl (Or.inl h1)
        · by_cases e : j = i
          · subst e
            rw [es, ix_eq (by omega) (by omega)] at h5
            exact Or.inl (Or.inr h5)
          · exact Or.inr ⟨j, by omega, h2, h3, h4, h5⟩
    · rw [if_neg hq, cmF_bt hc q h ht k (i + 1) _ (by omega) ⟨z, hz, rfl⟩]
      constructor
      · rintro (h1 | ⟨j, h1, h2⟩)
        · exact Or.inl h1
        · exact Or.inr ⟨j, by omega, h2⟩
      · rintro (h1 | ⟨j, h1, h2, h3, h4, h5⟩)
        · exact Or.inl h1
        · by_cases e : j = i
          · subst e
            exact absurd ⟨h3, h4⟩ hq
          · exact Or.inr ⟨j, by omega, h2, h3, h4, h5⟩
theorem comesF_small {σ : Sc} (hF : Wf σ) (q : Int32) : ∃ z, z < 256 ∧ comesF σ q = nI z := cmF_small (fun j hj => (hF.2.2.2.2.2 j hj).2.2) _ _ _ _ _ (by omega) ⟨0, by omega, rfl⟩
theorem comesF_bt {σ : Sc} (hF : Wf σ) (q : Int32) {t : Nat} (ht : t < 8) : bt (comesF σ q) t = true ↔ ∃ j, j < sC σ ∧ σ 18 j = q ∧ σ 17 j = σ 5 0 ∧ σ 19 j = nI t := by
  unfold comesF
  rw [cmF_bt (fun j hj => (hF.2.2.2.2.2 j hj).2.2) q _ ht (sC σ) 0 0 (by omega) ⟨0, by omega, rfl⟩, bt_0 (by omega)]
  constructor
  · rintro (h | ⟨j, -, h⟩)
    · cases h
    · exact ⟨j, h⟩
  · rintro ⟨j, h⟩
    exact Or.inr ⟨j, Nat.zero_le _, h⟩
theorem takeF_small {σ : Sc} {p : Nat} {x : Int32} (h : ∃ z, z < 256 ∧ x = nI z) : ∃ z, z < 256 ∧ takeF σ p x = nI z := by
  obtain ⟨z, hz, rfl⟩ := h
  unfold takeF
  split
  · have h1 : z &&& 85 ≤ z := Nat.and_le_left
    exact ⟨z &&& 85, by omega, nI_and z 85⟩
  · exact ⟨z, hz, rfl⟩
/-- a source of what comes that is small -/
def cmSm (σ : Sc) (cm : Int32 → Int32) : Prop := ∀ q, q < sD σ → ∃ z, z < 256 ∧ cm (nI q) = nI z
theorem learnG_small {σ : Sc} (hF : Wf σ) {cm : Int32 → Int32} (hc : cmSm σ cm) {p : Nat} (hp : p < sN σ) : ∃ z, z < 256 ∧ learnG σ cm p = nI z := by
  unfold learnG
  have h8 := hF.1.1
  have h4 := hF.1.2.2.1
  rcases lookF_cases σ p (σ 13 p).toNatClampNeg with e | ⟨q, hq, e⟩ | ⟨q, hq, e⟩
  · have e : lk σ p = -1 := e
    rw [e, if_neg (by decide), if_pos (by decide)]
    exact ⟨0, by omega, rfl⟩
  · have e : lk σ p = nI q := e
    have hlt : nI q < 10 := nI_lt (b := 10) (by omega) (by omega)
    rw [e, if_neg (by simpa using hlt), if_neg (ix_lt (by omega)), ix_cl (by omega)]
    split
    · exact ⟨0, by omega, rfl⟩
    · exact (hF.2.1 q hq).2.2.2
  · have e : lk σ p = nI (10 + q) := e
    have hge : ¬ nI (10 + q) < 10 := nI_nlt (b := 10) (by omega) (by omega)
    have es : nI (10 + q) - 10 = nI q := by rw [show nI (10 + q) - 10 = nI (10 + q - 10) from pk_sub (b := 10) (by omega)]; congr 1; omega
    rw [e, if_pos hge, es]
    exact hc q hq
theorem newK_small {σ : Sc} (hF : Wf σ) {cm : Int32 → Int32} (hc : cmSm σ cm) {p : Nat} (hp : p < sN σ) : ∃ z, z < 256 ∧ newK σ cm p = nI z := by
  obtain ⟨a, ha, ea⟩ := (hF.2.1 p hp).2.2.2
  obtain ⟨b, hb, eb⟩ := takeF_small (σ := σ) (p := p) (learnG_small hF hc hp)
  unfold newK
  rw [ea, eb, nI_or]
  exact ⟨_, Nat.or_lt_two_pow (n := 8) ha hb, rfl⟩
theorem passG_off {σ : Sc} {cm : Int32 → Int32} {f : Nat} (h1 : f ≠ 14) (h2 : f ≠ 5) : passG σ cm f = σ f := by
  funext i
  unfold passG sus
  rw [if_neg h2, midG_off h1]
theorem passG_5 {σ : Sc} {cm : Int32 → Int32} {i : Nat} : passG σ cm 5 i = σ 5 0 + 1 := by
  unfold passG sus
  rw [if_pos rfl]
theorem passG_14 {σ : Sc} {cm : Int32 → Int32} {p : Nat} (hp : p < sN σ) : passG σ cm 14 p = newK σ cm p := by
  unfold passG sus midG
  rw [if_neg (by decide), if_pos ⟨rfl, hp⟩]
theorem passG_wf {σ : Sc} {cm : Int32 → Int32} {h : Nat} (hF : Wf σ) (hc : cmSm σ cm) (h5 : σ 5 0 = nI h) (hh : h < 100000) : Wf (passG σ cm) := by
  have hcon : ∀ f, f ≠ 14 → f ≠ 5 → f ≠ 7 → σ f = passG σ cm f := fun f a b _ => (passG_off a b).symm
  have eN : sN (passG σ cm) = sN σ := by unfold sN; rw [passG_off (by decide) (by decide)]
  have eD : sD (passG σ cm) = sD σ := by unfold sD; rw [passG_off (by decide) (by decide)]
  have eC : sC (passG σ cm) = sC σ := by unfold sC; rw [passG_off (by decide) (by decide)]
  refine ⟨Wg_congr hcon hF.1, fun p hp => ?_, ?_, ⟨h + 1, by omega, ?_⟩, ?_, fun i hi => ?_⟩
  · rw [eN] at hp
    rw [passG_off (f := 10) (by decide) (by decide), passG_off (f := 11) (by decide) (by decide), passG_off (f := 12) (by decide) (by decide), passG_14 hp]
    have h1 := hF.2.1 p hp
    exact ⟨h1.1, h1.2.1, h1.2.2.1, newK_small hF hc hp⟩
  · rw [eN, passG_off (f := 6) (by decide) (by decide)]
    exact hF.2.2.1
  · rw [passG_5, h5, nI_1]
  · rw [passG_off (f := 7) (by decide) (by decide)]
    exact hF.2.2.2.2.1
  · rw [eC] at hi
    rw [eD, passG_off (f := 17) (by decide) (by decide), passG_off (f := 18) (by decide) (by decide), passG_off (f := 19) (by decide) (by decide)]
    exact hF.2.2.2.2.2 i hi
/-- whom a picture is told by knows a thing, ahead of the hour -/
def toldB (σ : Sc) (cm : Int32 → Int32) (p t : Nat) : Bool := if srcF σ p < 0 then false else if srcF σ p < 10 then bt (σ 14 (srcF σ p).toNatClampNeg) t else bt (cm (srcF σ p - 10)) t
theorem srcF_cases (σ : Sc) (p : Nat) (h8 : sN σ ≤ 8) (h4 : sD σ ≤ 4) : srcF σ p = -1 ∨ (∃ q, q < sN σ ∧ srcF σ p = nI q ∧ lk σ p = nI q ∧ ¬ σ 10 q = 4) ∨ ∃ q, q < sD σ ∧ srcF σ p = nI (10 + q) ∧ lk σ p = nI (10 + q) := by
  unfold srcF
  rcases lookF_cases σ p (σ 13 p).toNatClampNeg with e | ⟨q, hq, e⟩ | ⟨q, hq, e⟩
  · have e : lk σ p = -1 := e
    rw [e, if_neg (by decide), if_pos (by decide)]
    exact Or.inl rfl
  · have e : lk σ p = nI q := e
    have hlt : nI q < 10 := nI_lt (b := 10) (by omega) (by omega)
    rw [e, if_neg (by simpa using hlt), if_neg (ix_lt (by omega)), ix_cl (by omega)]
    split
    · exact Or.inl rfl
    · next hk => exact Or.inr (Or.inl ⟨q, hq, rfl, rfl, hk⟩)
  · have e : lk σ p = nI (10 + q) := e
    have hge : ¬ nI (10 + q) < 10 := nI_nlt (b := 10) (by omega) (by omega)
    rw [e, if_pos hge]
    exact Or.inr (Or.inr ⟨q, hq, rfl, rfl⟩)
theorem bt_openF {σ : Sc} {p t : Nat} (ht : t < 8) (h : ¬ (blindP σ p ∨ bt (σ 6 0) p = true)) {x : Int32} (hx : ∃ z, z < 256 ∧ x = nI z) : bt (takeF σ p x) t = (bt (openF σ p) t && bt x t) := by
  obtain ⟨z, hz, rfl⟩ := hx
  unfold takeF openF
  rw [if_neg h]
  split
  · rw [show (85 : Int32) = nI 85 from rfl, bt_and hz (by omega) (by omega), Bool.and_comm]
  · rw [bt_255 ht, Bool.true_and]
theorem newK_bt {σ : Sc} (hF : Wf σ) {cm : Int32 → Int32} (hc : cmSm σ cm) {p t : Nat} (hp : p < sN σ) (ht : t < 8) : bt (newK σ cm p) t = (bt (σ 14 p) t || (bt (openF σ p) t && toldB σ cm p t)) := by
  have h8 := hF.1.1
  have h4 := hF.1.2.2.1
  obtain ⟨a, ha, ea⟩ := (hF.2.1 p hp).2.2.2
  have hl := learnG_small hF hc hp
  obtain ⟨b, hb, eb⟩ := takeF_small (σ := σ) (p := p) hl
  have e1 : bt (newK σ cm p) t = (bt (σ 14 p) t || bt (takeF σ p (learnG σ cm p)) t) := by
    unfold newK
    rw [ea, eb, bt_or ha hb (by omega)]
  rw [e1]
  congr 1
  by_cases hne : lk σ p = -1
  · have es : srcF σ p = -1 := by unfold srcF; rw [hne, if_neg (by decide), if_pos (by decide)]
    have el : learnG σ cm p = 0 := by unfold learnG; rw [hne, if_neg (by decide), if_pos (by decide)]
    unfold toldB
    rw [es, if_pos (by decide), el, Bool.and_false]
    unfold takeF
    split
    · exact bt_0 (by omega)
    · exact bt_0 (by omega)
  · rw [bt_openF ht (lk_open hne) hl]
    congr 1
    unfold toldB
    rcases srcF_cases σ p h8 h4 with es | ⟨q, hq, es, el, hk⟩ | ⟨q, hq, es, el⟩
    · have el : learnG σ cm p = 0 := by
        unfold srcF at es
        unfold learnG
        rcases lookF_cases σ p (σ 13 p).toNatClampNeg with e | ⟨q, hq, e⟩ | ⟨q, hq, e⟩
        · exact absurd e hne
        · have e : lk σ p = nI q := e
          have hlt : nI q < 10 := nI_lt (b := 10) (by omega) (by omega)
          rw [e, if_neg (by simpa using hlt), if_neg (ix_lt (by omega)), ix_cl (by omega)] at es ⊢
          split
          · rfl
          · next hk => rw [if_neg hk] at es; exact absurd es (ix_neg1 (by omega))
        · have e : lk σ p = nI (10 + q) := e
          have hge : ¬ nI (10 + q) < 10 := nI_nlt (b := 10) (by omega) (by omega)
          rw [e, if_pos hge] at es
          exact absurd es (ix_neg1 (by omega))
      rw [es, if_pos (by decide), el]
      exact bt_0 (by omega)
    · have hlt : nI q < 10 := nI_lt (b := 10) (by omega) (by omega)
      rw [es, if_neg (ix_lt (by omega)), if_pos hlt, ix_cl (by omega)]
      unfold learnG
      rw [el, if_neg (by simpa using hlt), if_neg (ix_lt (by omega)), ix_cl (by omega), if_neg hk]
    · have hge : ¬ nI (10 + q) < 10 := nI_nlt (b := 10) (by omega) (by omega)
      rw [es, if_neg (ix_lt (by omega)), if_neg hge]
      unfold learnG
      rw [el, if_pos hge]
