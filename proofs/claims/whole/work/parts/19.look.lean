/-! what a picture looks at: one function, and that both sides reckon it -/
def bt (s : Int32) (k : Nat) : Bool := decide ((s >>> (nI k &&& 31)) &&& 1 = 1)
theorem and1 (x : Int32) : x &&& 1 = 0 ∨ x &&& 1 = 1 := by
  obtain ⟨j, hj, e⟩ := pk_andE x (m := 1) 1 rfl
  rcases (by omega : j = 0 ∨ j = 1) with rfl | rfl
  · exact Or.inl e
  · exact Or.inr e
theorem bt_t {s : Int32} {k : Nat} (h : ¬ (s >>> (nI k &&& 31)) &&& 1 = 0) : bt s k = true := decide_eq_true ((and1 _).resolve_left h)
theorem bt_f {s : Int32} {k : Nat} (h : (s >>> (nI k &&& 31)) &&& 1 = 0) : bt s k = false := decide_eq_false (by rw [h]; decide)
abbrev blindP (σ : Sc) (p : Nat) : Prop := σ 10 p = 3 ∨ σ 10 p = 5
def dxF (w : Nat) : Int32 := match w with | 0 => 1 | 2 => -1 | _ => 0
def dyF (w : Nat) : Int32 := match w with | 1 => 1 | 3 => -1 | _ => 0
def walkF (σ : Sc) (p : Nat) : Nat → Nat → Int32 → Int32 → Int32
  | 0, _, _, _ => -1
  | k + 1, w, x, y => if cellP σ (x + dxF w) (y + dyF w) then
      (if onF σ (x + dxF w) (y + dyF w) = -1 then walkF σ p k w (x + dxF w) (y + dyF w)
      else if ¬ onF σ (x + dxF w) (y + dyF w) < 10 then onF σ (x + dxF w) (y + dyF w)
      else if onF σ (x + dxF w) (y + dyF w) = nI p ∨ bt (σ 6 0) (onF σ (x + dxF w) (y + dyF w)).toNatClampNeg = true then -1
      else if σ 10 (onF σ (x + dxF w) (y + dyF w)).toNatClampNeg = 5 then walkF σ p k ((w + 1) % 4) (x + dxF w) (y + dyF w)
      else onF σ (x + dxF w) (y + dyF w))
    else -1
def lookF (σ : Sc) (p w : Nat) : Int32 := if blindP σ p ∨ bt (σ 6 0) p = true then -1 else walkF σ p 30 (if σ 10 p = 1 then (w + 1) % 4 else w) (σ 11 p) (σ 12 p)
theorem onF_cases (σ : Sc) (x y : Int32) : onF σ x y = -1 ∨ (∃ p, p < sN σ ∧ onF σ x y = nI p ∧ σ 11 p = x ∧ σ 12 p = y) ∨ ∃ q, q < sD σ ∧ onF σ x y = nI (10 + q) := by
  unfold onF
  split
  · next p hp =>
    obtain ⟨h1, h2, h3, -⟩ := sF_some hp
    have h3 := of_decide_eq_true h3
    exact Or.inr (Or.inl ⟨p, by omega, rfl, h3.1, h3.2⟩)
  · split
    · next q hq =>
      obtain ⟨h1, h2, h3, -⟩ := sF_some hq
      exact Or.inr (Or.inr ⟨q, by omega, rfl⟩)
    · exact Or.inl rfl
section Look
variable {E : Nat → Nat → Int32} {d : Nat} {Q : am_Q} {M : am_M} {R : am_R} {g c : Nat}
def stepE (E : Nat → Nat → Int32) : Prop := ∀ w, w < 4 → E 0 w = dxF w ∧ E 1 w = dyF w
theorem whatIsOn_loop {x y : Int32} (hn : M c 0 0 = nI (sN (vc M g c))) (h8 : sN (vc M g c) ≤ 8) (hd : M g 2 0 = nI (sD (vc M g c))) (h4 : sD (vc M g c) ≤ 4) : ∀ (k i : Nat), i + k = sN (vc M g c) → Q (some (aI (match sF (fun p => decide (vc M g c 11 p = x ∧ vc M g c 12 p = y)) i k with | some p => nI p | none => match sF (fun q => decide (vc M g c 15 q = x ∧ vc M g c 16 q = y)) 0 (sD (vc M g c)) with | some q => nI (10 + q) | none => -1))) M R → am_WP E (am_WM E (d + 1)) am_L_X4_whatIsOn Q 3 [aO 4 c, aO 2 g, aI x, aI y, aI (nI i)] [] M R := by
  intro k
  induction k with
  | zero =>
    intro i hi h
    refine w_X4_whatIsOn_3 ?_
    rw [hn]
    refine ⟨fun _ => m_X2_doorOn (c := c) hd h4 (kv ?_), fun q => absurd (ix_le (by omega) (by omega)) q⟩
    rw [show sF (fun p => decide (vc M g c 11 p = x ∧ vc M g c 12 p = y)) i 0 = none from rfl] at h
    dsimp only at h
    cases hq : sF (fun q => decide (vc M g c 15 q = x ∧ vc M g c 16 q = y)) 0 (sD (vc M g c)) with
    | none =>
      rw [hq] at h
      exact ⟨fun q => absurd rfl q, fun _ => h⟩
    | some q =>
      rw [hq] at h
      obtain ⟨-, hq2, -⟩ := sF_some hq
      refine ⟨fun _ => ?_, fun a => absurd a (ix_neg1 (by omega))⟩
      rw [show (10 : Int32) + nI q = nI (10 + q) from nI_add 10 q]
      exact h
  | succ k ih =>
    intro i hi h
    refine w_X4_whatIsOn_3 ?_
    rw [hn, ix_cl (by omega), nI_1]
    have e1 : vc M g c 11 i = M c 5 i := tr_lt (show i < sN (vc M g c) by omega)
    have e2 : vc M g c 12 i = M c 6 i := tr_lt (show i < sN (vc M g c) by omega)
    refine ⟨fun q => absurd q (ix_ge (by omega) (by omega)), fun _ => ⟨ix_in (by omega) (by omega), fun q => ih (i + 1) (by omega) ?_, fun q => ⟨ix_in (by omega) (by omega), fun q2 => ih (i + 1) (by omega) ?_, fun q2 => ?_⟩⟩⟩
    · simpa [sF, e1, q] using h
    · simpa [sF, e2, q2] using h
    · simpa [sF, e1, e2, q, q2] using h
theorem m_X4_whatIsOn {x y : Int32} (hn : M c 0 0 = nI (sN (vc M g c))) (h8 : sN (vc M g c) ≤ 8) (hd : M g 2 0 = nI (sD (vc M g c))) (h4 : sD (vc M g c) ≤ 4) (h : Q (some (aI (onF (vc M g c) x y))) M R) : am_WM E (d + 2) 45 [aO 4 c, aO 2 g, aI x, aI y] M R Q := by
  refine w_X4_whatIsOn ?_
  exact whatIsOn_loop hn h8 hd h4 (sN (vc M g c)) 0 (by omega) h
theorem m_X4_isBlind {p : Nat} (h8 : sN (vc M g c) ≤ 8) (hp : p < sN (vc M g c)) (h1 : blindP (vc M g c) p → Q (some (aI 1)) M R) (h0 : ¬ blindP (vc M g c) p → Q (some (aI 0)) M R) : am_WM E (d + 1) 42 [aO 4 c, aI (nI p)] M R Q := by
  refine w_X4_isBlind ?_
  have e : vc M g c 10 p = M c 4 p := tr_lt hp
  unfold blindP at h1 h0
  rw [e] at h1 h0
  rw [ix_cl (by omega)]
  exact ⟨ix_in (by omega) (by omega), fun a => ret1 (h1 (Or.inl a)), fun a => ⟨ix_in (by omega) (by omega), fun b => ret0 (h0 fun q => q.elim a b), fun b => ret1 (h1 (Or.inr b))⟩⟩
theorem m_X4_isTurnedToWall {p : Nat} (h1 : bt (vc M g c 6 0) p = true → Q (some (aI 1)) M R) (h0 : bt (vc M g c 6 0) p = false → Q (some (aI 0)) M R) : am_WM E (d + 1) 43 [aO 4 c, aI (nI p)] M R Q := by
  refine w_X4_isTurnedToWall ?_
  exact ⟨fun a => ret0 (h0 (bt_f a)), fun a => ret1 (h1 (bt_t a))⟩
theorem lookOf_loop {p : Nat} (hE : stepE E) (hn : M c 0 0 = nI (sN (vc M g c))) (h8 : sN (vc M g c) ≤ 8) (hd : M g 2 0 = nI (sD (vc M g c))) (h4 : sD (vc M g c) ≤ 4) (hp : p < sN (vc M g c)) : ∀ (k j w : Nat) (x y : Int32), j + k = 30 → w < 4 → Q (some (aI (walkF (vc M g c) p k w x y))) M R → am_WP E (am_WM E (d + 2)) am_L_X4_lookOf Q 60 [aO 4 c, aO 2 g, aI (nI p), aU, aI (nI w), aI x, aI y, aI (nI j), aU] [] M R := by
  intro k
  induction k with
  | zero =>
    intro j w x y hj hw h
    refine w_X4_lookOf_60 ⟨fun _ => h, fun q => absurd (ix_le (n := 30) (by omega) (by omega)) q⟩
  | succ k ih =>
    intro j w x y hj hw h
    refine w_X4_lookOf_60 ⟨fun q => absurd q (ix_ge (n := 30) (by omega) (by omega)), fun _ => ⟨ix_in hw (by omega), ix_in hw (by omega), ?_⟩⟩
    rw [ix_cl (by omega), (hE w hw).1, (hE w hw).2, nI_1, show (nI w + 1) &&& 3 = nI ((w + 1) % 4) from by rw [nI_1]; exact pk_andN (by omega) 2 rfl]
    unfold walkF at h
    refine m_X2_hasCell (c := c) (fun hc => k1n ?_) (fun hc => k0n ?_)
    · rw [if_pos hc] at h
      refine m_X4_whatIsOn hn h8 hd h4 (kv ?_)
      rcases onF_cases (vc M g c) (x + dxF w) (y + dyF w) with e | ⟨q, hq, e, -⟩ | ⟨q, hq, e⟩
      · rw [e] at h ⊢
        rw [if_pos rfl] at h
        refine ⟨fun _ => m_X4_has hn h8 (fun q hq eq => absurd eq.symm (ix_neg1 (by omega))) (fun _ => k0e (ih (j + 1) w _ _ (by omega) hw h)), fun a => absurd (by decide) a⟩
      · rw [e] at h ⊢
        have hlt : nI q < 10 := nI_lt (b := 10) (by omega) (by omega)
        rw [if_neg (ix_neg1 (by omega)), if_neg (by simpa using hlt)] at h
        refine ⟨fun _ => m_X4_has hn h8 (fun q' hq' eq => k1e ?_) (fun hne => absurd rfl (hne q hq)), fun a => absurd hlt a⟩
        have ec : (nI q).toNatClampNeg = q := ix_cl (by omega)
        have e10 : vc M g c 10 q = M c 4 q := tr_lt hq
        rw [ec] at h ⊢
        refine ⟨fun a => ?_, fun a => m_X4_isTurnedToWall (g := g) (fun b => k1e ?_) (fun b => k0e ⟨ix_in (by omega) (by omega), fun b2 => ?_, fun b2 => ?_⟩)⟩
        · rw [if_pos (Or.inl a)] at h; exact h
        · rw [if_pos (Or.inr b)] at h; exact h
        · rw [if_neg (by rintro (q1 | q1); exact a q1; rw [b] at q1; cases q1), e10, if_pos b2] at h
          exact ih (j + 1) _ _ _ (by omega) (by omega) h
        · rw [if_neg (by rintro (q1 | q1); exact a q1; rw [b] at q1; cases q1), e10, if_neg b2] at h
          exact h
      · rw [e] at h ⊢
        have hge : ¬ nI (10 + q) < 10 := nI_nlt (b := 10) (by omega) (by omega)
        rw [if_neg (ix_neg1 (by omega)), if_pos hge] at h
        exact ⟨fun a => absurd a hge, fun _ => h⟩
    · rw [if_neg hc] at h
      exact h
theorem m_X4_lookOf {p w : Nat} (hE : stepE E) (hn : M c 0 0 = nI (sN (vc M g c))) (h8 : sN (vc M g c) ≤ 8) (hd : M g 2 0 = nI (sD (vc M g c))) (h4 : sD (vc M g c) ≤ 4) (hp : p < sN (vc M g c)) (hw : w < 4) (h : Q (some (aI (lookF (vc M g c) p w))) M R) : am_WM E (d + 3) 48 [aO 4 c, aO 2 g, aI (nI p), aI (nI w)] M R Q := by
  refine w_X4_lookOf ?_
  unfold lookF at h
  have e10 : vc M g c 10 p = M c 4 p := tr_lt hp
  have e11 : vc M g c 11 p = M c 5 p := tr_lt hp
  have e12 : vc M g c 12 p = M c 6 p := tr_lt hp
  refine m_X4_isBlind (g := g) h8 hp (fun a => k1n ?_) (fun a => k0n (m_X4_isTurnedToWall (g := g) (fun b => k1e ?_) (fun b => k0e ?_)))
  · rw [if_pos (Or.inl a)] at h; exact h
  · rw [if_pos (Or.inr b)] at h; exact h
  · rw [if_neg (by rintro (q1 | q1); exact a q1; rw [b] at q1; cases q1), e10, e11, e12] at h
    rw [ix_cl (by omega)]
    refine ⟨ix_in (by omega) (by omega), fun q => ⟨ix_in (by omega) (by omega), ix_in (by omega) (by omega), ?_⟩, fun q => ⟨ix_in (by omega) (by omega), ix_in (by omega) (by omega), ?_⟩⟩
    · rw [if_neg q] at h
      rw [show nI w &&& 3 = nI w from by rw [show nI w &&& 3 = nI (w % 4) from pk_andN (by omega) 2 rfl, Nat.mod_eq_of_lt hw]]
      exact lookOf_loop hE hn h8 hd h4 hp 30 0 w _ _ (by omega) hw h
    · rw [if_pos q] at h
      rw [show (nI w + 1) &&& 3 = nI ((w + 1) % 4) from by rw [nI_1]; exact pk_andN (by omega) 2 rfl]
      exact lookOf_loop hE hn h8 hd h4 hp 30 0 _ _ _ (by omega) (by omega) h
end Look
