/-! turns, on both sides -/
def twF (σ : Sc) (p t : Nat) (set : Int32) (n : Nat) : Int32 × Int32 × Int32 :=
  if soB σ p t set n = true then (0, -1, -1) else match sF (okc σ p t set n) 0 (4 * sN σ) with
  | some c => (1, wy c, -1)
  | none => match sF (okt σ p t set n) 0 (4 * sN σ) with
    | none => (-1, -1, -1)
    | some c1 => match sF (okc (tw σ (c1 / 4) (c1 % 4)) p t set n) (4 * (c1 / 4 + 1)) (4 * sN σ - 4 * (c1 / 4 + 1)) with
      | none => (-1, -1, -1)
      | some c2 => (2, wy c1, wy c2)
def tuR (r : Int32 × Int32 × Int32) (x5 : Int32) : Int32 := if x5 = -1 then r.1 else if x5 = 0 then r.2.1 else if x5 = 1 then r.2.2 else -1
def tuA (σ : Sc) (x1 x2 s x4 x5 : Int32) : Int32 := if inN x1 (sN σ) ∧ inN x2 8 ∧ inN s (2 ^ sN σ) then (if inN x4 31 then tuR (twF σ x1.toNatClampNeg x2.toNatClampNeg s x4.toNatClampNeg) x5 else -1000000002) else -1000000001
theorem tuc {x5 a f0 f1 : Int32} {P : Int32 → Prop} {F : Nat → Int32} (h : P (tuR (a, f0, f1) x5)) (h0 : 0 < a → F 0 = f0) (h0' : ¬ 0 < a → f0 = -1) (h1 : 1 < a → F 1 = f1) (h1' : ¬ 1 < a → f1 = -1) :
    (¬ x5 = -1 → ((x5 < 0 → P (-1)) ∧ (¬ x5 < 0 → ((a ≤ x5 → P (-1)) ∧ (¬ a ≤ x5 → ((2 ≤ x5 → P (-1)) ∧ (¬ 2 ≤ x5 → (vp_in x5 2 ∧ P (F x5.toNatClampNeg))))))))) ∧ (x5 = -1 → P a) := by
  unfold tuR at h
  refine ⟨fun n1 => ?_, fun e => by rw [if_pos e] at h; exact h⟩
  rw [if_neg n1] at h
  rcases ix_of (x := x5) (n := 2) (by omega) with ⟨q, hq, e⟩ | ⟨hh, hne⟩
  · rcases (show q = 0 ∨ q = 1 by omega) with e0 | e0
    · subst e0
      have e' : x5 = 0 := e
      subst e'
      rw [if_pos rfl] at h
      refine ⟨fun z => absurd z (by decide), fun _ => ⟨fun z => ?_, fun z => ⟨fun y => absurd y (by decide), fun _ => ⟨ix_in (n := 0) (by omega) (by omega), ?_⟩⟩⟩⟩
      · rw [← h0' (Int32.not_lt.mpr z)]; exact h
      · rw [show Int32.toNatClampNeg 0 = 0 from rfl, h0 (Int32.not_le.mp z)]; exact h
    · subst e0
      have e' : x5 = 1 := e
      subst e'
      rw [if_neg (by decide), if_pos rfl] at h
      refine ⟨fun z => absurd z (by decide), fun _ => ⟨fun z => ?_, fun z => ⟨fun y => absurd y (by decide), fun _ => ⟨ix_in (n := 1) (by omega) (by omega), ?_⟩⟩⟩⟩
      · rw [← h1' (Int32.not_lt.mpr z)]; exact h
      · rw [show Int32.toNatClampNeg 1 = 1 from rfl, h1 (Int32.not_le.mp z)]; exact h
  · rw [if_neg (c := x5 = 0) (fun z => hne 0 (by omega) z), if_neg (c := x5 = 1) (fun z => hne 1 (by omega) z)] at h
    exact ⟨fun _ => h, fun z => ⟨fun _ => h, fun _ => ⟨fun _ => h, fun y => absurd (hh.elim (fun w => absurd w z) id) y⟩⟩⟩
section Turns
variable {E : Nat → Nat → Int32} {d : Nat} {Q : am_Q} {M : am_M} {R : am_R} {b : Bool}
def tuS : List (Nat × Nat) := [(7, 0), (7, 1), (7, 2), (7, 3), (7, 4), (7, 5), (7, 6), (7, 7), (7, 8), (7, 9), (11, 0), (11, 1), (11, 2), (11, 3), (11, 4), (11, 5)]
theorem pl_ne {b : Bool} {k : Nat} (h : 4 ≤ k) : pl b ≠ k := by cases b <;> simp [pl] <;> omega
theorem m_X6_turns {x1 x2 x3 x4 x5 : Int32} {h : Nat} (hE : stepE E) (hF : Wf (vc M (pl b) 6)) (hL : LkOk M (pl b) 6) (h5 : vc M (pl b) 6 5 0 = nI h) (hh : h ≤ 99000) (hQ : ∀ M', eqX tuS M M' → Q (some (aI (tuA (vc M (pl b) 6) x1 x2 x3 x4 x5))) M' (Rs b)) : am_WM E (d + 7) 77 [aO 6 0, aI x1, aI x2, aI x3, aI x4, aI x5] M (Rs b) Q := by
  have h8 := hF.1.1
  have hp2 := p2_le h8
  unfold tuA at hQ
  refine w_X6_turns (m_X4_has hF.1.2.1 h8 (fun p hp e1 => k1e (m_X6_isThing (fun t ht e2 => k1e (m_X6_arePictures hF.1 (fun z hz e3 => kv ⟨fun _ => ?_, fun q => absurd q (by decide)⟩) (fun a => kv ⟨fun q => absurd rfl q, fun _ => ?_⟩))) (fun a => k0e ?_))) (fun a => k0e ?_))
  · subst e1; subst e2
    rw [if_pos ⟨inN_mk hp (by omega), inN_mk ht (by omega), by rw [e3]; exact inN_mk hz (by omega)⟩, ix_cl (by omega), ix_cl (by omega)] at hQ
    rcases ix_of (x := x4) (n := 31) (by omega) with ⟨n, hn, rfl⟩ | ⟨hx, hne⟩
    · rw [if_pos (inN_mk hn (by omega)), ix_cl (by omega)] at hQ
      refine ⟨fun q => absurd q (ix_lt (by omega)), fun _ => ⟨fun _ => ?_, fun q => absurd (ix_le (n := n) (q := 30) (by omega) (by omega)) q⟩⟩
      refine m_X4_copyFrom (c := 7) (c1 := 6) (by decide) (fun M1 hX1 hC => ⟨rfl, w_X5_wish ⟨rfl, ?_⟩⟩)
      have hX2 : eqX [(11, 2), (11, 3), (11, 4), (11, 5)] M1 (am_up (am_up (am_up (am_up M1 11 2 0 (nI p)) 11 3 0 (nI t)) 11 4 0 x3) 11 5 0 (nI n)) := eqX_up (eqX_up (eqX_up (eqX_up eqX_rfl (by simp)) (by simp)) (by simp)) (by simp)
      have hW : WsOk (am_up (am_up (am_up (am_up M1 11 2 0 (nI p)) 11 3 0 (nI t)) 11 4 0 x3) 11 5 0 (nI n)) p t x3 n := by
        refine ⟨?_, ?_, ?_, up_s⟩
        · rw [up_k (by decide), up_k (by decide), up_k (by decide)]; exact up_s
        · rw [up_k (by decide), up_k (by decide)]; exact up_s
        · rw [up_k (by decide)]; exact up_s
      show am_WM E (d + 6) 59 [aO 5 11, aO 2 (pl b), aO 4 7] (am_up (am_up (am_up (am_up M1 11 2 0 (nI p)) 11 3 0 (nI t)) 11 4 0 x3) 11 5 0 (nI n)) (Rs b) _
      generalize am_up (am_up (am_up (am_up M1 11 2 0 (nI p)) 11 3 0 (nI t)) 11 4 0 x3) 11 5 0 (nI n) = M2 at hX2 hW ⊢
      have hg1 : ∀ k, M1 (pl b) k = M (pl b) k := fun k => hX1 (pl b) k (by simp [cpS, pl_ne (b := b) (k := 7) (by omega)])
      have hv1 : vc M1 (pl b) 7 = vc M (pl b) 6 := CpOk_vc hC hg1 h8
      have hL1 : LkOk M1 (pl b) 7 := CpOk_lk hC hg1 h8 hL
      have hv2 : vc M2 (pl b) 7 = vc M (pl b) 6 := by
        rw [← hv1]
        exact vc_same (fun k => hX2 (pl b) k (by simp [pl_ne (b := b) (k := 11) (by omega)])) (fun k _ => hX2 7 k (by simp))
      have hL2 : LkOk M2 (pl b) 7 := fun q hq => by
        rw [hv2] at hq ⊢
        rw [hX2 7 9 (by simp), hL1 q (by rw [hv1]; exact hq), hv1]
      have s3 : ∀ {M3 : am_M}, eqX [(7, 9), (11, 0), (11, 1)] M2 M3 → eqX tuS M M3 := fun hX3 => eqX_tr (eqX_sub hX1 (by simp [cpS, tuS])) (eqX_tr (eqX_sub hX2 (by simp [tuS])) (eqX_sub hX3 (by simp [tuS])))
      have tl : ∀ {a f0 f1 : Int32} {M3 : am_M}, eqX tuS M M3 → twF (vc M (pl b) 6) p t x3 n = (a, f0, f1) → (0 < a → M3 11 0 0 = f0) → (¬ 0 < a → f0 = -1) → (1 < a → M3 11 0 1 = f1) → (¬ 1 < a → f1 = -1) → _ := fun {a f0 f1 M3} hx e g0 g0' g1 g1' => tuc (x5 := x5) (P := fun v => Q (some (aI v)) M3 (Rs b)) (F := M3 11 0) (by have := hQ M3 hx; rw [e] at this; exact this) g0 g0' g1 g1'
      refine m_X5_fewest (h := h) hE (pl_ne (by omega)) (by decide) (pl_ne (by omega)) hW (by rw [hv2]; exact hF) hL2 (by rw [hv2]; exact h5) hh ht (by rw [hv2]; exact hp) (by omega) (fun so M3 hX3 => kv (tl (f0 := -1) (f1 := -1) (s3 hX3) ?_ (fun z => absurd z (by decide)) (fun _ => rfl) (fun z => absurd z (by decide)) (fun _ => rfl))) (fun so code M3 hs hX3 e => kv (tl (f0 := wy code) (f1 := -1) (s3 hX3) ?_ (fun _ => e) (fun z => absurd (by decide) z) (fun z => absurd z (by decide)) (fun _ => rfl))) (fun so hs c1 c2 M3 hs1 hs2 hX3 ea eb => kv (tl (f0 := wy c1) (f1 := wy c2) (s3 hX3) ?_ (fun _ => ea) (fun z => absurd (by decide) z) (fun _ => eb) (fun z => absurd (by decide) z))) (fun so hs hs1 M3 hX3 => kv (tl (f0 := -1) (f1 := -1) (s3 hX3) ?_ (fun z => absurd z (by decide)) (fun _ => rfl) (fun z => absurd z (by decide)) (fun _ => rfl)))
      · rw [hv2] at so
        unfold twF
        rw [if_pos (soB_iff.mpr so)]
      · rw [hv2] at so hs
        unfold twF
        rw [if_neg (fun z => so (soB_iff.mp z)), hs]
      · rw [hv2] at so hs hs1 hs2
        unfold twF
        rw [if_neg (fun z => so (soB_iff.mp z)), hs]
        dsimp only
        rw [hs1]
        dsimp only
        rw [hs2]
      · rw [hv2] at so hs hs1
        unfold twF
        rw [if_neg (fun z => so (soB_iff.mp z)), hs]
        dsimp only
        rw [hs1]
    · rw [if_neg (inN_not hne)] at hQ
      exact ⟨fun _ => hQ M eqX_rfl, fun q => ⟨fun q2 => absurd q2 (fun z => by
        rcases hx with y | y
        · exact q y
        · exact ix_ge (q := 30) (n := 31) (by omega) (by omega) (Int32.le_trans y z)), fun _ => hQ M eqX_rfl⟩⟩
  · rw [if_neg (fun z => inN_not a z.2.2)] at hQ
    exact hQ M eqX_rfl
  · rw [if_neg (fun z => inN_not a z.2.1)] at hQ
    exact hQ M eqX_rfl
  · rw [if_neg (fun z => inN_not a z.1)] at hQ
    exact hQ M eqX_rfl
end Turns
