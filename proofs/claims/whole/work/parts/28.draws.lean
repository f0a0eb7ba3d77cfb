/-! draws, dust, unions: both sides -/
theorem lN_and (a b : Nat) : lN a &&& lN b = lN (a &&& b) := by
  apply Int64.toBitVec_inj.1
  show BitVec.ofNat 64 a &&& BitVec.ofNat 64 b = BitVec.ofNat 64 (a &&& b)
  apply BitVec.eq_of_getLsbD_eq
  intro i hi
  simp [hi]
def nxS (z : Nat) : Nat := (z * 1103515245 + 12345) % 2147483648
theorem nxS_lt (z : Nat) : nxS z < 2147483648 := Nat.mod_lt _ (by decide)
theorem seedC {z : Nat} (hz : z < 2147483648) : Int64.toInt32 ((((Int32.toInt64 (nI z)) * 1103515245) + 12345) &&& 2147483647) = nI (nxS z) := by
  rw [nI_l (by omega), show (1103515245 : Int64) = lN 1103515245 from rfl, show (12345 : Int64) = lN 12345 from rfl, show (2147483647 : Int64) = lN (2 ^ 31 - 1) from rfl, lN_mul, lN_add, lN_and, Nat.and_two_pow_sub_one_eq_mod, lN_i]
  rfl
theorem seedM {z : Nat} (hz : z < 2147483648) : Int64.toInt32 ((((Int32.toInt64 (nI z)) * 1103515245) + 12345) - (((Int32.toInt64 (nI z)) * 1103515245) + 12345) / 2147483648 * 2147483648) = nI (nxS z) := by
  rw [nI_l (by omega), show (1103515245 : Int64) = lN 1103515245 from rfl, show (12345 : Int64) = lN 12345 from rfl, show (2147483648 : Int64) = lN 2147483648 from rfl, lN_mul, lN_add, pk_lRem (by omega) (by omega) (by omega), lN_i]
  rfl
theorem drawI {z n : Nat} (hn : 0 < n) (hn2 : n ≤ 1000) : nI (nxS z) / 65536 - nI (nxS z) / 65536 / nI n * nI n = nI (nxS z / 65536 % n) := by
  have h := nxS_lt z
  have e : nI (nxS z) / 65536 = nI (nxS z / 65536) := pk_div (d := 65536) (by omega) (by omega) (by omega)
  rw [e, pk_rem (by omega) hn (by omega)]
def dustF (σ : Sc) : Sc := if nxS (σ 7 0).toNatClampNeg / 65536 % 4 ≠ 0 ∨ sN σ = 0 then sus σ 7 (nI (nxS (σ 7 0).toNatClampNeg)) else sup (sus σ 7 (nI (nxS (nxS (σ 7 0).toNatClampNeg)))) 13 (nxS (nxS (σ 7 0).toNatClampNeg) / 65536 % sN σ) (nI (((σ 13 (nxS (nxS (σ 7 0).toNatClampNeg) / 65536 % sN σ)).toNatClampNeg + 1) % 4))
theorem seed_nI {x : Int32} (h : ¬ x < 0) : ∃ z, z < 2147483648 ∧ x = nI z ∧ x.toNatClampNeg = z := by
  obtain ⟨j, hj, e⟩ := nI_of h
  exact ⟨j, by omega, e, by rw [e]; exact nI_clamp hj⟩
def orF (f : Nat → Int32) : Nat → Nat → Int32 → Int32
  | _, 0, a => a
  | i, k + 1, a => orF f (i + 1) k (a ||| f i)
section Draws
variable {E : Nat → Nat → Int32} {d : Nat} {Q : am_Q} {M : am_M} {R : am_R} {g c : Nat}
theorem m_X4_draw {z z' n : Nat} (hz : z < 2147483648) (ez : M c 3 0 = nI z) (hn : 0 < n) (hn2 : n ≤ 1000) (e' : nxS z = z') (h : Q (some (aI (nI (z' / 65536 % n)))) (am_up M c 3 0 (nI z')) R) : am_WM E (d + 1) 56 [aO 4 c, aI (nI n)] M R Q := by
  rw [← e'] at h
  refine w_X4_draw ?_
  rw [ez, seedC hz, up_s, drawI hn hn2]
  exact ⟨fun q => absurd q (nI_nle hn (by omega)), fun _ => ⟨by decide, nI_ne0 hn (by omega), h⟩⟩
theorem m_X7_draw {z z' n : Nat} (hz : z < 2147483648) (ez : M 13 12 0 = nI z) (hn : 0 < n) (hn2 : n ≤ 1000) (e' : nxS z = z') (h : Q (some (aI (nI (z' / 65536 % n)))) (am_up M 13 12 0 (nI z')) R) : am_WM E (d + 1) 138 [aO 7 13, aI (nI n)] M R Q := by
  rw [← e'] at h
  refine w_X7_draw ?_
  rw [ez, seedM hz, up_s, drawI hn hn2]
  exact ⟨by decide, by decide, nI_ne0 hn (by omega), h⟩
theorem Wg_seed {σ : Sc} {v : Int32} (h : Wg σ) : Wg (sus σ 7 v) := Wg_congr (fun f _ _ a => (sus_off a).symm) h
theorem lk_seed {σ : Sc} {v : Int32} (p : Nat) : lk (sus σ 7 v) p = lk σ p := lk_congr (fun f _ _ a => sus_off a) p
theorem sus_sus {σ : Sc} {f : Nat} {a b : Int32} : sus (sus σ f a) f b = sus σ f b := by
  funext f' j
  unfold sus
  by_cases e : f' = f
  · rw [if_pos e, if_pos e]
  · rw [if_neg e, if_neg e, if_neg e]
theorem m_X4_dustByDraw (hE : stepE E) (hgc : g ≠ c) (hF : Wf (vc M g c)) (hL : LkOk M g c) (h : ∀ M', eqX [(c, 3), (c, 7), (c, 9)] M M' → vc M' g c = dustF (vc M g c) → LkOk M' g c → Q none M' R) : am_WM E (d + 5) 57 [aO 4 c, aO 2 g] M R Q := by
  have h8 := hF.1.1
  have hn : M c 0 0 = nI (sN (vc M g c)) := hF.1.2.1
  obtain ⟨z, hz, ez, ecl⟩ := seed_nI hF.2.2.2.2.1
  have ez : M c 3 0 = nI z := ez
  unfold dustF at h
  rw [ecl] at h
  obtain ⟨z1, e1⟩ : ∃ z1, nxS z = z1 := ⟨_, rfl⟩
  obtain ⟨z2, e2⟩ : ∃ z2, nxS z1 = z2 := ⟨_, rfl⟩
  have hz1 : z1 < 2147483648 := by rw [← e1]; exact nxS_lt z
  rw [e1, e2] at h
  refine w_X4_dustByDraw (m_X4_draw (n := 4) hz ez (by omega) (by omega) e1 (kv ?_))
  have hv1 : vc (am_up M c 3 0 (nI z1)) g c = sus (vc M g c) 7 (nI z1) := vc_ups hgc (by omega)
  have hX1 : eqX [(c, 3), (c, 7), (c, 9)] M (am_up M c 3 0 (nI z1)) := eqX_up eqX_rfl (by simp)
  have hL1 : LkOk (am_up M c 3 0 (nI z1)) g c := by
    intro p hp
    rw [hv1, lk_seed, am_up_off c 9 (by simp)]
    refine hL p ?_
    rw [hv1] at hp
    unfold sN at hp ⊢
    rw [sus_off (by decide)] at hp
    exact hp
  rw [am_up_off c 0 (by simp), hn]
  have hr : z1 / 65536 % 4 < 4 := Nat.mod_lt _ (by decide)
  refine ⟨fun q => ?_, fun q => ⟨fun q2 => ?_, fun q2 => ?_⟩⟩
  · rw [show (0 : Int32) = nI 0 from rfl, ix_eq (by omega) (by omega)] at q
    rw [if_pos (Or.inl q)] at h
    exact h _ hX1 hv1 hL1
  · rw [show (0 : Int32) = nI 0 from rfl, ix_eq (by omega) (by omega)] at q q2
    rw [if_neg (by rintro (a | a); exact a q; exact q2 a)] at h
    have ez1 : am_up M c 3 0 (nI z1) c 3 0 = nI z1 := up_s
    refine m_X4_draw hz1 ez1 (by omega) (by omega) e2 (kv ?_)
    have hp : z2 / 65536 % sN (vc M g c) < sN (vc M g c) := Nat.mod_lt _ (by omega)
    generalize hpe : z2 / 65536 % sN (vc M g c) = p at hp h ⊢
    obtain ⟨w, hw, ew⟩ := hF.1.2.2.2.2.2.2.2.2 p hp
    have hv2 : vc (am_up (am_up M c 3 0 (nI z1)) c 3 0 (nI (z2))) g c = sus (vc M g c) 7 (nI (z2)) := by
      rw [vc_ups hgc (by omega), hv1]
      exact sus_sus
    have hN2 : sN (vc (am_up (am_up M c 3 0 (nI z1)) c 3 0 (nI (z2))) g c) = sN (vc M g c) := by rw [hv2]; unfold sN; rw [sus_off (by decide)]
    have hF2 : Wg (vc (am_up (am_up M c 3 0 (nI z1)) c 3 0 (nI (z2))) g c) := by rw [hv2]; exact Wg_seed hF.1
    have hL2 : LkOk (am_up (am_up M c 3 0 (nI z1)) c 3 0 (nI (z2))) g c := by
      intro p' hp'
      rw [hv2, lk_seed, am_up_off c 9 (by simp), am_up_off c 9 (by simp)]
      exact hL p' (by rw [← hN2]; exact hp')
    have e7 : M c 7 p = nI w := by rw [← ew]; exact (tr_lt hp).symm
    refine m_X4_has (g := g) (by rw [hN2, am_up_off c 0 (by simp), am_up_off c 0 (by simp)]; exact hn) (by rw [hN2]; exact h8) (fun q' hq' eq => k1e ⟨ix_in (by omega) (by omega), ?_⟩) (fun hne => absurd rfl (hne p (by rw [hN2]; exact hp)))
    rw [ix_cl (by omega), am_up_off c 7 (by simp), am_up_off c 7 (by simp), e7, nI_1, show nI (w + 1) &&& 3 = nI ((w + 1) % 4) from pk_andN (by omega) 2 rfl]
    refine m_X4_lookTo hE hgc hF2 hL2 (by rw [hN2]; exact hp) (by omega) (fun M' hX' hv' hL' => ⟨rfl, h M' (eqX_tr (eqX_up hX1 (by simp)) (eqX_sub hX' (by simp))) ?_ hL'⟩)
    rw [hv', hv2, ew, ix_cl (by omega)]
  · rw [show (0 : Int32) = nI 0 from rfl, ix_eq (by omega) (by omega)] at q2
    rw [if_pos (Or.inr q2)] at h
    exact h _ hX1 hv1 hL1
theorem known_loop : ∀ (k i : Nat) (a : Int32), M 13 2 0 = nI (sN (vm M)) → sN (vm M) ≤ 8 → i + k = sN (vm M) → Q (some (aI (orF (vm M 14) i k a))) M R → am_WP E (am_WM E d) am_L_X7_known Q 4 [aO 7 13, aI a, aI (nI i)] [] M R := by
  intro k
  induction k with
  | zero =>
    intro i a hn h8 hi h
    refine w_X7_known_4 ?_
    rw [hn]
    exact ⟨fun _ => h, fun q => absurd (ix_le (by omega) (by omega)) q⟩
  | succ k ih =>
    intro i a hn h8 hi h
    refine w_X7_known_4 ?_
    rw [hn, show (24 : Int32) + nI i = nI (24 + i) from nI_add 24 i, ix_cl (by omega), nI_1]
    refine ⟨fun q => absurd q (ix_ge (by omega) (by omega)), fun _ => ⟨ix_in (by omega) (by omega), ih (i + 1) _ hn h8 (by omega) ?_⟩⟩
    rw [show M 13 11 (24 + i) = vm M 14 i from (tr_lt (f := fun j => M 13 11 (24 + j)) (show i < sN (vm M) by omega)).symm]
    exact h
theorem m_X7_known (hF : Wg (vm M)) (h : Q (some (aI (orF (vm M 14) 0 (sN (vm M)) 0))) M R) : am_WM E (d + 1) 122 [aO 7 13] M R Q := by
  refine w_X7_known ?_
  exact known_loop (sN (vm M)) 0 0 hF.2.1 hF.1 (by omega) h
theorem knownC_loop : ∀ (k i : Nat) (a : Int32), M c 0 0 = nI (sN (vc M g c)) → sN (vc M g c) ≤ 8 → i + k = sN (vc M g c) → Q (some (aI (orF (vc M g c 14) i k a))) M R → am_WP E (am_WM E d) am_L_X4_knownToSomebody Q 4 [aO 4 c, aI a, aI (nI i)] [] M R := by
  intro k
  induction k with
  | zero =>
    intro i a hn h8 hi h
    refine w_X4_knownToSomebody_4 ?_
    rw [hn]
    exact ⟨fun _ => h, fun q => absurd (ix_le (by omega) (by omega)) q⟩
  | succ k ih =>
    intro i a hn h8 hi h
    refine w_X4_knownToSomebody_4 ?_
    rw [hn, ix_cl (by omega), nI_1]
    refine ⟨fun q => absurd q (ix_ge (by omega) (by omega)), fun _ => ⟨ix_in (by omega) (by omega), ih (i + 1) _ hn h8 (by omega) ?_⟩⟩
    rw [show M c 8 i = vc M g c 14 i from (tr_lt (show i < sN (vc M g c) by omega)).symm]
    exact h
theorem m_X4_knownToSomebody (hF : Wg (vc M g c)) (h : Q (some (aI (orF (vc M g c 14) 0 (sN (vc M g c)) 0))) M R) : am_WM E (d + 1) 49 [aO 4 c] M R Q := by
  refine w_X4_knownToSomebody ?_
  exact knownC_loop (g := g) (sN (vc M g c)) 0 0 hF.2.1 hF.1 (by omega) h
theorem thOf_loop : ∀ (k i : Nat) (a : Int32), M g 3 0 = nI (sC (vc M g c)) → sC (vc M g c) ≤ 8 → i + k = sC (vc M g c) → Q (some (aI (orF (fun j => 1 <<< (vc M g c 19 j &&& 31)) i k a))) M R → am_WP E (am_WM E d) am_L_X2_thingsOfComings Q 4 [aO 2 g, aI a, aI (nI i)] [] M R := by
  intro k
  induction k with
  | zero =>
    intro i a hn h8 hi h
    refine w_X2_thingsOfComings_4 ?_
    rw [hn]
    exact ⟨fun _ => h, fun q => absurd (ix_le (by omega) (by omega)) q⟩
  | succ k ih =>
    intro i a hn h8 hi h
    refine w_X2_thingsOfComings_4 ?_
    rw [hn, ix_cl (by omega), nI_1]
    refine ⟨fun q => absurd q (ix_ge (by omega) (by omega)), fun _ => ⟨ix_in (by omega) (by omega), ih (i + 1) _ hn h8 (by omega) ?_⟩⟩
    rw [show M g 9 i = vc M g c 19 i from (tr_lt (show i < sC (vc M g c) by omega)).symm]
    exact h
theorem m_X2_thingsOfComings (hF : Wg (vc M g c)) (h : Q (some (aI (orF (fun j => 1 <<< (vc M g c 19 j &&& 31)) 0 (sC (vc M g c)) 0))) M R) : am_WM E (d + 1) 17 [aO 2 g] M R Q := by
  refine w_X2_thingsOfComings ?_
  exact thOf_loop (c := c) (sC (vc M g c)) 0 0 hF.2.2.2.2.2.1 hF.2.2.2.2.1 (by omega) h
end Draws
