/-! the small machine's own rules: a step may be weakened, a tree of steps may be taken at once -/
theorem am_br_mono {c : Jvm.ClassFile.Cond} {a b : Int32} {T F T' F' : Prop} (h1 : T → T') (h2 : F → F') (h : am_br c a b T F) : am_br c a b T' F' := by
  cases c <;> exact ⟨fun q => h1 (h.1 q), fun q => h2 (h.2 q)⟩
theorem am_tsw_mono {a : Int32} {pc : Nat} {K K' : Nat → Prop} {d : Int} (hK : ∀ q, K q → K' q) : ∀ (os : List Int) (lo : Int), am_tsw a pc K d lo os → am_tsw a pc K' d lo os
  | [], _, h => hK _ h
  | _ :: os, lo, h => ⟨fun q => hK _ (h.1 q), fun q => am_tsw_mono hK os (lo + 1) (h.2 q)⟩
theorem am_lsw_mono {a : Int32} {pc : Nat} {K K' : Nat → Prop} {d : Int} (hK : ∀ q, K q → K' q) : ∀ (os : List (Int × Int)), am_lsw a pc K d os → am_lsw a pc K' d os
  | [], h => hK _ h
  | (_, _) :: os, h => ⟨fun q => hK _ (h.1 q), fun q => am_lsw_mono hK os (h.2 q)⟩
theorem am_cond_mono {b : Bool} {P P' : Prop} (h : P → P') (q : bif b then P else False) : bif b then P' else False := by
  cases b
  · exact q
  · exact h q
theorem am_cond2_mono {b : Bool} {P P' S S' : Prop} (h : P → P') (h2 : S → S') (q : bif b then P else S) : bif b then P' else S' := by
  cases b
  · exact h2 q
  · exact h q
theorem am_int2_mono {st : List am_V} {K K' : Int32 → Int32 → List am_V → Prop} (h : ∀ a b t, K a b t → K' a b t) (q : am_int2 st K) : am_int2 st K' := by
  unfold am_int2 at q ⊢
  split at q
  · exact h _ _ _ q
  · exact q
theorem am_lng2_mono {st : List am_V} {K K' : Int64 → Int64 → List am_V → Prop} (h : ∀ a b t, K a b t → K' a b t) (q : am_lng2 st K) : am_lng2 st K' := by
  unfold am_lng2 at q ⊢
  split at q
  · exact h _ _ _ q
  · exact q
theorem am_put_mono {f : Nat × Nat} {a : am_V} {K K' : am_M → am_R → Prop} {M : am_M} {R : am_R} {o k : Nat} (h : ∀ M R, K M R → K' M R) (q : am_put f a K M R o k) : am_put f a K' M R o k := by
  unfold am_put at q ⊢
  split at q
  · split at q
    · exact h _ _ q
    · exact q
  · split at q
    · exact am_cond_mono (h _ _) q
    · exact q
  · exact q
def am_CM (call call' : am_C) : Prop := ∀ x as M R (K K' : am_Q), (∀ r M R, K r M R → K' r M R) → call x as M R K → call' x as M R K'
theorem am_rk_mono {k : Nat} {r : Option am_V} {rest : List am_V} {K K' : List am_V → Prop} (h : ∀ t, K t → K' t) (q : am_rk k r rest K) : am_rk k r rest K' := by
  rcases k with _ | _ | c
  · exact ⟨q.1, h _ q.2⟩
  · obtain ⟨a, h1, h2⟩ := q
    exact ⟨a, h1, h _ h2⟩
  · obtain ⟨a, h1, h2⟩ := q
    exact ⟨a, h1, h _ h2⟩
theorem am_rk_push {k : Nat} {r : Option am_V} {rest : List am_V} {K : List am_V → Prop} (q : am_rk k r rest K) : K (am_push r rest) := by
  rcases k with _ | _ | c
  · rw [q.1]; exact q.2
  · obtain ⟨a, h1, h2⟩ := q
    rw [h1]; exact h2
  · obtain ⟨a, h1, h2⟩ := q
    rw [h1]; exact h2
theorem am_call_mono {call call' : am_C} (hc : am_CM call call') {x y z : Nat} {st : List am_V} {M : am_M} {R : am_R} {K K' : List am_V → am_M → am_R → Prop} (h : ∀ t M R, K t M R → K' t M R) (q : am_call call x y z st M R K) : am_call call' x y z st M R K' := by
  unfold am_call at q ⊢
  refine am_cond_mono (fun q => ?_) q
  split at q
  · split at q
    · exact am_cond_mono (fun q => hc _ _ _ _ _ _ (fun r M R => am_rk_mono (fun t => h _ _ _)) q) q
    · exact q
  · exact hc _ _ _ _ _ _ (fun r M R => am_rk_mono (fun t => h _ _ _)) q
theorem am_copy_mono {st : List am_V} {M : am_M} {K K' : List am_V → am_M → Prop} (h : ∀ t M, K t M → K' t M) (q : am_copy st M K) : am_copy st M K' := by
  unfold am_copy at q ⊢
  split at q
  · exact ⟨q.1, q.2.1, q.2.2.1, q.2.2.2.1, q.2.2.2.2.1, am_cond_mono (h _ _) q.2.2.2.2.2⟩
  · exact q
theorem am_ex_mono {E : Nat → Nat → Int32} {call call' : am_C} {Q Q' : am_Q} {X X' : am_X} (hc : am_CM call call') (hQ : ∀ r M R, Q r M R → Q' r M R) (hX : ∀ pc ls st M R, X pc ls st M R → X' pc ls st M R) {pc : Nat} {e : am_E} {ls st : List am_V} {M : am_M} {R : am_R}
    (h : am_ex E call Q X pc e ls st M R) : am_ex E call' Q' X' pc e ls st M R := by
  obtain ⟨i, nx, x, y, z, u, v, w⟩ := e
  cases i <;> first
    | exact h.elim
    | exact hX _ _ _ _ _ h
    | exact am_int2_mono (fun a b t => hX _ _ _ _ _) h
    | exact am_int2_mono (fun a b t q => ⟨q.1, hX _ _ _ _ _ q.2⟩) h
    | exact am_int2_mono (fun a b t => am_br_mono (hX _ _ _ _ _) (hX _ _ _ _ _)) h
    | exact am_lng2_mono (fun a b t => hX _ _ _ _ _) h
    | exact am_lng2_mono (fun a b t q => ⟨q.1, hX _ _ _ _ _ q.2⟩) h
    | exact am_call_mono hc (fun t M R => hX _ _ _ _ _) h
    | (dsimp only [am_ex] at h ⊢
       split at h <;> first
         | exact h
         | exact hX _ _ _ _ _ h
         | exact am_cond_mono (hX _ _ _ _ _) h
         | exact ⟨h.1, hX _ _ _ _ _ h.2⟩
         | exact ⟨h.1, h.2.1, hX _ _ _ _ _ h.2.2⟩
         | exact am_br_mono (hX _ _ _ _ _) (hX _ _ _ _ _) h
         | exact am_tsw_mono (fun q => hX _ _ _ _ _) _ _ h
         | exact am_lsw_mono (fun q => hX _ _ _ _ _) _ h
         | exact am_cond_mono (am_put_mono (fun M R => hX _ _ _ _ _)) h
         | exact am_copy_mono (fun t M => hX _ _ _ _ _) h
         | exact am_int2_mono (fun a b t => am_cond_mono (hX _ _ _ _ _)) h
         | exact am_call_mono hc (fun t M R => hX _ _ _ _ _) h
         | exact am_cond2_mono (fun q => ⟨q.1, hQ _ _ _ q.2⟩) (hQ _ _ _) h
         | exact hQ _ _ _ h)
theorem am_st_mono {E : Nat → Nat → Int32} {call call' : am_C} {L : am_L} {Q Q' : am_Q} {X X' : am_X} (hc : am_CM call call') (hQ : ∀ r M R, Q r M R → Q' r M R) (hX : ∀ pc ls st M R, X pc ls st M R → X' pc ls st M R) {pc : Nat} {ls st : List am_V} {M : am_M} {R : am_R}
    (h : am_st E call L Q X pc ls st M R) : am_st E call' L Q' X' pc ls st M R := by
  unfold am_st at h ⊢
  split at h
  · exact am_ex_mono hc hQ hX h
  · exact h
theorem am_WP_mono {E : Nat → Nat → Int32} {call call' : am_C} {L : am_L} {Q Q' : am_Q} (hc : am_CM call call') (hQ : ∀ r M R, Q r M R → Q' r M R) {pc : Nat} {ls st : List am_V} {M : am_M} {R : am_R} (h : am_WP E call L Q pc ls st M R) : am_WP E call' L Q' pc ls st M R :=
  fun X hX => h X (fun pc ls st M R q => hX pc ls st M R (am_st_mono hc hQ (fun _ _ _ _ _ q => q) q))
theorem am_WM_mono (E : Nat → Nat → Int32) : ∀ d, am_CM (am_WM E d) (am_WM E d)
  | 0 => fun _ _ _ _ _ _ _ q => q
  | d + 1 => fun μ as M R K K' hK q => by
    unfold am_WM at q ⊢
    split at q
    · exact am_cond_mono (fun q => am_WP_mono (am_WM_mono E d) hK q) q
    · exact q
theorem am_WP_in {E : Nat → Nat → Int32} {d : Nat} {L : am_L} {Q : am_Q} {pc : Nat} {ls st : List am_V} {M : am_M} {R : am_R} (h : am_st E (am_WM E d) L Q (am_WP E (am_WM E d) L Q) pc ls st M R) : am_WP E (am_WM E d) L Q pc ls st M R :=
  fun X hX => hX _ _ _ _ _ (am_st_mono (am_WM_mono E d) (fun _ _ _ q => q) (fun pc ls st M R q => q X hX) h)
/-- fewer locals known -/
def am_le : List am_V → List am_V → Prop
  | [], [] => True
  | a :: l, b :: l' => (a = b ∨ (a = aU ∧ am_isL b = false)) ∧ am_le l l'
  | _, _ => False
theorem am_le_rfl : ∀ (l : List am_V), am_le l l
  | [] => trivial
  | _ :: l => ⟨Or.inl rfl, am_le_rfl l⟩
theorem am_fg_le : ∀ (m : List Bool) (l : List am_V), am_le (am_fg m l) l
  | [], [] => trivial
  | [], _ :: l => ⟨Or.inl rfl, am_le_rfl l⟩
  | _ :: _, [] => trivial
  | b :: m, v :: l => by
    refine ⟨?_, am_fg_le m l⟩
    cases b
    · exact Or.inl rfl
    · cases hv : am_isL v with
      | true => exact Or.inl (by simp)
      | false => exact Or.inr ⟨by simp, rfl⟩
theorem am_le_len : ∀ {l l' : List am_V}, am_le l l' → l.length = l'.length
  | [], [], _ => rfl
  | [], _ :: _, h => h.elim
  | _ :: _, [], h => h.elim
  | _ :: l, _ :: l', h => by rw [List.length_cons, List.length_cons, am_le_len h.2]
theorem am_le_get : ∀ {l l' : List am_V}, am_le l l' → ∀ {i : Nat} {v : am_V}, l[i]? = some v → ∃ v', l'[i]? = some v' ∧ (v = v' ∨ (v = aU ∧ am_isL v' = false))
  | [], _, _, i, v, hv => by simp at hv
  | _ :: _, [], h, _, _, _ => h.elim
  | a :: l, b :: l', h, i, v, hv => by
    cases i with
    | zero =>
      simp at hv
      subst hv
      exact ⟨b, rfl, h.1⟩
    | succ i => exact am_le_get h.2 hv
theorem am_le_set : ∀ {l l' : List am_V}, am_le l l' → ∀ (i : Nat) (v : am_V), am_le (l.set i v) (l'.set i v)
  | [], [], _, _, _ => trivial
  | [], _ :: _, h, _, _ => h.elim
  | _ :: _, [], h, _, _ => h.elim
  | a :: l, b :: l', h, i, v => by
    cases i with
    | zero => exact ⟨Or.inl rfl, h.2⟩
    | succ i => exact ⟨h.1, am_le_set h.2 i v⟩
theorem am_le_fit {l l' : List am_V} (h : am_le l l') {x : Nat} (hf : am_fit l x = true) : am_fit l' x = true := by
  unfold am_fit at hf ⊢
  rw [← am_le_len h]
  rw [Bool.and_eq_true] at hf ⊢
  refine ⟨hf.1, ?_⟩
  cases x with
  | zero => rfl
  | succ j =>
    have h2 := hf.2
    dsimp only at h2 ⊢
    cases hl : l[j]? with
    | none =>
      have : l'[j]? = none := by
        rw [List.getElem?_eq_none_iff] at hl ⊢
        rw [← am_le_len h]; exact hl
      rw [this]
    | some v =>
      obtain ⟨v', hv', hc⟩ := am_le_get h hl
      rw [hl] at h2
      rw [hv']
      dsimp only at h2 ⊢
      rcases hc with rfl | ⟨-, hc⟩
      · exact h2
      · rw [hc]; rfl
theorem am_ex_le {E : Nat → Nat → Int32} {call : am_C} {Q : am_Q} {X : am_X} (hc : am_CM call call) {pc : Nat} {e : am_E} {ls ls' st : List am_V} {M : am_M} {R : am_R} (hl : am_le ls ls')
    (h : am_ex E call Q (fun pc ls st M R => ∀ ls', am_le ls ls' → X pc ls' st M R) pc e ls st M R) : am_ex E call Q X pc e ls' st M R := by
  obtain ⟨i, nx, x, y, z, u, v, w⟩ := e
  have kx : ∀ nx st M R, (∀ ls', am_le ls ls' → X nx ls' st M R) → X nx ls' st M R := fun _ _ _ _ q => q ls' hl
  have ld : ∀ (f : am_V → Bool), f aU = false → (match ls[x]? with | some a => (bif f a then (∀ ls', am_le ls ls' → X nx ls' (a :: st) M R) else False) | none => False) → (match ls'[x]? with | some a => (bif f a then X nx ls' (a :: st) M R else False) | none => False) := by
    intro f hf h
    cases hx : ls[x]? with
    | none => rw [hx] at h; exact h.elim
    | some a =>
      rw [hx] at h
      obtain ⟨a', ha', hc⟩ := am_le_get hl hx
      rw [ha']
      dsimp only at h ⊢
      rcases hc with rfl | ⟨rfl, -⟩
      · exact am_cond_mono (kx _ _ _ _) h
      · rw [hf] at h; exact h.elim
  cases i <;> first
    | exact h.elim
    | exact kx _ _ _ _ h
    | exact ld am_isI rfl h
    | exact ld am_isL rfl h
    | exact ld am_isR rfl h
    | exact am_int2_mono (fun a b t => kx _ _ _ _) h
    | exact am_int2_mono (fun a b t q => ⟨q.1, kx _ _ _ _ q.2⟩) h
    | exact am_int2_mono (fun a b t => am_br_mono (kx _ _ _ _) (kx _ _ _ _)) h
    | exact am_lng2_mono (fun a b t => kx _ _ _ _) h
    | exact am_lng2_mono (fun a b t q => ⟨q.1, kx _ _ _ _ q.2⟩) h
    | exact am_call_mono hc (fun t M R => kx _ _ _ _) h
    | (dsimp only [am_ex] at h ⊢
       split at h <;> first
         | exact h
         | exact h.elim
         | exact kx _ _ _ _ h
         | exact am_cond_mono (kx _ _ _ _) h
         | exact ⟨h.1, kx _ _ _ _ h.2⟩
         | exact ⟨h.1, h.2.1, kx _ _ _ _ h.2.2⟩
         | exact am_br_mono (kx _ _ _ _) (kx _ _ _ _) h
         | exact am_tsw_mono (fun q => kx _ _ _ _) _ _ h
         | exact am_lsw_mono (fun q => kx _ _ _ _) _ h
         | exact am_cond_mono (am_put_mono (fun M R => kx _ _ _ _)) h
         | exact am_copy_mono (fun t M => kx _ _ _ _) h
         | exact am_int2_mono (fun a b t => am_cond_mono (kx _ _ _ _)) h
         | exact am_call_mono hc (fun t M R => kx _ _ _ _) h
         | (cases hb : (am_isI _ && am_fit ls x) with
            | false => rw [hb] at h; exact h.elim
            | true =>
              rw [hb] at h
              rw [Bool.and_eq_true] at hb
              rw [hb.1, am_le_fit hl hb.2]
              exact h _ (am_le_set hl _ _))
         | (cases hb : (am_isR _ && am_fit ls x) with
            | false => rw [hb] at h; exact h.elim
            | true =>
              rw [hb] at h
              rw [Bool.and_eq_true] at hb
              rw [hb.1, am_le_fit hl hb.2]
              exact h _ (am_le_set hl _ _))
         | (cases hb : (am_isL _ && (am_fit ls x && Nat.ble (x + 2) ls.length)) with
            | false => rw [hb] at h; exact h.elim
            | true =>
              rw [hb] at h
              rw [Bool.and_eq_true, Bool.and_eq_true] at hb
              rw [hb.1, am_le_fit hl hb.2.1, ← am_le_len hl, hb.2.2]
              exact h _ (am_le_set (am_le_set hl _ _) _ _)))
    | (dsimp only [am_ex] at h ⊢
       cases hx : ls[x]? with
       | none => rw [hx] at h; exact h.elim
       | some a =>
         rw [hx] at h
         obtain ⟨a', ha', hc⟩ := am_le_get hl hx
         rw [ha']
         rcases hc with rfl | ⟨rfl, -⟩
         · rcases a with a | a
           · cases hb : am_fit ls x with
             | false => rw [hb] at h; exact h.elim
             | true =>
               rw [hb] at h
               rw [am_le_fit hl hb]
               exact h _ (am_le_set hl _ _)
           · exact h.elim
         · exact h.elim)
theorem am_WP_le {E : Nat → Nat → Int32} {d : Nat} {L : am_L} {Q : am_Q} {pc : Nat} {ls ls' st : List am_V} {M : am_M} {R : am_R} (hl : am_le ls ls') (h : am_WP E (am_WM E d) L Q pc ls st M R) : am_WP E (am_WM E d) L Q pc ls' st M R := by
  intro X hX
  refine h (fun pc ls st M R => ∀ ls', am_le ls ls' → X pc ls' st M R) ?_ ls' hl
  intro pc ls st M R q ls' hl
  refine hX _ _ _ _ _ ?_
  unfold am_st at q ⊢
  split at q
  · exact am_ex_le (am_WM_mono E d) hl q
  · exact q.elim
theorem am_vc_in {E : Nat → Nat → Int32} {d : Nat} {L : am_L} {Q : am_Q} {cuts : List (Nat × List Bool)} : ∀ (n : Nat) {pc : Nat} {ls st : List am_V} {M : am_M} {R : am_R}, am_vc E (am_WM E d) L Q (am_WP E (am_WM E d) L Q) cuts n pc ls st M R → am_WP E (am_WM E d) L Q pc ls st M R
  | 0, _, _, _, _, _, h => h
  | n + 1, pc, ls, st, M, R, h => by
    unfold am_vc at h
    split at h
    · next m hm => exact am_WP_le (am_fg_le m ls) h
    · exact am_WP_in (am_st_mono (am_WM_mono E d) (fun _ _ _ q => q) (fun pc ls st M R q => am_vc_in n q) h)
/-- from a place on, to the next cuts -/
theorem am_cut {E : Nat → Nat → Int32} {d : Nat} {L : am_L} {Q : am_Q} (cuts : List (Nat × List Bool)) (n : Nat) {pc : Nat} {ls st : List am_V} {M : am_M} {R : am_R} (h : am_st E (am_WM E d) L Q (am_vc E (am_WM E d) L Q (am_WP E (am_WM E d) L Q) cuts n) pc ls st M R) : am_WP E (am_WM E d) L Q pc ls st M R :=
  am_WP_in (am_st_mono (am_WM_mono E d) (fun _ _ _ q => q) (fun pc ls st M R q => am_vc_in n q) h)
