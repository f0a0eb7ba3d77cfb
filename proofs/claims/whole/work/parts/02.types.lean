/-! THE SMALL MACHINE: values, memory, one step of each kind of instruction, as propositions -/
abbrev am_V : Type := Int32 ⊕ Int64 ⊕ (Nat × Nat) ⊕ (Nat × Nat × Nat × Bool) ⊕ (Nat × Nat) ⊕ Unit
abbrev aI (x : Int32) : am_V := Sum.inl x
abbrev aL (x : Int64) : am_V := Sum.inr (Sum.inl x)
abbrev aO (c o : Nat) : am_V := Sum.inr (Sum.inr (Sum.inl (c, o)))
abbrev aA (o k n : Nat) : am_V := Sum.inr (Sum.inr (Sum.inr (Sum.inl (o, k, n, false))))
abbrev aZ (o k n : Nat) : am_V := Sum.inr (Sum.inr (Sum.inr (Sum.inl (o, k, n, true))))
abbrev aS (j n : Nat) : am_V := Sum.inr (Sum.inr (Sum.inr (Sum.inr (Sum.inl (j, n)))))
abbrev aU : am_V := Sum.inr (Sum.inr (Sum.inr (Sum.inr (Sum.inr ()))))
abbrev am_M : Type := Nat → Nat → Nat → Int32
abbrev am_R : Type := Nat → Nat → Nat
abbrev am_E : Type := Instr × Nat × Nat × Nat × Nat × Nat × Int32 × Int64
abbrev am_C : Type := Nat → List am_V → am_M → am_R → (Option am_V → am_M → am_R → Prop) → Prop
abbrev am_X : Type := Nat → List am_V → List am_V → am_M → am_R → Prop
abbrev am_Q : Type := Option am_V → am_M → am_R → Prop
abbrev am_L : Type := List (List (Nat × am_E))
