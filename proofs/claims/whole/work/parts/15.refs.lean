/-! the refs as they stand: only the two plans change places -/
def pl (b : Bool) : Nat := bif b then 3 else 2
def dr (b : Bool) : Nat := bif b then 2 else 3
def Rs (b : Bool) : am_R := fun o k => match o, k with
  | 0, 0 => 1
  | 0, 1 => pl b
  | 0, 2 => dr b
  | 0, 3 => 6
  | 0, 4 => 7
  | 0, 5 => 8
  | 0, 6 => 9
  | 0, 9 => 10
  | 0, 10 => 11
  | 0, 11 => 12
  | 0, _ => 0
  | o + 1, _ => o + 3
theorem Rs_ok (b : Bool) : am_okR (Rs b) := by
  have h : ∀ b, ((List.range 14).all (fun o => (List.range 60).all (fun k => match am_fk (am_cls o) k with | (3, c) => Nat.ble (Rs b o k + 1) 14 && Nat.beq (am_cls (Rs b o k)) c | _ => true))) = true := by decide +kernel
  intro o k c ho hf
  have hk : k < 60 := by
    have h1 := am_fk_lt hf (by decide)
    have h2 : am_nf (am_cls o) ≤ 48 := by
      have h3 : ∀ o, o < 14 → am_nf (am_cls o) ≤ 48 := by decide +kernel
      exact h3 o ho
    omega
  have h1 := List.all_eq_true.mp (List.all_eq_true.mp (h b) o (List.mem_range.mpr ho)) k (List.mem_range.mpr hk)
  rw [hf] at h1
  have h2 := Bool.and_eq_true_iff.mp (show (Nat.ble (Rs b o k + 1) 14 && Nat.beq (am_cls (Rs b o k)) c) = true from h1)
  exact ⟨Nat.le_of_ble_eq_true h2.1, Nat.eq_of_beq_eq_true h2.2⟩
theorem Rs_00 {b : Bool} : Rs b 0 0 = 1 := rfl
theorem Rs_01 {b : Bool} : Rs b 0 1 = pl b := rfl
theorem Rs_02 {b : Bool} : Rs b 0 2 = dr b := rfl
theorem Rs_03 {b : Bool} : Rs b 0 3 = 6 := rfl
theorem Rs_04 {b : Bool} : Rs b 0 4 = 7 := rfl
theorem Rs_05 {b : Bool} : Rs b 0 5 = 8 := rfl
theorem Rs_06 {b : Bool} : Rs b 0 6 = 9 := rfl
theorem Rs_09 {b : Bool} : Rs b 0 9 = 10 := rfl
theorem Rs_0a {b : Bool} : Rs b 0 10 = 11 := rfl
theorem Rs_0b {b : Bool} : Rs b 0 11 = 12 := rfl
theorem Rs_pl {b c : Bool} : Rs b (pl c) 10 = pl c + 2 := by cases c <;> rfl
theorem Rs_dr {b c : Bool} : Rs b (dr c) 10 = dr c + 2 := by cases c <;> rfl
theorem Rs_swap {b : Bool} : am_upR (am_upR (Rs b) 0 1 (dr b)) 0 2 (pl b) = Rs (!b) := by
  funext o k
  match o, k with
  | 0, 0 => rfl
  | 0, 1 => cases b <;> rfl
  | 0, 2 => cases b <;> rfl
  | 0, 3 => cases b <;> rfl
  | 0, 4 => cases b <;> rfl
  | 0, 5 => cases b <;> rfl
  | 0, 6 => cases b <;> rfl
  | 0, 7 => cases b <;> rfl
  | 0, 8 => cases b <;> rfl
  | 0, 9 => cases b <;> rfl
  | 0, 10 => cases b <;> rfl
  | 0, 11 => cases b <;> rfl
  | 0, k + 12 => cases b <;> rfl
  | o + 1, k => simp [am_upR, Rs]
