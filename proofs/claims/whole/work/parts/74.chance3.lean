/-! chance: how great a weight is -/
theorem pw_in {b : Int64} (hb : 0 ≤ b.toInt ∧ b.toInt ≤ 20) : ∀ k, k ≤ 8 → 0 ≤ (pw b k).toInt ∧ (pw b k).toInt ≤ 20 ^ k := by
  intro k
  induction k with
  | zero => intro _; exact ⟨show 0 ≤ (1 : Int64).toInt by decide, show (1 : Int64).toInt ≤ 20 ^ 0 by decide⟩
  | succ k ih =>
    intro hk
    obtain ⟨i1, i2⟩ := ih (by omega)
    have i3 : (20 : Int) ^ k ≤ 1280000000 := by
      rcases (by omega : k = 0 ∨ k = 1 ∨ k = 2 ∨ k = 3 ∨ k = 4 ∨ k = 5 ∨ k = 6 ∨ k = 7) with rfl | rfl | rfl | rfl | rfl | rfl | rfl | rfl <;> decide
    have m1 : 0 ≤ (pw b k).toInt * b.toInt := Int.mul_nonneg i1 hb.1
    have m2 : (pw b k).toInt * b.toInt ≤ (pw b k).toInt * 20 := Int.mul_le_mul_of_nonneg_left hb.2 i1
    show 0 ≤ (pw b k * b).toInt ∧ (pw b k * b).toInt ≤ 20 ^ (k + 1)
    rw [l_mul (by omega) (by omega), Int.pow_succ]
    omega
