/-! chance: weights -/
def pw (b : Int64) : Nat → Int64
  | 0 => 1
  | k + 1 => pw b k * b
theorem power_s {b : Int64} {n : Nat} (hn : n ≤ 100) : X3_power b (nI n) = some (pw b n) := by
  have key : ∀ (k c fuel : Nat), k = n - c → c ≤ n → k < fuel → X3_power_L5 b (nI n) fuel (pw b c) (nI c) = some (pw b n) := by
    intro k
    induction k with
    | zero =>
      intro c fuel hk hc hf
      have hcn : c = n := by omega
      obtain ⟨fuel, rfl⟩ : ∃ q, fuel = q + 1 := ⟨fuel - 1, by omega⟩
      unfold X3_power_L5
      rw [if_pos (by rw [hcn]; exact (nI_le_iff (by omega) (by omega)).mpr (Nat.le_refl _)), hcn]
    | succ k ih =>
      intro c fuel hk hc hf
      obtain ⟨fuel, rfl⟩ : ∃ q, fuel = q + 1 := ⟨fuel - 1, by omega⟩
      unfold X3_power_L5
      rw [if_neg (by rw [nI_le_iff (by omega) (by omega)]; omega), nm_q, nm_q, nI_1]
      exact ih (c + 1) fuel (by omega) (by omega) (by omega)
  exact key n 0 LF (by omega) (by omega) (LF_big (by omega))
/-- years of w without Lent, of the first n -/
def zb0 (w : Nat) : Nat → Nat
  | 0 => 0
  | k + 1 => zb0 w k + if w.testBit k then 0 else 1
theorem bitc : ∀ n, n < 9 → ∀ w, w < 256 → w < 2 ^ n → nI n - J6_bitCount_0f7a4 (nI w) = nI (zb0 w n) := by decide +kernel
theorem bitk : ∀ k, k < 8 → ∀ w, w < 256 → (((nI w >>> (nI k &&& 31)) &&& 1) = 1 ↔ w.testBit k = true) := by decide +kernel
theorem shl_s : ∀ n, n < 9 → (1 : Int32) <<< (nI n &&& 31) = nI (2 ^ n) := by decide +kernel
