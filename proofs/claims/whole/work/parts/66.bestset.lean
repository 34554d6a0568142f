/-! bestSet; longs as whole numbers -/
theorem lbm {a : Int} (h1 : -9223372036854775808 ≤ a) (h2 : a < 9223372036854775808) : a.bmod (2 ^ 64) = a := by
  rw [Int.bmod_def]
  have : ((2 ^ 64 : Nat) : Int) = 18446744073709551616 := by decide
  rw [this]
  by_cases h : 0 ≤ a
  · have e : a % 18446744073709551616 = a := Int.emod_eq_of_lt h (by omega)
    rw [e, if_pos (by omega)]
  · have e : a % 18446744073709551616 = a + 18446744073709551616 := by omega
    rw [e, if_neg (by omega)]
    omega
theorem l_add {x y : Int64} (h1 : -9223372036854775808 ≤ x.toInt + y.toInt) (h2 : x.toInt + y.toInt < 9223372036854775808) : (x + y).toInt = x.toInt + y.toInt := by
  rw [Int64.toInt_add]; exact lbm h1 h2
theorem l_mul {x y : Int64} (h1 : -9223372036854775808 ≤ x.toInt * y.toInt) (h2 : x.toInt * y.toInt < 9223372036854775808) : (x * y).toInt = x.toInt * y.toInt := by
  rw [Int64.toInt_mul]; exact lbm h1 h2
theorem l_lt {x y : Int64} : x < y ↔ x.toInt < y.toInt := Int64.lt_iff_toInt_lt
theorem l_eq {x y : Int64} : x = y ↔ x.toInt = y.toInt := Int64.toInt_inj.symm
theorem l_of (x : Int32) : x.toInt64.toInt = x.toInt := Int32.toInt_toInt64 x
theorem lg_pos {x y : Int64} : 0 < lg_cmp x y ↔ y.toInt < x.toInt := by
  unfold lg_cmp
  by_cases h : x > y
  · rw [if_pos h]; exact ⟨fun _ => l_lt.mp h, fun _ => by decide⟩
  · rw [if_neg h]
    by_cases h2 : x = y
    · rw [if_pos h2]; exact ⟨fun q => absurd q (by decide), fun q => absurd (l_lt.mpr q) h⟩
    · rw [if_neg h2]; exact ⟨fun q => absurd q (by decide), fun q => absurd (l_lt.mpr q) h⟩
theorem lg_zero {x y : Int64} : lg_cmp x y = 0 ↔ x = y := by
  unfold lg_cmp
  by_cases h : x > y
  · rw [if_pos h]
    refine ⟨fun q => absurd q (by decide), fun q => ?_⟩
    have := l_lt.mp h
    rw [q] at this; omega
  · rw [if_neg h]
    by_cases h2 : x = y
    · rw [if_pos h2]; exact ⟨fun _ => h2, fun _ => rfl⟩
    · rw [if_neg h2]; exact ⟨fun q => absurd q (by decide), fun q => absurd q h2⟩
def zA (T : Nat → Int32) : Int := zS (fun c => (T (kx c 2)).toInt) (nT T)
def zK (T : Nat → Int32) : Int := zS (fun c => (T (kx c 5)).toInt) (nT T)
theorem sums_z {T : Nat → Int32} (h : TI T) : (sT (fun c => T (kx c 2)) (nT T)).toInt = zA T ∧ (sT (fun c => T (kx c 5)) (nT T)).toInt = zK T ∧ (0 ≤ zA T ∧ zA T ≤ 70000000) ∧ (0 ≤ zK T ∧ zK T ≤ 70000000) := by
  have n7 := h.nT7.1
  have hY : (T 1).toInt ≤ 1300 := by obtain ⟨n, -, -, -, -, h6, -⟩ := h; exact h6.2
  have a1 := sT_z (f := fun c => T (kx c 2)) (nT T) n7 (fun c hc => by
    obtain ⟨-, ⟨-, q2⟩, ⟨q3, q4⟩, -⟩ := h.ci hc
    unfold ck at q2 q3 q4
    exact ⟨q3, by show (T (kx c 2)).toInt ≤ _; omega⟩)
  have a2 := sT_z (f := fun c => T (kx c 5)) (nT T) n7 (fun c hc => by
    obtain ⟨-, -, -, -, -, q1, q2⟩ := h.ci hc
    unfold ck at q1 q2
    exact ⟨q1, by show (T (kx c 5)).toInt ≤ _; omega⟩)
  unfold zA zK
  refine ⟨a1.1, a2.1, ⟨a1.2.1, ?_⟩, a2.2.1, ?_⟩
  · have := a1.2.2; omega
  · have := a2.2.2; omega
theorem tot_y {T : Nat → Int32} (h : TI T) (hy : (T 1).toInt < 1300) : zA (yA T) + zK (yA T) = zA T + zK T := by
  have hr := rT_in h (lentT T)
  have en : nT (yA T) = nT T := y1_nT
  unfold zA zK
  rw [en]
  refine zS_lin _ (fun c hc => ?_)
  have := (s_cY_in (year := T 1 + 1) (h.ci hc) (by omega) hr).2.1
  simp only [yA_c hc (show 5 < 6 by omega), yA_c hc (show 2 < 6 by omega)]
  exact this
theorem tot_yT {T : Nat → Int32} (h : TI T) : ∀ k : Nat, (T 1).toInt + k ≤ 1300 → zA (yT k T) + zK (yT k T) = zA T + zK T := by
  intro k
  induction k with
  | zero => intro _; rfl
  | succ k ih =>
    intro hk
    obtain ⟨u1, u2, u3⟩ := yT_1 h k (by omega)
    rw [yT, tot_y u1 (by omega), ih (by omega)]
theorem tot_ct {T T' : Nat → Int32} (e : nT T' = nT T) (h : ∀ c k, T' (kx c k) = T (kx c k)) : zA T' = zA T ∧ zK T' = zK T := by
  unfold zA zK
  simp only [e, h]
  exact ⟨trivial, trivial⟩
/-- what both hold of the best setting -/
def Bs (Tot : Int) (w6 w7 : Int32) (u8 : Int32) (u9 u10 : Int64) : Prop := w6 = u8 ∧ (0 ≤ w7.toInt ∧ w7.toInt ≤ Tot) ∧ u9 = w7.toInt64 ∧ ((Tot = 0 ∧ u10 = 1) ∨ (¬ Tot = 0 ∧ u10.toInt = Tot))
/-- the comparison -/
theorem cmp_s {Tot : Int} (hT : 0 ≤ Tot ∧ Tot ≤ 140000000) {t am w6 w7 u8 : Int32} {u9 u10 : Int64} (h1 : t.toInt + am.toInt = Tot) (h2 : 0 ≤ t.toInt ∧ 0 ≤ am.toInt) (hb : (w7 = -1 ∧ u9 = -1 ∧ u10 = 1) ∨ Bs Tot w6 w7 u8 u9 u10) :
    (t.toInt64 + am.toInt64).toInt = Tot ∧ (lg_cmp (t.toInt64 + am.toInt64) 0 = 0 ↔ Tot = 0) ∧ (Tot = 0 → (0 < lg_cmp (t.toInt64 * u10) (u9 * 1) ↔ ¬ t ≤ w7)) ∧ (¬ Tot = 0 → (0 < lg_cmp (t.toInt64 * u10) (u9 * (t.toInt64 + am.toInt64)) ↔ ¬ t ≤ w7)) := by
  have L1 : (1 : Int64).toInt = 1 := rfl
  have Lm : (-1 : Int64).toInt = -1 := rfl
  have L0 : (0 : Int64).toInt = 0 := rfl
  have e1 : (t.toInt64 + am.toInt64).toInt = Tot := by rw [l_add] <;> rw [l_of, l_of] <;> omega
  refine ⟨e1, ?_, fun hz => ?_, fun hz => ?_⟩
  · rw [lg_zero, l_eq, e1, L0]
  · rw [lg_pos, z_le]
    have et : t.toInt = 0 := by omega
    rcases hb with ⟨rfl, rfl, rfl⟩ | ⟨-, ⟨b1, b2⟩, rfl, b3⟩
    · rw [l_mul (by rw [Lm, L1]; decide) (by rw [Lm, L1]; decide), l_mul (by rw [l_of, et, L1]; decide) (by rw [l_of, et, L1]; decide), l_of, et, L1, Lm, tn1]
      decide
    · rcases b3 with ⟨-, rfl⟩ | ⟨b3, -⟩
      · have ew : w7.toInt = 0 := by omega
        rw [l_mul (by rw [l_of, ew, L1]; decide) (by rw [l_of, ew, L1]; decide), l_mul (by rw [l_of, et, L1]; decide) (by rw [l_of, et, L1]; decide), l_of, l_of, et, L1, ew]
        decide
      · exact absurd hz b3
  · rw [lg_pos, z_le]
    rcases hb with ⟨rfl, rfl, rfl⟩ | ⟨-, ⟨b1, b2⟩, rfl, b3⟩
    · rw [l_mul (by rw [Lm, e1]; omega) (by rw [Lm, e1]; omega), l_mul (by rw [l_of, L1]; omega) (by rw [l_of, L1]; omega), l_of, e1, L1, Lm, tn1]
      omega
    · rcases b3 with ⟨b3, -⟩ | ⟨-, b3⟩
      · exact absurd b3 hz
      · have m1 : 0 ≤ t.toInt * Tot := Int.mul_nonneg h2.1 hT.1
        have m2 : t.toInt * Tot ≤ 140000000 * Tot := Int.mul_le_mul_of_nonneg_right (by omega) hT.1
        have m3 : 0 ≤ w7.toInt * Tot := Int.mul_nonneg b1 hT.1
        have m4 : w7.toInt * Tot ≤ 140000000 * Tot := Int.mul_le_mul_of_nonneg_right (by omega) hT.1
        rw [l_mul (by rw [l_of, e1]; omega) (by rw [l_of, e1]; omega), l_mul (by rw [l_of, b3]; omega) (by rw [l_of, b3]; omega), l_of, l_of, e1, b3]
        rw [Int.mul_lt_mul_right (by omega)]
        omega
