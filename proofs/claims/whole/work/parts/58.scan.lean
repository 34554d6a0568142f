/-! the parts that look over the casks -/
theorem R_am {m : Mm} (h : R m) {c : Nat} (hc : c < nT (m 36)) : (0 ≤ (m 36 (kx c 2)).toInt ∧ (m 36 (kx c 2)).toInt ≤ 400) ∧ (0 ≤ (m 36 (kx c 3)).toInt ∧ (m 36 (kx c 3)).toInt ≤ 99) := by
  have q := h.1.2.1.ci hc
  obtain ⟨-, ⟨-, q2⟩, ⟨q3, q4⟩, q5, -⟩ := q
  unfold ck at q2 q3 q4 q5
  exact ⟨⟨q3, by omega⟩, q5⟩
/-- what both hold of the strengths seen -/
def Sp (w1 w2 u1 u2 : Int32) : Prop := (w1 = 100 ∧ w2 = -1 ∧ u1 = -9 ∧ u2 = 1000000000) ∨ (u1 = w2 ∧ u2 = w1 ∧ 0 ≤ w2.toInt)
theorem t100' : (100 : Int32).toInt = 100 := rfl
theorem tn1 : (-1 : Int32).toInt = -1 := rfl
theorem tn9 : (-9 : Int32).toInt = -9 := rfl
theorem tbig : (1000000000 : Int32).toInt = 1000000000 := rfl
theorem z_min {a b : Int32} : (mmin a b).toInt = if b.toInt < a.toInt then b.toInt else a.toInt := by
  unfold mmin
  by_cases h : b < a
  · rw [if_pos h, if_pos (z_lt.mp h)]
  · rw [if_neg h, if_neg (fun q => h (z_lt.mpr q))]
theorem z_max {a b : Int32} : (mmax a b).toInt = if a.toInt < b.toInt then b.toInt else a.toInt := by
  unfold mmax
  by_cases h : a < b
  · rw [if_pos h, if_pos (z_lt.mp h)]
  · rw [if_neg h, if_neg (fun q => h (z_lt.mpr q))]
theorem spread_s {m : Mm} (hm : R m) : ∀ (k c fuel : Nat) (w1 w2 u1 u2 : Int32), k = nT (m 36) - c → c ≤ nT (m 36) → k < fuel → Sp w1 w2 u1 u2 →
    ∃ v, X3_spread_L7 m fuel w1 w2 (nI c) = some v ∧ X4_spread_L8 m fuel u1 u2 (nI c) = some v := by
  have hT := hm.nT
  have hr := hm.1.1
  intro k
  induction k with
  | zero =>
    intro c fuel w1 w2 u1 u2 hk hc hf hs
    have hcn : c = nT (m 36) := by omega
    obtain ⟨fuel, rfl⟩ : ∃ q, fuel = q + 1 := ⟨fuel - 1, by omega⟩
    have q : nI (nT (m 36)) ≤ nI c := by rw [hcn]; exact (nI_le_iff (by omega) (by omega)).mpr (Nat.le_refl _)
    unfold X3_spread_L7 X4_spread_L8
    rw [hr.1.1, hT.2, if_pos q, if_pos q]
    rcases hs with ⟨rfl, rfl, rfl, rfl⟩ | ⟨rfl, rfl, h2⟩
    · exact ⟨-9, by rw [if_neg (by decide)], by rw [if_neg (by decide)]⟩
    · have q2 : (0 : Int32) ≤ u1 := by rw [z_le, t0]; exact h2
      rw [if_pos q2]
      exact ⟨_, rfl, rfl⟩
  | succ k ih =>
    intro c fuel w1 w2 u1 u2 hk hc hf hs
    obtain ⟨fuel, rfl⟩ : ∃ q, fuel = q + 1 := ⟨fuel - 1, by omega⟩
    have q : ¬ nI (nT (m 36)) ≤ nI c := by rw [nI_le_iff (by omega) (by omega)]; omega
    have hcn : c < nT (m 36) := by omega
    obtain ⟨⟨a1, a2⟩, s1, s2⟩ := R_am hm hcn
    unfold X3_spread_L7 X4_spread_L8
    rw [hr.1.1, hT.2, if_neg q, if_neg q, X2_at_s (by omega), ob_y rfl, gd_y (at_in2 (by omega)), gd_y (at_in3 (by omega)), at_cl2 (by omega), at_cl3 (by omega), hm.ck hcn (by omega), hm.ck hcn (by omega)]
    simp only [nm_q, nI_1]
    generalize hv : m 36 (kx c 3) = v at s1 s2
    by_cases g : m 36 (kx c 2) = 0
    · rw [if_pos g, if_pos (by rw [g]; decide)]
      exact ih (c + 1) fuel w1 w2 u1 u2 (by omega) (by omega) (by omega) hs
    · rw [if_neg g, if_neg (by rw [z_eq, t0] at g; rw [z_le, t0]; omega)]
      rcases hs with ⟨rfl, rfl, rfl, rfl⟩ | ⟨rfl, rfl, h2⟩
      · rw [if_neg (by rw [z_le, tn9]; omega)]
        refine ih (c + 1) fuel _ _ _ _ (by omega) (by omega) (by omega) (Or.inr ⟨?_, ?_, ?_⟩)
        · rw [z_eq, z_max, tn1, if_pos (by omega)]
        · rw [z_eq, z_min, z_least, t100', tbig, if_neg (by omega), if_pos (by omega)]
        · rw [z_max, tn1, if_pos (by omega)]; omega
      · have e : X4_least u2 v = mmin u2 v := by rw [least_eq, mmin_comm]
        rw [e]
        by_cases g2 : v ≤ u1
        · rw [if_pos g2]
          rw [z_le] at g2
          refine ih (c + 1) fuel _ _ _ _ (by omega) (by omega) (by omega) (Or.inr ⟨?_, rfl, ?_⟩)
          · rw [z_eq, z_max, if_neg (by omega)]
          · rw [z_max, if_neg (by omega)]; omega
        · rw [if_neg g2]
          rw [z_le] at g2
          refine ih (c + 1) fuel _ _ _ _ (by omega) (by omega) (by omega) (Or.inr ⟨?_, rfl, ?_⟩)
          · rw [z_eq, z_max, if_pos (by omega)]
          · rw [z_max, if_pos (by omega)]; omega
theorem sp_spread {m : Mm} (hm : R m) : ∃ v, X3_spread 0 m = some v ∧ X4_spread 35 m = some v := by
  have h := spread_s hm (nT (m 36)) 0 LF 100 (-1) (-9) 1000000000 (by omega) (by omega) (LF_big (by have := hm.nT.1; omega)) (Or.inl ⟨rfl, rfl, rfl, rfl⟩)
  rw [nI_z] at h
  exact h
/-- the worth of a cask of a row -/
def wo (T : Nat → Int32) (c : Nat) : Int32 := T (kx c 2) * T (kx c 3)
theorem wo_in {T : Nat → Int32} (h : TI T) {c : Nat} (hc : c < nT T) : 0 ≤ (wo T c).toInt ∧ (wo T c).toInt ≤ 40000 := by
  obtain ⟨-, ⟨-, q2⟩, ⟨q3, q4⟩, ⟨q5, q6⟩, -⟩ := h.ci hc
  unfold ck at q2 q3 q4 q5 q6
  have h1 : 0 ≤ (T (kx c 2)).toInt * (T (kx c 3)).toInt := Int.mul_nonneg q3 q5
  have h2 : (T (kx c 2)).toInt * (T (kx c 3)).toInt ≤ (T (kx c 2)).toInt * 99 := Int.mul_le_mul_of_nonneg_left q6 q3
  unfold wo
  rw [z_mul] <;> omega
theorem X0_worth_s {b c : Nat} {m : Mm} {T : Nat → Int32} (h : RC b m T) (hc : c < nT T) : X0_worth (b + 2 + c) m = wo T c := by
  unfold X0_worth wo
  rw [h.2 c 2 hc (by omega), h.2 c 3 hc (by omega)]
theorem X4_worthOf_s {p c : Nat} {m : Mm} {T : Nat → Int32} (h : m p = T) (hc : c < 7) : X4_worthOf p (nI c) m = some (wo T c) := by
  unfold X4_worthOf wo
  rw [gd_y (at_in2 hc), gd_y (at_in3 hc), at_cl2 hc, at_cl3 hc, h]
theorem layDown_s {m m' : Mm} {T S : Nat → Int32} (hT : TI T) (h : RC 11 m T) (h' : m' 37 = T) (hS : m' 36 = S) (hS0 : S 0 = T 0) : ∀ (k c fuel : Nat) (w u : Int32), k = nT T - c → c ≤ nT T → k < fuel → ((w = -9 ∧ u = -1) ∨ ∃ j, w = nI j ∧ j < nT T ∧ u = wo T j) →
    ∃ v, X3_layDown_L29 m fuel w u (nI c) = some (v, m) ∧ X4_layDown_L26 m' fuel w (nI c) = some (v, m') := by
  have n7 := hT.nT7
  intro k
  induction k with
  | zero =>
    intro c fuel w u hk hc hf hw
    have hcn : c = nT T := by omega
    obtain ⟨fuel, rfl⟩ : ∃ q, fuel = q + 1 := ⟨fuel - 1, by omega⟩
    have q : nI (nT T) ≤ nI c := by rw [hcn]; exact (nI_le_iff (by omega) (by omega)).mpr (Nat.le_refl _)
    refine ⟨w, ?_, ?_⟩
    · unfold X3_layDown_L29
      rw [h.1.1, n7.2, if_pos q]
    · unfold X4_layDown_L26
      rw [hS, hS0, n7.2, if_pos q]
  | succ k ih =>
    intro c fuel w u hk hc hf hw
    obtain ⟨fuel, rfl⟩ : ∃ q, fuel = q + 1 := ⟨fuel - 1, by omega⟩
    have q : ¬ nI (nT T) ≤ nI c := by rw [nI_le_iff (by omega) (by omega)]; omega
    have hcn : c < nT T := by omega
    unfold X3_layDown_L29 X4_layDown_L26
    rw [h.1.1, hS, hS0, n7.2, if_neg q, if_neg q, X2_at_s (by omega), ob_y rfl, ob_y rfl, X0_worth_s h hcn]
    simp only [nm_q, nI_1]
    rcases hw with ⟨rfl, rfl⟩ | ⟨j, rfl, hj, rfl⟩
    · rw [if_pos lt9, if_neg (by rw [z_le, tn1]; have := (wo_in hT hcn).1; omega)]
      exact ih (c + 1) fuel _ _ (by omega) (by omega) (by omega) (Or.inr ⟨c, rfl, hcn, rfl⟩)
    · rw [if_neg (nI_pos (by omega)), X4_worthOf_s h' (by omega), ob_y rfl, X4_worthOf_s h' (by omega), ob_y rfl]
      by_cases g : wo T c ≤ wo T j
      · rw [if_pos g, if_pos g]
        exact ih (c + 1) fuel _ _ (by omega) (by omega) (by omega) (Or.inr ⟨j, rfl, hj, rfl⟩)
      · rw [if_neg g, if_neg g]
        exact ih (c + 1) fuel _ _ (by omega) (by omega) (by omega) (Or.inr ⟨c, rfl, hcn, rfl⟩)
theorem op_layDown (a1 : Int32) : Op (X3_layDown 0 a1) (X4_layDown 35 a1) := by
  intro m hm
  rcases years_dec a1 with ⟨n, hn, rfl, g3, g4⟩ | ⟨v, hv, v0, g3, g4⟩
  · obtain ⟨T, T1, T2, ⟨m1, p1, p2, p3⟩, p4⟩ := think_s hm hn
    obtain ⟨m2, q1, q2, q3⟩ := p4 m1 (p3 36 (by omega)) (p3 37 (by omega))
    have e36 : m2 36 = m 36 := (q3.1 36 (by omega) (by omega)).trans (p3 36 (by omega))
    obtain ⟨v, x1, x2⟩ := layDown_s T1 p2 q2 e36 (by rw [hm.nT.2, T1.nT7.2, T2]) (nT T) 0 LF (-9) (-1) (by omega) (by omega) (LF_big (by have := T1.nT7.1; omega)) (Or.inl ⟨rfl, rfl⟩)
    rw [nI_z] at x1 x2
    refine fin_t (v := v) hm (m1 := m1) (m2 := m2) ?_ p3 ?_ q3.f4
    · unfold X3_layDown
      rw [g3, nm_q, if_pos rfl, ob_y p1, x1]
    · unfold X4_layDown
      rw [g4, nm_q, if_pos rfl, ob_y q1, x2]
  · refine ref_t hv hm ?_ (fun m' h => ?_)
    · unfold X3_layDown; rw [g3, nm_q, if_neg v0]
    · unfold X4_layDown; rw [g4, nm_q, if_neg v0]
theorem sell_s {m m' : Mm} {T S : Nat → Int32} (hT : TI T) (hTS : TI S) (h : RC 11 m T) (h1 : RC 1 m S) (h' : m' 37 = T) (hS : m' 36 = S) (hn : nT T = nT S) : ∀ (k c fuel : Nat) (w : Int32), k = nT T - c → c ≤ nT T → k < fuel → Fnd (nT T) w →
    ∃ v, X3_sell_L26 m fuel w (nI c) = some (v, m) ∧ X4_sell_L26 m' fuel w (nI c) = some (v, m') := by
  have n7 := hT.nT7
  have s7 := hTS.nT7
  intro k
  induction k with
  | zero =>
    intro c fuel w hk hc hf hw
    have hcn : c = nT T := by omega
    obtain ⟨fuel, rfl⟩ : ∃ q, fuel = q + 1 := ⟨fuel - 1, by omega⟩
    have q : nI (nT S) ≤ nI c := by rw [hcn, hn]; exact (nI_le_iff (by omega) (by omega)).mpr (Nat.le_refl _)
    refine ⟨w, ?_, ?_⟩
    · unfold X3_sell_L26
      rw [h1.1.1, s7.2, if_pos q]
    · unfold X4_sell_L26
      rw [hS, s7.2, if_pos q]
  | succ k ih =>
    intro c fuel w hk hc hf hw
    obtain ⟨fuel, rfl⟩ : ∃ q, fuel = q + 1 := ⟨fuel - 1, by omega⟩
    have q : ¬ nI (nT S) ≤ nI c := by rw [nI_le_iff (by omega) (by omega)]; omega
    have hcn : c < nT T := by omega
    have am : 0 ≤ (S (kx c 2)).toInt := (hTS.ci (c := c) (by omega)).2.2.1.1
    unfold X3_sell_L26 X4_sell_L26
    rw [h1.1.1, hS, s7.2, if_neg q, if_neg q, X2_at_s (by omega), ob_y rfl, gd_y (at_in2 (by omega)), at_cl2 (by omega), h1.2 c 2 (by omega) (by omega)]
    simp only [nm_q, nI_1]
    by_cases g : S (kx c 2) = 0
    · rw [if_pos g, if_pos (by rw [g]; decide)]
      exact ih (c + 1) fuel w (by omega) (by omega) (by omega) hw
    · rw [if_neg g, if_neg (by rw [z_eq, t0] at g; rw [z_le, t0]; omega)]
      rcases hw with rfl | ⟨j, rfl, hj⟩
      · rw [if_pos lt9, if_pos lt9]
        exact ih (c + 1) fuel _ (by omega) (by omega) (by omega) (FndI (by omega))
      · rw [if_neg (nI_pos (by omega)), if_neg (nI_pos (by omega)), X4_worthOf_s h' (by omega), ob_y rfl, gd_y (at_in2 (by omega)), X4_worthOf_s h' (by omega), ob_y rfl, at_cl2 (by omega)]
        have ek : X3_keepsLess 0 (nI c) (nI j) m = if 0 ≤ (lg_cmp ((wo T c).toInt64 * (S (kx j 2)).toInt64) ((wo T j).toInt64 * (S (kx c 2)).toInt64)) then some 0 else some 1 := by
          unfold X3_keepsLess
          rw [X2_at_s (by omega), ob_y rfl, X2_at_s (by omega), ob_y rfl, nm_q, X2_at_s (by omega), ob_y rfl, X2_at_s (by omega), ob_y rfl, nm_q, X0_worth_s h hcn, X0_worth_s h hj, h1.2 j 2 (by omega) (by omega), h1.2 c 2 (by omega) (by omega)]
        rw [ek]
        by_cases g2 : 0 ≤ (lg_cmp ((wo T c).toInt64 * (S (kx j 2)).toInt64) ((wo T j).toInt64 * (S (kx c 2)).toInt64))
        · rw [if_pos g2, if_pos g2, ob_y rfl, if_pos rfl]
          exact ih (c + 1) fuel _ (by omega) (by omega) (by omega) (FndI hj)
        · rw [if_neg g2, if_neg g2, ob_y rfl, if_neg e01]
          exact ih (c + 1) fuel _ (by omega) (by omega) (by omega) (FndI (by omega))
theorem op_sell (a1 : Int32) : Op (X3_sell 0 a1) (X4_sell 35 a1) := by
  intro m hm
  rcases years_dec a1 with ⟨n, hn, rfl, g3, g4⟩ | ⟨v, hv, v0, g3, g4⟩
  · obtain ⟨T, T1, T2, ⟨m1, p1, p2, p3⟩, p4⟩ := think_s hm hn
    obtain ⟨m2, q1, q2, q3⟩ := p4 m1 (p3 36 (by omega)) (p3 37 (by omega))
    have e36 : m2 36 = m 36 := (q3.1 36 (by omega) (by omega)).trans (p3 36 (by omega))
    have n7 := hm.nT.1
    obtain ⟨v, x1, x2⟩ := sell_s T1 hm.1.2.1 p2 (hm.1.1.cg (fun i h1 h2 => p3 i (by omega)) n7) q2 e36 T2 (nT T) 0 LF (-9) (by omega) (by omega) (LF_big (by omega)) Fnd9
    rw [nI_z] at x1 x2
    refine fin_t (v := v) hm (m1 := m1) (m2 := m2) ?_ p3 ?_ q3.f4
    · unfold X3_sell
      rw [g3, nm_q, if_pos rfl, ob_y p1, x1]
    · unfold X4_sell
      rw [g4, nm_q, if_pos rfl, ob_y q1, x2]
  · refine ref_t hv hm ?_ (fun m' h => ?_)
    · unfold X3_sell; rw [g3, nm_q, if_neg v0]
    · unfold X4_sell; rw [g4, nm_q, if_neg v0]
