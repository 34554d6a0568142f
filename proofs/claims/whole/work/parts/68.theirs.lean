/-! Euclid; theirs -/
theorem l_div {x y : Int64} (h1 : 0 ≤ x.toInt) (h2 : 0 < y.toInt) : (x / y).toInt = x.toInt / y.toInt := by
  rw [Int64.toInt_div, Int.tdiv_eq_ediv_of_nonneg h1]
  have b := Int64.toInt_lt x
  have h3 : 0 ≤ x.toInt / y.toInt := Int.ediv_nonneg h1 (by omega)
  have h4 : x.toInt / y.toInt ≤ x.toInt := Int.ediv_le_self _ h1
  exact lbm (by omega) (by omega)
theorem l_sub {x y : Int64} (h1 : -9223372036854775808 ≤ x.toInt - y.toInt) (h2 : x.toInt - y.toInt < 9223372036854775808) : (x - y).toInt = x.toInt - y.toInt := by
  rw [Int64.toInt_sub]; exact lbm h1 h2
theorem l_rem {x y : Int64} (h1 : 0 ≤ x.toInt) (h2 : 0 < y.toInt) : (airemL x y).toInt = x.toInt % y.toInt := by
  have b := Int64.toInt_lt x
  have h3 : 0 ≤ x.toInt / y.toInt := Int.ediv_nonneg h1 (by omega)
  have h5 : x.toInt / y.toInt * y.toInt ≤ x.toInt := Int.ediv_mul_le _ (by omega)
  have h6 : 0 ≤ x.toInt / y.toInt * y.toInt := Int.mul_nonneg h3 (by omega)
  have e1 := l_div h1 h2
  have e2 : (x / y * y).toInt = x.toInt / y.toInt * y.toInt := by
    rw [l_mul (by rw [e1]; omega) (by rw [e1]; omega), e1]
  have e3 := Int.emod_add_mul_ediv x.toInt y.toInt
  unfold airemL
  rw [l_sub (by rw [e2]; omega) (by rw [e2]; omega), e2]
  rw [Int.mul_comm] at e3
  omega
theorem L0 : (0 : Int64).toInt = 0 := rfl
theorem cd_0 {f i : Nat} {x : Int64} (hi : i < 100) : X3_commonDivisor_L9 (f + 1) x 0 (nI i) = some x := by
  unfold X3_commonDivisor_L9
  rw [if_neg (show ¬ (100 : Int32) ≤ nI i by rw [z_le, t100, z_nI (by omega)]; omega), if_pos (lg_zero.mpr rfl)]
theorem cd_s {f i : Nat} {x y : Int64} (hi : i < 100) (hy : 0 < y.toInt) : X3_commonDivisor_L9 (f + 1) x y (nI i) = X3_commonDivisor_L9 f y (airemL x y) (nI (i + 1)) := by
  have h : ¬ y = 0 := fun z => by rw [z, L0] at hy; omega
  conv => lhs; unfold X3_commonDivisor_L9
  rw [if_neg (show ¬ (100 : Int32) ≤ nI i by rw [z_le, t100, z_nI (by omega)]; omega), if_neg (fun q => h (lg_zero.mp q)), gd_y h, nm_q, nm_q, nI_1]
theorem gc_0 {f : Nat} {x : Int64} : X4_gcd_L6 (f + 1) x 0 = some x := by
  unfold X4_gcd_L6
  rw [if_pos (lg_zero.mpr rfl)]
theorem gc_s {f : Nat} {x y : Int64} (hy : 0 < y.toInt) : X4_gcd_L6 (f + 1) x y = X4_gcd_L6 f y (airemL x y) := by
  have h : ¬ y = 0 := fun z => by rw [z, L0] at hy; omega
  conv => lhs; unfold X4_gcd_L6
  rw [if_neg (fun q => h (lg_zero.mp q)), gd_y h, nm_q]
theorem half_z {y r : Int} (h1 : 0 < r) (h2 : r < y) : 0 ≤ y % r ∧ 2 * (y % r) < y := by
  have a := Int.emod_lt_of_pos y h1
  have a0 := Int.emod_nonneg y (show r ≠ 0 by omega)
  have e := Int.emod_add_mul_ediv y r
  have b : 1 ≤ y / r := Int.le_ediv_of_mul_le h1 (by omega)
  have c : r * 1 ≤ r * (y / r) := Int.mul_le_mul_of_nonneg_left b (by omega)
  omega
theorem gcd_s : ∀ (n : Nat) (x y : Int64), 0 ≤ x.toInt → 0 ≤ y.toInt → y.toInt < 2 ^ n → ∃ g, (0 < x.toInt ∨ 0 < y.toInt → 0 < g.toInt) ∧ (∀ i f, i + 2 * n < 100 → 2 * n < f → X3_commonDivisor_L9 f x y (nI i) = some g) ∧ ∀ f, 2 * n < f → X4_gcd_L6 f x y = some g := by
  intro n
  have zero : ∀ (n : Nat) (x y : Int64), 0 ≤ x.toInt → y.toInt = 0 → ∃ g, (0 < x.toInt ∨ 0 < y.toInt → 0 < g.toInt) ∧ (∀ i f, i + 2 * n < 100 → 2 * n < f → X3_commonDivisor_L9 f x y (nI i) = some g) ∧ ∀ f, 2 * n < f → X4_gcd_L6 f x y = some g := by
    intro n x y hx hy
    have e : y = 0 := by rw [l_eq, hy, L0]
    subst e
    refine ⟨x, fun h => ?_, fun i f h1 h2 => ?_, fun f h2 => ?_⟩
    · rcases h with h | h
      · exact h
      · omega
    · obtain ⟨f, rfl⟩ : ∃ q, f = q + 1 := ⟨f - 1, by omega⟩
      exact cd_0 (by omega)
    · obtain ⟨f, rfl⟩ : ∃ q, f = q + 1 := ⟨f - 1, by omega⟩
      exact gc_0
  induction n with
  | zero =>
    intro x y hx hy hl
    exact zero 0 x y hx (by simp at hl; omega)
  | succ n ih =>
    intro x y hx hy hl
    by_cases h0 : y.toInt = 0
    · exact zero (n + 1) x y hx h0
    · have hy' : 0 < y.toInt := by omega
      have er := l_rem hx hy'
      have r1 := Int.emod_lt_of_pos x.toInt hy'
      have r0 := Int.emod_nonneg x.toInt (show y.toInt ≠ 0 by omega)
      rw [← er] at r1 r0
      by_cases hr : (airemL x y).toInt = 0
      · have e : airemL x y = 0 := by rw [l_eq, hr, L0]
        refine ⟨y, fun _ => hy', fun i f h1 h2 => ?_, fun f h2 => ?_⟩
        · obtain ⟨f, rfl⟩ : ∃ q, f = q + 1 + 1 := ⟨f - 2, by omega⟩
          rw [cd_s (by omega) hy', e]
          exact cd_0 (by omega)
        · obtain ⟨f, rfl⟩ : ∃ q, f = q + 1 + 1 := ⟨f - 2, by omega⟩
          rw [gc_s hy', e]
          exact gc_0
      · have hr' : 0 < (airemL x y).toInt := by omega
        have hh := half_z hr' r1
        have er2 := l_rem (x := y) hy hr'
        rw [← er2] at hh
        obtain ⟨g, g1, g2, g3⟩ := ih (airemL x y) (airemL y (airemL x y)) (by omega) hh.1 (by rw [Int.pow_succ] at hl; omega)
        refine ⟨g, fun _ => g1 (Or.inl hr'), fun i f h1 h2 => ?_, fun f h2 => ?_⟩
        · obtain ⟨f, rfl⟩ : ∃ q, f = q + 1 + 1 := ⟨f - 2, by omega⟩
          rw [cd_s (by omega) hy', cd_s (by omega) hr']
          exact g2 (i + 1 + 1) f (by omega) (by omega)
        · obtain ⟨f, rfl⟩ : ∃ q, f = q + 1 + 1 := ⟨f - 2, by omega⟩
          rw [gc_s hy', gc_s hr']
          exact g3 f (by omega)
theorem part_s {x y : Int64} (hx : 0 ≤ x.toInt) (hy : 0 ≤ y.toInt) (hl : y.toInt < 1099511627776) (a : Int32) : ∃ v, X3_partOf x y a = some v ∧ X4_partOf x y a = some v := by
  unfold X3_partOf X4_partOf
  by_cases h : lg_cmp x 0 = 0
  · rw [if_pos h, if_pos h]; exact ⟨_, rfl, rfl⟩
  · have hx' : ¬ x.toInt = 0 := fun z => h (lg_zero.mpr (by rw [l_eq, z, L0]))
    obtain ⟨g, g1, g2, g3⟩ := gcd_s 40 x y hx hy hl
    have gp := g1 (Or.inl (by omega))
    have g0 : ¬ g = 0 := fun z => by rw [z, L0] at gp; omega
    have c3 : X3_commonDivisor x y = some g := g2 0 LF (by omega) (LF_big (by omega))
    have c4 : X4_gcd x y = some g := g3 LF (LF_big (by omega))
    rw [if_neg h, if_neg h, c3, c4, ob_y rfl, ob_y rfl, ob_y rfl, if_neg (fun q => g0 (lg_zero.mp q)), gd_y g0, gd_y g0]
    by_cases ha : a = 0
    · rw [if_pos ha]; exact ⟨_, rfl, rfl⟩
    · rw [if_neg ha]; exact ⟨_, rfl, rfl⟩
theorem add64 {t am : Int32} (h1 : 0 ≤ t.toInt ∧ t.toInt ≤ 100000000) (h2 : 0 ≤ am.toInt ∧ am.toInt ≤ 100000000) : (t + am).toInt64 = am.toInt64 + t.toInt64 ∧ (am.toInt64 + t.toInt64).toInt = am.toInt + t.toInt := by
  have e : (am.toInt64 + t.toInt64).toInt = am.toInt + t.toInt := by rw [l_add] <;> rw [l_of, l_of] <;> omega
  refine ⟨?_, e⟩
  rw [l_eq, l_of, e, z_add] <;> omega
theorem op_theirs (a1 a2 a3 : Int32) : Op (X3_theirs 0 a1 a2 a3) (X4_theirs 35 a1 a2 a3) := by
  intro m hm
  by_cases ha : a1 = -1
  · subst ha
    rcases years_dec a2 with ⟨n, hn, rfl, g3, g4⟩ | ⟨v, hv, v0, g3, g4⟩
    · rcases what_dec a3 1 with ⟨w1, w2, w3, w4⟩ | ⟨w3, w4⟩
      · obtain ⟨T, T1, T2, ⟨m1, p1, p2, p3⟩, p4⟩ := think_s hm hn
        obtain ⟨m2, q1, q2, q3⟩ := p4 m1 (p3 36 (by omega)) (p3 37 (by omega))
        obtain ⟨s1, s2, s3, s4⟩ := sums_z T1
        have u2 := X2_allAmounts_s p2 T1.nT7
        have u5 := X2_allTaken_s p2 T1.nT7
        have v2 := X4_sumOf_2 q2 T1.nT7
        have v5 := X4_sumOf_5 q2 T1.nT7
        generalize sT (fun c => T (kx c 2)) (nT T) = am at *
        generalize sT (fun c => T (kx c 5)) (nT T) = t at *
        obtain ⟨e1, e2⟩ := add64 (t := t) (am := am) (by omega) (by omega)
        obtain ⟨v, x1, x2⟩ := part_s (x := t.toInt64) (y := am.toInt64 + t.toInt64) (by rw [l_of]; omega) (by rw [e2]; omega) (by rw [e2]; omega) a3
        refine fin_t (v := v) hm (m1 := m1) (m2 := m2) ?_ p3 ?_ q3.f4
        · unfold X3_theirs X3_caskOrAllFault
          rw [if_pos rfl, fo0, g3, if_pos rfl, w3, nm_q, if_pos rfl, ob_y p1, if_neg (by decide), u2, ob_y rfl, nm_q, u5, ob_y rfl, nm_q, x1, ob_y rfl]
        · unfold X4_theirs
          rw [if_pos rfl, nm_q, g4, if_pos rfl, w4, if_neg e01, ob_y q1, if_neg (by decide), v5, ob_y rfl, v2, ob_y rfl, e1, x2, ob_y rfl]
      · refine ref_w Ft2 hm ?_ (fun m' h => ?_)
        · unfold X3_theirs X3_caskOrAllFault; rw [if_pos rfl, fo0, g3, if_pos rfl, w3, nm_q, if_neg em2]
        · unfold X4_theirs; rw [if_pos rfl, nm_q, g4, if_pos rfl, w4, if_pos rfl]
    · refine ref_w hv hm ?_ (fun m' h => ?_)
      · unfold X3_theirs X3_caskOrAllFault; rw [if_pos rfl, fo0, g3, if_neg v0, nm_q, if_neg v0]
      · unfold X4_theirs; rw [if_pos rfl, nm_q, g4, if_neg v0]
  · rcases cask_dec hm a1 with ⟨c, rfl, hc, hc7, f3, f4⟩ | ⟨f3, f4⟩
    · rcases years_dec a2 with ⟨n, hn, rfl, g3, g4⟩ | ⟨v, hv, v0, g3, g4⟩
      · rcases what_dec a3 1 with ⟨w1, w2, w3, w4⟩ | ⟨w3, w4⟩
        · obtain ⟨T, T1, T2, ⟨m1, p1, p2, p3⟩, p4⟩ := think_s hm hn
          obtain ⟨m2, q1, q2, q3⟩ := p4 m1 (p3 36 (by omega)) (p3 37 (by omega))
          have hc' : c < nT T := by omega
          obtain ⟨-, ⟨-, z1⟩, ⟨z2, z3⟩, -, -, z4, z5⟩ := T1.ci hc'
          have hY : (T 1).toInt ≤ 1300 := by obtain ⟨n, -, -, -, -, h6, -⟩ := T1; exact h6.2
          unfold ck at z1 z2 z3 z4 z5
          have d2 := p2.2 c 2 hc' (by omega)
          have d5 := p2.2 c 5 hc' (by omega)
          have pc : (0 : Int32) ≤ nI c := by rw [z_le, t0, z_nI (by omega)]; omega
          obtain ⟨e1, e2⟩ := add64 (t := T (kx c 5)) (am := T (kx c 2)) (by omega) (by omega)
          obtain ⟨v, x1, x2⟩ := part_s (x := (T (kx c 5)).toInt64) (y := (T (kx c 2)).toInt64 + (T (kx c 5)).toInt64) (by rw [l_of]; omega) (by rw [e2]; omega) (by rw [e2]; omega) a3
          refine fin_t (v := v) hm (m1 := m1) (m2 := m2) ?_ p3 ?_ q3.f4
          · unfold X3_theirs X3_caskOrAllFault
            rw [if_neg ha, f3, fo0, g3, if_pos rfl, w3, nm_q, if_pos rfl, ob_y p1, if_pos pc, X2_at_s hc7, ob_y rfl, nm_q, ob_y rfl, nm_q, d2, d5, x1, ob_y rfl]
          · unfold X4_theirs
            rw [if_neg ha, f4 m1 (p3 36 (by omega)), if_neg e01, nm_q, g4, if_pos rfl, w4, if_neg e01, ob_y q1, if_pos pc, gd_y (at_in5 hc7), nm_q, gd_y (at_in2 hc7), nm_q, at_cl5 hc7, at_cl2 hc7, q2, e1, x2, ob_y rfl]
        · refine ref_w Ft2 hm ?_ (fun m' h => ?_)
          · unfold X3_theirs X3_caskOrAllFault; rw [if_neg ha, f3, fo0, g3, if_pos rfl, w3, nm_q, if_neg em2]
          · unfold X4_theirs; rw [if_neg ha, f4 m' (h 36 (by omega)), if_neg e01, nm_q, g4, if_pos rfl, w4, if_pos rfl]
      · refine ref_w hv hm ?_ (fun m' h => ?_)
        · unfold X3_theirs X3_caskOrAllFault; rw [if_neg ha, f3, fo0, g3, if_neg v0, nm_q, if_neg v0]
        · unfold X4_theirs; rw [if_neg ha, f4 m' (h 36 (by omega)), if_neg e01, nm_q, g4, if_neg v0]
    · refine ref_w Ft1 hm ?_ (fun m' h => ?_)
      · unfold X3_theirs X3_caskOrAllFault; rw [if_neg ha, f3, fo1 em1, nm_q, if_neg em1]
      · unfold X4_theirs; rw [if_neg ha, f4 m' (h 36 (by omega)), if_pos rfl]
