/-! judging by the told row -/
theorem t12 : (12 : Int32) = nI 12 := rfl
theorem m99 (x : Int32) : X4_least 99 x = mmin x 99 := least_eq 99 x
theorem fn_s {c n : Nat} (hn : n ≤ 12) {w : Nat → Int32} : ∀ (k i fuel : Nat) (m : Mm) (T : Nat → Int32), k = n - i → i ≤ n → k < fuel → TI T → c < nT T → (T 1).toInt + k + 1 ≤ 1300 → RC 11 m (if i = 0 then T else yA T) → m 0 6 = nI n → (∀ j, j < n → m 33 j = w j) →
    ∃ v m1, X3_firstNotSo_L2 (nI c) fuel (nI i) m = some (v, m1) ∧ FrC 11 m m1 ∧ ((v = -9) ∨ 0 ≤ v.toInt) ∧ ∀ m', m' 37 = T → (∀ j, j < n → m' 41 j = w j) → ∃ m2, X4_firstWrong_L2 (nI c) (nI n) fuel (nI i) m' = some (v, m2) ∧ FrM 37 m' m2 ∧ ∀ j, 47 ≤ j → m2 37 j = T j := by
  intro k
  induction k with
  | zero =>
    intro i fuel m T hk hi hf h1 hcn hy h2 h6 hw
    have : i = n := by omega
    subst this
    obtain ⟨fuel, rfl⟩ : ∃ q, fuel = q + 1 := ⟨fuel - 1, by omega⟩
    have q : nI i ≤ nI i := (nI_le_iff (by omega) (by omega)).mpr (Nat.le_refl _)
    refine ⟨-9, m, ?_, FrC.rf, Or.inl rfl, fun m' h3 _ => ⟨m', ?_, FrM.rf, fun j _ => by rw [h3]⟩⟩
    · unfold X3_firstNotSo_L2; rw [h6, if_pos q]
    · unfold X4_firstWrong_L2; rw [if_pos q]
  | succ k ih =>
    intro i fuel m T hk hi hf h1 hcn hy h2 h6 hw
    obtain ⟨fuel, rfl⟩ : ∃ q, fuel = q + 1 := ⟨fuel - 1, by omega⟩
    have hin : i < n := by omega
    have n7 := h1.nT7.1
    have hc7 : c < 7 := by omega
    have q : ¬ nI n ≤ nI i := by rw [nI_le_iff (by omega) (by omega)]; omega
    have q12 : ¬ (12 : Int32) ≤ nI i := by rw [t12, nI_le_iff (by omega) (by omega)]; omega
    have vi : vin (nI i) 12 := vp_in_nI (by omega) (by omega)
    obtain ⟨y1, y2, y3, yc, ym⟩ := yr_s h1 (by omega)
    have pi0 : (nI i).toInt = (i : Int) := z_nI (by omega)
    generalize hU : (if i = 0 then T else yA T) = U at h2
    have hUT : TI U := by subst hU; split <;> assumption
    have hUy : (U 1).toInt ≤ (T 1).toInt + 1 := by subst hU; split <;> omega
    have hUn : nT U = nT T := by subst hU; split; rfl; exact y3
    have d2 := h2.2 c 2 (by omega) (by omega)
    have x4 : ∀ m', m' 37 = T → (∀ j, j < n → m' 41 j = w j) → ∃ m2, FrM 37 m' m2 ∧ m2 37 = U ∧ X4_firstWrong_L2 (nI c) (nI n) (fuel + 1) (nI i) m' = if mmin (U (kx c 2)) 99 = w i then X4_firstWrong_L2 (nI c) (nI n) fuel (nI (i + 1)) m2 else some (nI i, m2) := fun m' h3 h4 => by
      by_cases h0 : i = 0
      · have eU : U = T := by rw [← hU, if_pos h0]
        refine ⟨m', FrM.rf, by rw [h3, eU], ?_⟩
        conv => lhs; unfold X4_firstWrong_L2
        rw [if_neg q, if_pos (by rw [z_le, pi0, t0]; omega), gd_y (at_in2 hc7), gd_y vi, at_cl2 hc7, nI_clamp (by omega), h3, h4 i hin, m99, nm_q, nI_1, eU]
      · have eU : U = yA T := by rw [← hU, if_neg h0]
        obtain ⟨m2, v1, v2, -, -, v5⟩ := ym m' h3
        refine ⟨m2, v5, by rw [v2, eU], ?_⟩
        have e41 : m2 41 i = w i := by rw [v5.1 41 (by omega) (by omega), h4 i hin]
        conv => lhs; unfold X4_firstWrong_L2
        rw [if_neg q, if_neg (by rw [z_le, pi0, t0]; omega), ob_y v1, gd_y (at_in2 hc7), gd_y vi, at_cl2 hc7, nI_clamp (by omega), v2, e41, m99, nm_q, nI_1, eU]
    have hiU : ∀ j, 47 ≤ j → U j = T j := fun j hj => by
      rw [← hU]
      by_cases h0 : i = 0
      · rw [if_pos h0]
      · rw [if_neg h0]; exact yT_hi (T := T) n7 hj 1
    by_cases g : mmin (U (kx c 2)) 99 = w i
    · obtain ⟨z1, z2, z3, zc, -⟩ := yr_s hUT (by omega)
      obtain ⟨m1, s1, s2, s3⟩ := zc m h2
      obtain ⟨v, n1, e1, e2, e3, e4⟩ := ih (i + 1) fuel m1 U (by omega) (by omega) (by omega) hUT (by omega) (by omega) (by rw [if_neg (by omega)]; exact s2) (by rw [s3 0 (by omega)]; exact h6) (fun j hj => by rw [s3 33 (by omega)]; exact hw j hj)
      refine ⟨v, n1, ?_, FrC.tr s3 e2, e3, fun m' h3 h4 => ?_⟩
      · conv => lhs; unfold X3_firstNotSo_L2
        rw [h6, if_neg q, if_neg q12, X2_at_s hc7, ob_y rfl, gd_y vi, nI_clamp (by omega), d2, hw i hin, if_pos g, ob_y s1, nm_q, nI_1, e1]
      · obtain ⟨m2, f1, f2, f3⟩ := x4 m' h3 h4
        obtain ⟨n2, w1, w2, w3⟩ := e4 m2 f2 (fun j hj => by rw [f1.1 41 (by omega) (by omega)]; exact h4 j hj)
        exact ⟨n2, by rw [f3, if_pos g, w1], FrM.tr f1 w2, fun j hj => by rw [w3 j hj, hiU j hj]⟩
    · refine ⟨nI i, m, ?_, FrC.rf, Or.inr (by rw [pi0]; omega), fun m' h3 h4 => ?_⟩
      · conv => lhs; unfold X3_firstNotSo_L2
        rw [h6, if_neg q, if_neg q12, X2_at_s hc7, ob_y rfl, gd_y vi, nI_clamp (by omega), d2, hw i hin, if_neg g]
      · obtain ⟨m2, f1, f2, f3⟩ := x4 m' h3 h4
        exact ⟨m2, by rw [f3, if_neg g], f1, fun j hj => by rw [f2, hiU j hj]⟩
theorem op_judge (a1 : Int32) : Op (X3_judge 0 a1) (X4_judge 35 a1) := by
  intro m hm
  rcases cask_dec hm a1 with ⟨c, rfl, hc, hc7, f3, f4⟩ | ⟨f3, f4⟩
  · obtain ⟨n, d1, d2, d3, d4⟩ := hm.2.2.2.1
    obtain ⟨T, T1, T2, T3, ⟨m1, p1, p2, p3⟩, p4⟩ := mind_s hm
    obtain ⟨v, n1, e1, e2, -, e4⟩ := fn_s (c := c) (n := n) d1 (w := m 33) n 0 LF m1 T (by omega) (by omega) (LF_big (by omega)) T1 (by unfold nT at hc ⊢; rw [T3 0 (by omega)]; exact hc) (by omega) (by rw [if_pos rfl]; exact p2) (by rw [p3 0 (by omega)]; exact d2) (fun j hj => by rw [p3 33 (by omega)])
    have pf := FrC.tr p3 e2
    have e36 : mset (mset n1 0 6 0) 35 9 0 36 = m 36 := by funext j; rw [mset_oo (by omega), mset_oo (by omega), pf 36 (by omega)]
    have e37 : mset (mset n1 0 6 0) 35 9 0 37 = m 37 := by funext j; rw [mset_oo (by omega), mset_oo (by omega), pf 37 (by omega)]
    obtain ⟨m2, q1, q2, q3⟩ := p4 _ e36 e37
    obtain ⟨n2, w1, w2, -⟩ := e4 m2 q2 (fun j hj => by rw [q3 41 (by omega), mset_oo (by omega), mset_oo (by omega), pf 41 (by omega), (d4 j hj).1])
    rw [nI_z] at e1 w1
    refine ⟨v, mset n1 0 6 0, n2, ?_, ?_, ?_⟩
    · unfold X3_judge X3_firstNotSo
      rw [f3, nm_q, if_pos rfl, ob_y p1, ob2_y e1, nm_q]
    · have e9 : mset n1 0 6 0 35 9 = nI n := by rw [mset_oo (by omega), pf 35 (by omega), d3]
      have e36' : mset n1 0 6 0 36 = m 36 := by funext j; rw [mset_oo (by omega), pf 36 (by omega)]
      unfold X4_judge X4_firstWrong
      rw [f4 _ e36', if_neg e01, nm_q, nm_q, e9, ob_y q1, ob2_y w1]
    · have fr : Fr4 (mset (mset n1 0 6 0) 35 9 0) n2 := Fr4.tr (Fr37 q3) w2.f4
      have R1 : R (mset (mset n1 0 6 0) 35 9 0) := by
        have f : ∀ i, i ≠ 0 → i ≠ 35 → (i < 11 ∨ 21 ≤ i) → mset (mset n1 0 6 0) 35 9 0 i = m i := fun i h1 h2 h3 => by funext j; rw [mset_oo h2, mset_oo h1, pf i (by omega)]
        have f35 : ∀ l, l ≠ 9 → mset (mset n1 0 6 0) 35 9 0 35 l = m 35 l := fun l hl => by rw [mset_so hl, mset_oo (by omega), pf 35 (by omega)]
        have f0 : ∀ l, l ≠ 6 → mset (mset n1 0 6 0) 35 9 0 0 l = m 0 l := fun l hl => by rw [mset_oo (by omega), mset_so hl, pf 0 (by omega)]
        obtain ⟨⟨x1, x2, x3⟩, ⟨b1, b2⟩, c, d, e5⟩ := hm
        refine ⟨?_, ?_, ?_, ⟨0, by omega, ?_, mset_ss, fun j hj => absurd hj (by omega)⟩, ?_⟩
        · rw [e36]
          exact ⟨x1.cg (fun i h1 h2 => f i (by omega) (by omega) (by omega)) x2.nT7.1, x2, x3⟩
        · rw [f0 3 (by omega), f35 4 (by omega), f 38 (by omega) (by omega) (by omega)]
          refine ⟨b1, ?_⟩
          rcases b2 with b2 | ⟨b2, b3, b4, b5⟩
          · exact Or.inl b2
          · exact Or.inr ⟨b2, b3.cg (fun i h1 h2 => f i (by omega) (by omega) (by omega)) b4.nT7.1, b4, b5⟩
        · rw [f 31 (by omega) (by omega) (by omega), f35 8 (by omega), f 32 (by omega) (by omega) (by omega), f 40 (by omega) (by omega) (by omega)]
          exact c
        · rw [mset_oo (by omega), mset_ss]; rfl
        · rw [f 34 (by omega) (by omega) (by omega), f 42 (by omega) (by omega) (by omega)]
          exact e5
      exact R_fr R1 FrC.rf fr
  · refine ref_t Ft1 hm ?_ (fun m' h => ?_)
    · unfold X3_judge; rw [f3, nm_q, if_neg em1]
    · unfold X4_judge; rw [f4 m' (h 36 (by omega)), if_pos rfl]
