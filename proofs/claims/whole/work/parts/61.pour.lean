/-! pouring and blending -/
theorem t400 : (400 : Int32).toInt = 400 := rfl
theorem pf_s {m : Mm} (hm : R m) {i j : Nat} (hi : i < nT (m 36)) (hj : j < nT (m 36)) (hij : i ≠ j) {a : Int32} (ha : 1 ≤ a.toInt ∧ a.toInt ≤ 400) :
    (X2_pourFault 1 (nI i) (nI j) a m = some 0 ∧ (∀ m', m' 36 = m 36 → X4_canPour 35 (nI i) (nI j) a m' = some 1) ∧ a.toInt ≤ (m 36 (kx i 2)).toInt ∧ (m 36 (kx j 2)).toInt + a.toInt ≤ (m 36 (kx j 1)).toInt) ∨
    (X2_pourFault 1 (nI i) (nI j) a m = some (-3) ∧ ∀ m', m' 36 = m 36 → X4_canPour 35 (nI i) (nI j) a m' = some 0) := by
  have n7 := hm.nT
  have ne : ¬ nI i = nI j := by rw [z_eq, z_nI (by omega), z_nI (by omega)]; omega
  have cf : ∀ c, c < nT (m 36) → X2_caskFault 1 (nI c) m = 0 := fun c hc => by
    unfold X2_caskFault
    rw [if_neg (nI_pos (by omega)), hm.1.1.1.1, n7.2, if_pos ((nI_lt_iff (by omega) (by omega)).mpr hc)]
  have rg : X3_rangeFault a 1 400 = 0 := by
    unfold X3_rangeFault
    rw [if_pos (by rw [z_le, t1]; omega), if_pos (by rw [z_le, t400]; omega)]
  obtain ⟨-, ⟨p1, p2⟩, ⟨p3, p4⟩, -⟩ := hm.1.2.1.ci hi
  obtain ⟨-, ⟨q1, q2⟩, ⟨q3, q4⟩, -⟩ := hm.1.2.1.ci hj
  unfold ck at p1 p2 p3 p4 q1 q2 q3 q4
  have es : (m 36 (kx j 1) - m 36 (kx j 2)).toInt = (m 36 (kx j 1)).toInt - (m 36 (kx j 2)).toInt := by rw [z_sub] <;> omega
  have ea : (m 36 (kx j 2) + a).toInt = (m 36 (kx j 2)).toInt + a.toInt := by rw [z_add] <;> omega
  have h3 : X2_pourFault 1 (nI i) (nI j) a m = if m 36 (kx i 2) < a then some (-3) else if a ≤ m 36 (kx j 1) - m 36 (kx j 2) then some 0 else some (-3) := by
    unfold X2_pourFault
    rw [if_neg ne, cf i hi, cf j hj, fo0, if_pos rfl, nm_q, if_pos rfl, rg, nm_q, if_pos rfl, X2_at_s (by omega), ob_y rfl, X2_at_s (by omega), ob_y rfl, hm.ck hi (by omega), hm.ck hj (by omega), hm.ck hj (by omega)]
  have h4 : ∀ m', m' 36 = m 36 → X4_canPour 35 (nI i) (nI j) a m' = if m 36 (kx i 2) < a then some 0 else if m 36 (kx j 1) < m 36 (kx j 2) + a then some 0 else some 1 := fun m' h => by
    unfold X4_canPour
    rw [gd_y (at_in2 (by omega)), gd_y (at_in2 (by omega)), gd_y (at_in1 (by omega)), at_cl2 (by omega), at_cl2 (by omega), at_cl1 (by omega), h]
  by_cases g : m 36 (kx i 2) < a
  · exact Or.inr ⟨by rw [h3, if_pos g], fun m' h => by rw [h4 m' h, if_pos g]⟩
  · by_cases g2 : a ≤ m 36 (kx j 1) - m 36 (kx j 2)
    · have g2' := g2
      rw [z_le, es] at g2'
      have g' := g
      rw [z_lt] at g'
      exact Or.inl ⟨by rw [h3, if_neg g, if_pos g2], fun m' h => by rw [h4 m' h, if_neg g, if_neg (by rw [z_lt, ea]; omega)], by omega, by omega⟩
    · have g2' := g2
      rw [z_le, es] at g2'
      exact Or.inr ⟨by rw [h3, if_neg g, if_neg g2], fun m' h => by rw [h4 m' h, if_neg g, if_pos (by rw [z_lt, ea]; omega)]⟩
/-- what is mixed: never above the stronger -/
theorem mix_z {s1 s2 a1 a2 : Int32} (h1 : 0 ≤ s1.toInt ∧ s1.toInt ≤ 99) (h2 : 0 ≤ s2.toInt ∧ s2.toInt ≤ 99) (h3 : 0 ≤ a1.toInt ∧ a1.toInt ≤ 400) (h4 : 0 ≤ a2.toInt ∧ a2.toInt ≤ 400) (h5 : 1 ≤ a1.toInt + a2.toInt) :
    (a1 + a2).toInt = a1.toInt + a2.toInt ∧ 0 ≤ ((s1 * a1 + s2 * a2) / (a1 + a2)).toInt ∧ ((s1 * a1 + s2 * a2) / (a1 + a2)).toInt ≤ 99 := by
  have x1 : 0 ≤ s1.toInt * a1.toInt := Int.mul_nonneg h1.1 h3.1
  have x2 : s1.toInt * a1.toInt ≤ 99 * a1.toInt := Int.mul_le_mul_of_nonneg_right h1.2 h3.1
  have y1 : 0 ≤ s2.toInt * a2.toInt := Int.mul_nonneg h2.1 h4.1
  have y2 : s2.toInt * a2.toInt ≤ 99 * a2.toInt := Int.mul_le_mul_of_nonneg_right h2.2 h4.1
  have e1 : (s1 * a1).toInt = s1.toInt * a1.toInt := by rw [z_mul] <;> omega
  have e2 : (s2 * a2).toInt = s2.toInt * a2.toInt := by rw [z_mul] <;> omega
  have e3 : (s1 * a1 + s2 * a2).toInt = s1.toInt * a1.toInt + s2.toInt * a2.toInt := by rw [z_add] <;> omega
  have e4 : (a1 + a2).toInt = a1.toInt + a2.toInt := by rw [z_add] <;> omega
  refine ⟨e4, ?_⟩
  rw [z_div (by omega) (by omega), e3, e4]
  refine ⟨Int.ediv_nonneg (by omega) (by omega), ?_⟩
  have := Int.ediv_le_of_le_mul (a := s1.toInt * a1.toInt + s2.toInt * a2.toInt) (b := 99) (c := a1.toInt + a2.toInt) (by omega) (by omega)
  exact this
theorem mixed_s {m : Mm} (hm : R m) {i j : Nat} (hi : i < nT (m 36)) (hj : j < nT (m 36)) {a : Int32} (ha : 1 ≤ a.toInt ∧ a.toInt ≤ 400) :
    ∃ v, 0 ≤ v.toInt ∧ v.toInt ≤ 99 ∧ X2_pouredStrength 1 (nI i) (nI j) a m = some v ∧ ∀ m', m' 36 = m 36 → X4_mixed 35 (nI i) (nI j) a m' = some v := by
  have n7 := hm.nT.1
  obtain ⟨p1, p2⟩ := R_am hm hi
  obtain ⟨q1, q2⟩ := R_am hm hj
  obtain ⟨e1, e2, e3⟩ := mix_z (s1 := m 36 (kx j 3)) (s2 := m 36 (kx i 3)) (a1 := m 36 (kx j 2)) (a2 := a) q2 p2 q1 ⟨by omega, by omega⟩ (by omega)
  refine ⟨_, e2, e3, ?_, fun m' h => ?_⟩
  · unfold X2_pouredStrength
    rw [X2_at_s (by omega), ob_y rfl, hm.ck hj (by omega), hm.ck hj (by omega), nm_q, if_neg (by rw [z_le, e1, t0]; omega), X2_at_s (by omega), ob_y rfl, gd_y (by intro z; rw [z_eq, e1, t0] at z; omega), hm.ck hi (by omega)]
  · have c1 : a + m 36 (kx j 2) = m 36 (kx j 2) + a := Int32.add_comm _ _
    have c2 : a * m 36 (kx i 3) + m 36 (kx j 2) * m 36 (kx j 3) = m 36 (kx j 3) * m 36 (kx j 2) + m 36 (kx i 3) * a := by
      rw [Int32.add_comm, Int32.mul_comm a, Int32.mul_comm (m 36 (kx j 2))]
    unfold X4_mixed
    rw [gd_y (at_in3 (by omega)), gd_y (at_in2 (by omega)), gd_y (at_in3 (by omega)), at_cl3 (by omega), at_cl2 (by omega), at_cl3 (by omega), h, c1, c2, gd_y (by intro z; rw [z_eq, e1, t0] at z; omega)]
theorem R_as {m : Mm} (hm : R m) {c : Nat} (hc : c < nT (m 36)) {s a : Int32} (hs : 0 ≤ s.toInt ∧ s.toInt ≤ 99) (ha : 0 ≤ a.toInt ∧ a.toInt ≤ (m 36 (kx c 1)).toInt) : R (mset (mset (mset (mset m (1 + 2 + c) 3 s) (1 + 2 + c) 2 a) 36 (kx c 3) s) 36 (kx c 2) a) := by
  have hc7 : c < 7 := by have := hm.nT.1; omega
  generalize hM : mset (mset (mset (mset m (1 + 2 + c) 3 s) (1 + 2 + c) 2 a) 36 (kx c 3) s) 36 (kx c 2) a = M
  have fo : ∀ i, i ≠ 36 → i ≠ 1 + 2 + c → M i = m i := fun i h1 h2 => by subst hM; funext j; rw [mset_oo h1, mset_oo h1, mset_oo h2, mset_oo h2]
  have f36 : ∀ j, j ≠ kx c 2 → j ≠ kx c 3 → M 36 j = m 36 j := fun j h1 h2 => by subst hM; rw [mset_so h1, mset_so h2, mset_oo (by omega), mset_oo (by omega)]
  have g2 : M 36 (kx c 2) = a := by subst hM; exact mset_ss
  have g3 : M 36 (kx c 3) = s := by subst hM; rw [mset_so (by unfold kx; omega), mset_ss]
  have k2 : M (1 + 2 + c) 2 = a := by subst hM; rw [mset_oo (by omega), mset_oo (by omega), mset_ss]
  have k3 : M (1 + 2 + c) 3 = s := by subst hM; rw [mset_oo (by omega), mset_oo (by omega), mset_so (by omega), mset_ss]
  have kk : ∀ k, k ≠ 2 → k ≠ 3 → M (1 + 2 + c) k = m (1 + 2 + c) k := fun k h1 h2 => by subst hM; rw [mset_oo (by omega), mset_oo (by omega), mset_so h1, mset_so h2]
  have eT : ∀ j, (∀ k, k < 6 → j ≠ kx c k) → M 36 j = m 36 j := fun j hj => f36 j (hj 2 (by omega)) (hj 3 (by omega))
  refine R_town hm ?_ ?_ ?_ (fun i hi => fo i (by omega) (by omega)) (fun k hk => by rw [fo 35 (by omega) (by omega)])
  · refine RC_cask hm.1.1 (c := c) (fo 1 (by omega) (by omega)) hm.nT.1 (fun c' q q7 => fo _ (by omega) (by omega)) (fun k hk => ?_) eT
    by_cases z2 : k = 2
    · rw [z2, k2, g2]
    · by_cases z3 : k = 3
      · rw [z3, k3, g3]
      · rw [kk k z2 z3, f36 _ (fun y => z2 (kx_inj hk (by omega) y).2) (fun y => z3 (kx_inj hk (by omega) y).2), hm.ck hc hk]
  · refine TI_cask hm.1.2.1 hc eT ?_
    obtain ⟨q1, q2, ⟨q3, q4⟩, q5, q6, q7⟩ := hm.1.2.1.ci hc
    have ek : ∀ k, k < 6 → k ≠ 2 → k ≠ 3 → ck (M 36) c k = ck (m 36) c k := fun k hk z2 z3 => f36 _ (fun y => z2 (kx_inj hk (by omega) y).2) (fun y => z3 (kx_inj hk (by omega) y).2)
    have e2 : ck (M 36) c 2 = a := g2
    have e3 : ck (M 36) c 3 = s := g3
    unfold CI
    rw [ek 0 (by omega) (by omega) (by omega), ek 1 (by omega) (by omega) (by omega), ek 4 (by omega) (by omega) (by omega), ek 5 (by omega) (by omega) (by omega), e2, e3]
    exact ⟨q1, q2, ha, hs, q6, q7⟩
  · rw [f36 1 (by unfold kx; omega) (by unfold kx; omega)]; exact hm.1.2.2
theorem op_pour (a1 a2 a3 : Int32) : Op (X3_pour 0 a1 a2 a3) (X4_pour 35 a1 a2 a3) := by
  intro m hm
  rcases cask_dec hm a1 with ⟨i, rfl, hi, hi7, f3, f4⟩ | ⟨f3, f4⟩
  · rcases cask_dec hm a2 with ⟨j, rfl, hj, hj7, g3, g4⟩ | ⟨g3, g4⟩
    · by_cases hij : i = j
      · subst hij
        refine ref_t Ft1 hm ?_ (fun m' h => ?_)
        · unfold X3_pour X2_pourOver X2_pourFault
          rw [if_pos rfl, f3, fo0, if_pos rfl, nm_q, if_neg em1, ob_y rfl, if_neg em1, ob2_y rfl, if_neg em1]
        · unfold X4_pour
          rw [f4 m' (h 36 (by omega)), if_neg e01, if_neg e01, if_pos rfl]
      · have ne : ¬ nI i = nI j := by rw [z_eq, z_nI (by omega), z_nI (by omega)]; omega
        rcases range_dec a3 1 400 with ⟨r1, r2, r3⟩ | ⟨r1, r3⟩ | ⟨r1, r2, r3⟩
        · have ha : 1 ≤ a3.toInt ∧ a3.toInt ≤ 400 := by rw [z_le, t1] at r1; rw [z_le, t400] at r2; exact ⟨r1, r2⟩
          rcases pf_s hm hi hj hij ha with ⟨x1, x2, x3, x4⟩ | ⟨x1, x2⟩
          · obtain ⟨v, v1, v2, v3, v4⟩ := mixed_s hm hi hj ha
            obtain ⟨p1, p2⟩ := R_am hm hi
            obtain ⟨q1, q2⟩ := R_am hm hj
            have oo : ∀ c k, c < 7 → ¬ 1 + 2 + c = 36 := fun c k hc => by omega
            have nij : ∀ k k', kx i k ≠ kx j k' ∨ k ≥ 6 ∨ k' ≥ 6 := fun k k' => by unfold kx; omega
            generalize hA : m 36 (kx i 2) = A at *
            generalize hB : m 36 (kx j 2) = B at *
            have kA : m (1 + 2 + i) 2 = A := by rw [hm.ck hi (by omega), hA]
            have kB : m (1 + 2 + j) 2 = B := by rw [hm.ck hj (by omega), hB]
            refine ⟨v, mset (mset (mset m (1 + 2 + j) 3 v) (1 + 2 + j) 2 (B + a3)) (1 + 2 + i) 2 (A - a3), mset (mset (mset (mset (mset (mset m (1 + 2 + j) 3 v) (1 + 2 + j) 2 (B + a3)) (1 + 2 + i) 2 (A - a3)) 36 (kx j 3) v) 36 (kx i 2) (A - a3)) 36 (kx j 2) (B + a3), ?_, ?_, ?_⟩
            · unfold X3_pour X2_pourOver
              rw [x1, ob_y rfl, if_pos rfl, X2_at_s hj7, ob_y rfl, v3, ob_y rfl, nm_q, ob_y rfl, nm_q, X2_at_s hi7, ob_y rfl, nm_q, ob2_y rfl, if_pos rfl, ob_y rfl]
              simp only [mset_so (show (2 : Nat) ≠ 3 by omega), kB]
              rw [mset_oo (show 1 + 2 + i ≠ 1 + 2 + j by omega), mset_oo (show 1 + 2 + i ≠ 1 + 2 + j by omega), kA, mset_oo (show 1 + 2 + j ≠ 1 + 2 + i by omega), mset_so (by omega), mset_ss]
            · have e36 : mset (mset (mset m (1 + 2 + j) 3 v) (1 + 2 + j) 2 (B + a3)) (1 + 2 + i) 2 (A - a3) 36 = m 36 := by funext y; rw [mset_oo (by omega), mset_oo (by omega), mset_oo (by omega)]
              generalize hM : mset (mset (mset m (1 + 2 + j) 3 v) (1 + 2 + j) 2 (B + a3)) (1 + 2 + i) 2 (A - a3) = M at e36
              unfold X4_pour X4_pours
              rw [f4 M e36, if_neg e01, g4 M e36, if_neg e01, if_neg ne, if_pos r1, if_pos r2, x2 M e36, ob_y rfl, if_neg e01, v4 M e36, ob_y rfl, gd_y (at_in3 hj7), nm_q, gd_y (at_in2 hi7), nm_q, gd_y (at_in2 hj7), nm_q, ob_y rfl, gd_y (at_in3 hj7), at_cl3 hj7, at_cl2 hi7, at_cl2 hj7]
              have n1 : kx i 2 ≠ kx j 3 := by unfold kx; omega
              have n2 : kx j 2 ≠ kx i 2 := by unfold kx; omega
              have n3 : kx j 2 ≠ kx j 3 := by unfold kx; omega
              have n4 : kx j 3 ≠ kx i 2 := by unfold kx; omega
              have w1 : mset M 36 (kx j 3) v 36 (kx i 2) = A := by rw [mset_so n1, e36, hA]
              rw [w1]
              have w2 : mset (mset M 36 (kx j 3) v) 36 (kx i 2) (A - a3) 36 (kx j 2) = B := by rw [mset_so n2, mset_so n3, e36, hB]
              rw [w2]
              rw [mset_so n3.symm, mset_so n4, mset_ss]
            · have dd : ∀ k k', k < 6 → k' < 6 → kx i k ≠ kx j k' := fun k k' h1 h2 => by unfold kx; omega
              have eA : (A - a3).toInt = A.toInt - a3.toInt := by rw [z_sub] <;> omega
              have eB : (B + a3).toInt = B.toInt + a3.toInt := by rw [z_add] <;> omega
              have szi := (hm.1.2.1.ci hi).2.2.1.2
              have szj := (hm.1.2.1.ci hj).2.1.2
              unfold ck at szi szj
              rw [hA] at szi
              have R1 := R_as hm hj (s := v) (a := B + a3) ⟨v1, v2⟩ ⟨by omega, by omega⟩
              generalize hM1 : mset (mset (mset (mset m (1 + 2 + j) 3 v) (1 + 2 + j) 2 (B + a3)) 36 (kx j 3) v) 36 (kx j 2) (B + a3) = M1 at R1
              have eM : ∀ k, k < 6 → M1 36 (kx i k) = m 36 (kx i k) := fun k hk => by
                subst hM1
                rw [mset_so (dd k 2 hk (by omega)), mset_so (dd k 3 hk (by omega)), mset_oo (by omega), mset_oo (by omega)]
              have enT : nT (M1 36) = nT (m 36) := by
                unfold nT; subst hM1
                rw [mset_so (by unfold kx; omega), mset_so (by unfold kx; omega), mset_oo (by omega), mset_oo (by omega)]
              have R2 := R_as R1 (c := i) (by rw [enT]; exact hi) (s := m 36 (kx i 3)) (a := A - a3) p2 ⟨by omega, by rw [eM 1 (by omega)]; omega⟩
              have e : mset (mset (mset (mset (mset (mset m (1 + 2 + j) 3 v) (1 + 2 + j) 2 (B + a3)) (1 + 2 + i) 2 (A - a3)) 36 (kx j 3) v) 36 (kx i 2) (A - a3)) 36 (kx j 2) (B + a3) = mset (mset (mset (mset M1 (1 + 2 + i) 3 (m 36 (kx i 3))) (1 + 2 + i) 2 (A - a3)) 36 (kx i 3) (m 36 (kx i 3))) 36 (kx i 2) (A - a3) := by
                subst hM1
                funext x y
                by_cases hx : x = 36
                · subst hx
                  by_cases y1 : y = kx j 2
                  · subst y1
                    rw [mset_ss, mset_so (dd 2 2 (by omega) (by omega)).symm, mset_so (dd 3 2 (by omega) (by omega)).symm, mset_oo (by omega), mset_oo (by omega), mset_ss]
                  · rw [mset_so y1]
                    by_cases y2 : y = kx i 2
                    · subst y2
                      rw [mset_ss, mset_ss]
                    · rw [mset_so y2, mset_so y2]
                      by_cases y3 : y = kx i 3
                      · subst y3
                        rw [mset_so (dd 3 3 (by omega) (by omega)), mset_oo (by omega), mset_oo (by omega), mset_oo (by omega), mset_ss]
                      · by_cases y4 : y = kx j 3
                        · subst y4; simp only [mset, y1, y2, y3, ne36 hi7, ne36 hj7, if_false, if_true, reduceIte]
                        · simp only [mset, y1, y2, y3, y4, ne36 hi7, ne36 hj7, if_false, if_true, reduceIte]
                · rw [mset_oo hx, mset_oo hx, mset_oo hx, mset_oo hx, mset_oo hx]
                  by_cases hi' : x = 1 + 2 + i
                  · subst hi'
                    by_cases y2 : y = 2
                    · subst y2; rw [mset_ss, mset_ss]
                    · rw [mset_so y2, mset_so y2, mset_oo (by omega), mset_oo (by omega)]
                      by_cases y3 : y = 3
                      · subst y3; rw [mset_ss, hm.ck hi (by omega)]
                      · rw [mset_so y3, mset_oo (by omega), mset_oo (by omega), mset_oo (by omega), mset_oo (by omega)]
                  · rw [mset_oo hi', mset_oo hi', mset_oo hi', mset_oo hx, mset_oo hx]
              rw [e]
              exact R2
          · refine ref_t Ft3 hm ?_ (fun m' h => ?_)
            · unfold X3_pour X2_pourOver
              rw [x1, ob_y rfl, if_neg em3, ob2_y rfl, if_neg em3]
            · unfold X4_pour
              rw [f4 m' (h 36 (by omega)), if_neg e01, g4 m' (h 36 (by omega)), if_neg e01, if_neg ne, if_pos r1, if_pos r2, x2 m' (h 36 (by omega)), ob_y rfl, if_pos rfl]
        · refine ref_t Ft4 hm ?_ (fun m' h => ?_)
          · unfold X3_pour X2_pourOver X2_pourFault
            rw [if_neg ne, f3, g3, fo0, if_pos rfl, nm_q, if_pos rfl, r3, nm_q, if_neg em4, ob_y rfl, if_neg em4, ob2_y rfl, if_neg em4]
          · unfold X4_pour
            rw [f4 m' (h 36 (by omega)), if_neg e01, g4 m' (h 36 (by omega)), if_neg e01, if_neg ne, if_neg r1]
        · refine ref_t Ft6 hm ?_ (fun m' h => ?_)
          · unfold X3_pour X2_pourOver X2_pourFault
            rw [if_neg ne, f3, g3, fo0, if_pos rfl, nm_q, if_pos rfl, r3, nm_q, if_neg em6, ob_y rfl, if_neg em6, ob2_y rfl, if_neg em6]
          · unfold X4_pour
            rw [f4 m' (h 36 (by omega)), if_neg e01, g4 m' (h 36 (by omega)), if_neg e01, if_neg ne, if_pos r1, if_neg r2]
    · have ne : ¬ nI i = a2 := fun z => by rw [← z, f3] at g3; exact absurd g3 (by decide)
      refine ref_t Ft1 hm ?_ (fun m' h => ?_)
      · unfold X3_pour X2_pourOver X2_pourFault
        rw [if_neg ne, f3, fo0, g3, if_neg em1, nm_q, if_neg em1, ob_y rfl, if_neg em1, ob2_y rfl, if_neg em1]
      · unfold X4_pour
        rw [f4 m' (h 36 (by omega)), if_neg e01, g4 m' (h 36 (by omega)), if_pos rfl]
  · refine ref_t Ft1 hm ?_ (fun m' h => ?_)
    · unfold X3_pour X2_pourOver X2_pourFault
      rw [f3, fo1 em1, fo1 em1, nm_q, nm_q, if_neg em1]
      have : (if a1 = a2 then some (-1 : Int32) else some (-1)) = some (-1) := by split <;> rfl
      rw [this, ob_y rfl, if_neg em1, ob2_y rfl, if_neg em1]
    · unfold X4_pour
      rw [f4 m' (h 36 (by omega)), if_pos rfl]
