/-! letters, the told row, counts, pouring -/
theorem op_row (a1 : Int32) : Op (X3_row 0 a1) (X4_row 35 a1) := by
  intro m hm
  obtain ⟨k, d1, d2, d3, d4⟩ := hm.2.2.2.1
  rcases range_dec a1 0 99 with ⟨g1, g2, g3⟩ | ⟨g1, g3⟩ | ⟨g1, g2, g3⟩
  · have g4 : ¬ (99 : Int32) < a1 := by rw [z_lt]; rw [z_le] at g2; omega
    by_cases q : k = 12
    · subst q
      refine ref_t Ft6 hm ?_ (fun m' h => ?_)
      · unfold X3_row
        rw [g3, nm_q, if_pos rfl, d2, if_neg (show ¬ nI 12 < 12 by decide)]
      · unfold X4_row
        rw [if_pos g1, if_neg g4, h 35 (by omega), d3, if_pos (show nI 12 = 12 from rfl)]
    · have k12 : k < 12 := by omega
      refine ⟨nI (k + 1), mset (mset m 33 k a1) 0 6 (nI (k + 1)), mset (mset (mset (mset m 33 k a1) 0 6 (nI (k + 1))) 41 k a1) 35 9 (nI (k + 1)), ?_, ?_, ?_⟩
      · unfold X3_row
        rw [g3, nm_q, if_pos rfl, d2, show (12 : Int32) = nI 12 from rfl, if_pos (show nI k < nI 12 from (nI_lt_iff (by omega) (by omega)).mpr k12), if_neg (nI_pos (by omega)), if_neg (show ¬ nI 12 ≤ nI k from nI_ge k12 (by omega)), gd_y (show vin (nI k) 12 from vp_in_nI k12 (by omega)), nI_clamp (by omega), nm_q, nm_q, mset_ss, mset_oo (by omega), d2, nI_1]
      · have e9 : mset (mset m 33 k a1) 0 6 (nI (k + 1)) 35 9 = nI k := by rw [mset_oo (by omega), mset_oo (by omega), d3]
        unfold X4_row
        rw [if_pos g1, if_neg g4, e9, if_neg (show ¬ nI k = (12 : Int32) by rw [z_eq, z_nI (by omega), show (12 : Int32).toInt = 12 from rfl]; omega), gd_y (show vin (nI k) 12 from vp_in_nI k12 (by omega)), nI_clamp (by omega), nm_q, nm_q, mset_ss, mset_oo (by omega), e9, nI_1]
      · have f : ∀ i, i ≠ 0 → i ≠ 33 → i ≠ 35 → i ≠ 41 → mset (mset (mset (mset m 33 k a1) 0 6 (nI (k + 1))) 41 k a1) 35 9 (nI (k + 1)) i = m i := fun i h1 h2 h3 h4 => by
          funext j; rw [mset_oo h3, mset_oo h4, mset_oo h1, mset_oo h2]
        obtain ⟨⟨x1, x2, x3⟩, ⟨b1, b2⟩, c, d, e5⟩ := hm
        have f35 : ∀ l, l ≠ 9 → mset (mset (mset (mset m 33 k a1) 0 6 (nI (k + 1))) 41 k a1) 35 9 (nI (k + 1)) 35 l = m 35 l := fun l hl => by
          rw [mset_so hl, mset_oo (by omega), mset_oo (by omega), mset_oo (by omega)]
        have f0 : ∀ l, l ≠ 6 → mset (mset (mset (mset m 33 k a1) 0 6 (nI (k + 1))) 41 k a1) 35 9 (nI (k + 1)) 0 l = m 0 l := fun l hl => by
          rw [mset_oo (by omega), mset_oo (by omega), mset_so hl, mset_oo (by omega)]
        refine ⟨?_, ?_, ?_, ⟨k + 1, k12, ?_, mset_ss, fun j hj => ?_⟩, ?_⟩
        · rw [f 36 (by omega) (by omega) (by omega) (by omega)]
          exact ⟨x1.cg (fun i h1 h2 => f i (by omega) (by omega) (by omega) (by omega)) x2.nT7.1, x2, x3⟩
        · rw [f0 3 (by omega), f35 4 (by omega), f 38 (by omega) (by omega) (by omega) (by omega)]
          refine ⟨b1, ?_⟩
          rcases b2 with b2 | ⟨b2, b3, b4, b5⟩
          · exact Or.inl b2
          · exact Or.inr ⟨b2, b3.cg (fun i h1 h2 => f i (by omega) (by omega) (by omega) (by omega)) b4.nT7.1, b4, b5⟩
        · rw [f 31 (by omega) (by omega) (by omega) (by omega), f35 8 (by omega), f 32 (by omega) (by omega) (by omega) (by omega), f 40 (by omega) (by omega) (by omega) (by omega)]
          exact c
        · rw [mset_oo (by omega), mset_oo (by omega), mset_ss]
        · by_cases e : j = k
          · subst e
            rw [z_le, t0] at g1
            rw [z_le, t99] at g2
            rw [mset_oo (by omega), mset_oo (by omega), mset_oo (by omega), mset_ss, mset_oo (by omega), mset_ss]
            exact ⟨rfl, g1, g2⟩
          · rw [mset_oo (by omega), mset_oo (by omega), mset_oo (by omega), mset_so e, mset_oo (by omega), mset_so e, mset_oo (by omega), mset_oo (by omega)]
            exact d4 j (by omega)
        · rw [f 34 (by omega) (by omega) (by omega) (by omega), f 42 (by omega) (by omega) (by omega) (by omega)]
          exact e5
  · refine ref_t Ft4 hm ?_ (fun m' h => ?_)
    · unfold X3_row; rw [g3, nm_q, if_neg em4]
    · unfold X4_row; rw [if_neg g1]
  · refine ref_t Ft6 hm ?_ (fun m' h => ?_)
    · unfold X3_row; rw [g3, nm_q, if_neg em6]
    · unfold X4_row; rw [if_pos g1, if_pos (by rw [z_lt]; rw [z_le] at g2; omega)]
theorem op_letter (a1 : Int32) : Op (X3_letter 0 a1) (X4_letter 35 a1) := by
  intro m hm
  obtain ⟨k, d1, d2, d3, d4⟩ := hm.2.2.1
  rcases range_dec a1 0 255 with ⟨g1, g2, g3⟩ | ⟨g1, g3⟩ | ⟨g1, g2, g3⟩
  · have g4 : ¬ (255 : Int32) < a1 := by rw [z_lt]; rw [z_le] at g2; omega
    by_cases q : k = 96
    · subst q
      refine ref_t Ft6 hm ?_ (fun m' h => ?_)
      · unfold X3_letter X1_isFull
        rw [g3, nm_q, if_pos rfl, d2, if_neg (show ¬ nI 96 < 96 by decide), if_neg e01]
      · unfold X4_letter
        rw [if_pos g1, if_neg g4, h 35 (by omega), d3, if_pos (show nI 96 = 96 from rfl)]
    · have k96 : k < 96 := by omega
      refine ⟨nI (k + 1), mset (mset m 32 k a1) 31 1 (nI (k + 1)), mset (mset (mset (mset m 32 k a1) 31 1 (nI (k + 1))) 40 k a1) 35 8 (nI (k + 1)), ?_, ?_, ?_⟩
      · unfold X3_letter X1_isFull X1_add
        rw [g3, nm_q, if_pos rfl, d2, show (96 : Int32) = nI 96 from rfl, if_pos (show nI k < nI 96 from (nI_lt_iff (by omega) (by omega)).mpr k96), if_pos rfl, if_neg (nI_pos (by omega)), if_neg (show ¬ nI 96 ≤ nI k from nI_ge k96 (by omega)), gd_y (show vin (nI k) 96 from vp_in_nI k96 (by omega)), nI_clamp (by omega), nm_q, nm_q, mset_ss, mset_oo (by omega), d2, nI_1, ob2_y rfl]
      · have e9 : mset (mset m 32 k a1) 31 1 (nI (k + 1)) 35 8 = nI k := by rw [mset_oo (by omega), mset_oo (by omega), d3]
        unfold X4_letter
        rw [if_pos g1, if_neg g4, e9, if_neg (show ¬ nI k = (96 : Int32) by rw [z_eq, z_nI (by omega), show (96 : Int32).toInt = 96 from rfl]; omega), gd_y (show vin (nI k) 96 from vp_in_nI k96 (by omega)), nI_clamp (by omega), nm_q, nm_q, mset_ss, mset_oo (by omega), e9, nI_1]
      · have f : ∀ i, i ≠ 31 → i ≠ 32 → i ≠ 35 → i ≠ 40 → mset (mset (mset (mset m 32 k a1) 31 1 (nI (k + 1))) 40 k a1) 35 8 (nI (k + 1)) i = m i := fun i h1 h2 h3 h4 => by
          funext j; rw [mset_oo h3, mset_oo h4, mset_oo h1, mset_oo h2]
        obtain ⟨⟨x1, x2, x3⟩, ⟨b1, b2⟩, c, d, e5⟩ := hm
        have f35 : ∀ l, l ≠ 8 → mset (mset (mset (mset m 32 k a1) 31 1 (nI (k + 1))) 40 k a1) 35 8 (nI (k + 1)) 35 l = m 35 l := fun l hl => by
          rw [mset_so hl, mset_oo (by omega), mset_oo (by omega), mset_oo (by omega)]
        refine ⟨?_, ?_, ⟨k + 1, k96, ?_, mset_ss, fun j hj => ?_⟩, ?_, ?_⟩
        · rw [f 36 (by omega) (by omega) (by omega) (by omega)]
          exact ⟨x1.cg (fun i h1 h2 => f i (by omega) (by omega) (by omega) (by omega)) x2.nT7.1, x2, x3⟩
        · rw [f 0 (by omega) (by omega) (by omega) (by omega), f35 4 (by omega), f 38 (by omega) (by omega) (by omega) (by omega)]
          refine ⟨b1, ?_⟩
          rcases b2 with b2 | ⟨b2, b3, b4, b5⟩
          · exact Or.inl b2
          · exact Or.inr ⟨b2, b3.cg (fun i h1 h2 => f i (by omega) (by omega) (by omega) (by omega)) b4.nT7.1, b4, b5⟩
        · rw [mset_oo (by omega), mset_oo (by omega), mset_ss]
        · by_cases e : j = k
          · subst e
            rw [z_le, t0] at g1
            rw [z_le, show (255 : Int32).toInt = 255 from rfl] at g2
            rw [mset_oo (by omega), mset_oo (by omega), mset_oo (by omega), mset_ss, mset_oo (by omega), mset_ss]
            exact ⟨rfl, g1, g2⟩
          · rw [mset_oo (by omega), mset_oo (by omega), mset_oo (by omega), mset_so e, mset_oo (by omega), mset_so e, mset_oo (by omega), mset_oo (by omega)]
            exact d4 j (by omega)
        · rw [f 0 (by omega) (by omega) (by omega) (by omega), f35 9 (by omega), f 33 (by omega) (by omega) (by omega) (by omega), f 41 (by omega) (by omega) (by omega) (by omega)]
          exact d
        · rw [f 34 (by omega) (by omega) (by omega) (by omega), f 42 (by omega) (by omega) (by omega) (by omega)]
          exact e5
  · refine ref_t Ft4 hm ?_ (fun m' h => ?_)
    · unfold X3_letter; rw [g3, nm_q, if_neg em4]
    · unfold X4_letter; rw [if_neg g1]
  · refine ref_t Ft6 hm ?_ (fun m' h => ?_)
    · unfold X3_letter; rw [g3, nm_q, if_neg em6]
    · unfold X4_letter; rw [if_pos g1, if_pos (by rw [z_lt]; rw [z_le] at g2; omega)]
theorem sp_count {m : Mm} (hm : R m) (a : Int32) : ∃ v, X3_count 0 a m = some v ∧ X4_count 35 a m = some v := by
  obtain ⟨⟨⟨⟨r0, r1, r2, r3, r4⟩, r5⟩, a2, a3⟩, -, ⟨k, c1, c2, c3, -⟩, ⟨l, d1, d2, d3, -⟩, e5⟩ := id hm
  by_cases h : 11 ≤ a ∧ a ≤ 16
  · obtain ⟨h1, h2⟩ := h
    rw [z_le, show (11 : Int32).toInt = 11 from rfl] at h1
    rw [z_le, show (16 : Int32).toInt = 16 from rfl] at h2
    have ne : ∀ b : Int32, b.toInt < 11 → ¬ a = b := fun b hb e => by rw [e] at h1; omega
    have e10' : (a - 10).toInt = a.toInt - 10 := by rw [z_sub (by rw [show (10 : Int32).toInt = 10 from rfl]; omega) (by rw [show (10 : Int32).toInt = 10 from rfl]; omega)]; rfl
    obtain ⟨j, hj, j2, j3⟩ := z_of (x := a - 10) (by omega)
    have j7 : j < 7 := by omega
    refine ⟨m 34 j, ?_, ?_⟩
    · unfold X3_count X3_refused
      rw [if_neg (ne 0 (by decide)), if_neg (ne 1 (by decide)), if_neg (ne 2 (by decide)), if_neg (ne 3 (by decide)), if_neg (ne 4 (by decide)), if_neg (ne 5 (by decide)), if_neg (ne 6 (by decide)), if_neg (ne 7 (by decide)), if_neg (ne 8 (by decide)), if_neg (by rw [z_lt, show (11 : Int32).toInt = 11 from rfl]; omega), if_neg (by rw [z_lt, show (16 : Int32).toInt = 16 from rfl]; omega), hj, if_neg (nI_pos (by omega)), show (7 : Int32) = nI 7 from rfl, if_neg (show ¬ nI 7 ≤ nI j from nI_ge j7 (by omega)), gd_y (show vin (nI j) 7 from vp_in_nI j7 (by omega)), nI_clamp (by omega), ob_y rfl]
    · have e : X4_isIn a 11 16 = 1 := by
        unfold X4_isIn
        rw [if_neg (by rw [z_lt, show (11 : Int32).toInt = 11 from rfl]; omega), if_neg (by rw [z_lt, show (16 : Int32).toInt = 16 from rfl]; omega)]
      unfold X4_count
      rw [e, if_neg e01, hj, gd_y (show vin (nI j) 7 from vp_in_nI j7 (by omega)), nI_clamp (by omega), e5 j j7]
  · have e : X4_isIn a 11 16 = 0 := by
      unfold X4_isIn
      by_cases q : a < 11
      · rw [if_pos q]
      · rw [if_neg q, if_pos (by
          rw [z_lt, show (11 : Int32).toInt = 11 from rfl] at q
          rw [z_lt, show (16 : Int32).toInt = 16 from rfl]
          have : ¬ (a.toInt ≤ 16) := fun z => h ⟨by rw [z_le, show (11 : Int32).toInt = 11 from rfl]; omega, by rw [z_le, show (16 : Int32).toInt = 16 from rfl]; omega⟩
          omega)]
    have u5 : X2_allAmounts 1 m = some (sT (fun c => m 36 (kx c 2)) (nT (m 36))) := X2_allAmounts_s hm.1.1 hm.nT
    have u6 : X2_allTaken 1 m = some (sT (fun c => m 36 (kx c 5)) (nT (m 36))) := X2_allTaken_s hm.1.1 hm.nT
    have w5 : X4_sumOf 36 2 m = some (sT (fun c => m 36 (kx c 2)) (nT (m 36))) := X4_sumOf_2 rfl hm.nT
    have w6 : X4_sumOf 36 5 m = some (sT (fun c => m 36 (kx c 5)) (nT (m 36))) := X4_sumOf_5 rfl hm.nT
    have vi : ∀ n, n < 5 → vin (nI n) 47 := fun n hn => vp_in_nI (by omega) (by omega)
    unfold X3_count X4_count
    rw [e, if_pos rfl, u5, u6, w5, w6, ob_y rfl, ob_y rfl, c2, c3, d2, d3, r0, r1, r2, r3, r4]
    by_cases q0 : a = 0
    · subst q0; rw [if_pos rfl, if_pos rfl, gd_y (show vin (0 : Int32) 47 from vi 0 (by omega))]; exact ⟨_, rfl, rfl⟩
    rw [if_neg q0, if_neg q0]
    by_cases q1 : a = 1
    · subst q1; rw [if_pos rfl, if_pos rfl, gd_y (show vin (1 : Int32) 47 from vi 1 (by omega))]; exact ⟨_, rfl, rfl⟩
    rw [if_neg q1, if_neg q1]
    by_cases q2 : a = 2
    · subst q2; rw [if_pos rfl, if_pos rfl, gd_y (show vin (2 : Int32) 47 from vi 2 (by omega))]; exact ⟨_, rfl, rfl⟩
    rw [if_neg q2, if_neg q2]
    by_cases q3 : a = 3
    · subst q3; rw [if_pos rfl, if_pos rfl, gd_y (show vin (3 : Int32) 47 from vi 3 (by omega))]; exact ⟨_, rfl, rfl⟩
    rw [if_neg q3, if_neg q3]
    by_cases q4 : a = 4
    · subst q4; rw [if_pos rfl, if_pos rfl, gd_y (show vin (4 : Int32) 47 from vi 4 (by omega))]; exact ⟨_, rfl, rfl⟩
    rw [if_neg q4, if_neg q4]
    by_cases q5 : a = 5
    · rw [if_pos q5, if_pos q5]; exact ⟨_, rfl, rfl⟩
    rw [if_neg q5, if_neg q5]
    by_cases q6 : a = 6
    · rw [if_pos q6, if_pos q6]; exact ⟨_, rfl, rfl⟩
    rw [if_neg q6, if_neg q6]
    by_cases q7 : a = 7
    · rw [if_pos q7, if_pos q7]; exact ⟨_, rfl, rfl⟩
    rw [if_neg q7, if_neg q7]
    by_cases q8 : a = 8
    · rw [if_pos q8, if_pos q8]; exact ⟨_, rfl, rfl⟩
    rw [if_neg q8, if_neg q8]
    by_cases q9 : a < 11
    · rw [if_pos q9]; exact ⟨_, rfl, rfl⟩
    rw [if_neg q9, if_pos (by
      rw [z_lt, show (11 : Int32).toInt = 11 from rfl] at q9
      rw [z_lt, show (16 : Int32).toInt = 16 from rfl]
      have : ¬ (a.toInt ≤ 16) := fun z => h ⟨by rw [z_le, show (11 : Int32).toInt = 11 from rfl]; omega, by rw [z_le, show (16 : Int32).toInt = 16 from rfl]; omega⟩
      omega)]
    exact ⟨_, rfl, rfl⟩
