/-! the parts that change the town -/
theorem R_town {m m' : Mm} (hm : R m) (h1 : RC 1 m' (m' 36)) (h2 : TI (m' 36)) (h3 : (m' 36 1).toInt ≤ 999) (e : ∀ i, i = 0 ∨ (21 ≤ i ∧ i < 35) ∨ i = 38 ∨ i = 40 ∨ i = 41 ∨ i = 42 → m' i = m i) (e35 : ∀ k, k = 4 ∨ k = 8 ∨ k = 9 → m' 35 k = m 35 k) : R m' := by
  obtain ⟨⟨a1, a2, a3⟩, ⟨b1, b2⟩, c, d, e5⟩ := hm
  refine ⟨⟨h1, h2, h3⟩, ?_, ?_, ?_, ?_⟩
  · rw [e 0 (by omega), e35 4 (by omega), e 38 (by omega)]
    refine ⟨b1, ?_⟩
    rcases b2 with b2 | ⟨b2, b3, b4, b5⟩
    · exact Or.inl b2
    · exact Or.inr ⟨b2, b3.cg (fun i h1 h2 => e i (by omega)) b4.nT7.1, b4, b5⟩
  · rw [e 31 (by omega), e35 8 (by omega), e 32 (by omega), e 40 (by omega)]; exact c
  · rw [e 0 (by omega), e35 9 (by omega), e 33 (by omega), e 41 (by omega)]; exact d
  · rw [e 34 (by omega), e 42 (by omega)]; exact e5
theorem op_years (a1 : Int32) : Op (X3_years 0 a1) (X4_years 35 a1) := by
  intro m hm
  have hY : 0 ≤ (m 36 1).toInt := by obtain ⟨n, -, -, -, -, h6, -⟩ := hm.1.2.1; exact h6.1
  have hY9 := hm.1.2.2
  rcases range_dec a1 1 60 with ⟨g1, g2, g3⟩ | ⟨g1, g3⟩ | ⟨g1, g2, g3⟩
  · obtain ⟨n, rfl, hn⟩ := nI_le_of (n := 60) (by rw [z_le, t1] at g1; rw [z_le, t0]; omega) g2 (by omega)
    have ey : (m 36 1 + nI n).toInt = (m 36 1).toInt + n := by rw [z_add, z_nI] <;> (try rw [z_nI (by omega)]) <;> omega
    by_cases g : m 36 1 + nI n ≤ 999
    · have g' := g
      rw [z_le, ey, show (999 : Int32).toInt = 999 from rfl] at g'
      obtain ⟨u1, u2, u3⟩ := yT_1 hm.1.2.1 n (by omega)
      obtain ⟨m1, s1, s2, s3⟩ := X2_goOn_s hm.1.2.1 (a := n) (by omega) hm.1.1
      have e36 : m1 36 = m 36 := s3 36 (by omega)
      obtain ⟨m2, v1, v2, v3⟩ := X4_yearsOn_s (r := 36) (by omega) (mem := m1) (n := nT (m 36)) (a := n) hm.nT.1 (by rw [e36]; exact hm.nT.2) (by rw [e36]; intro z; obtain ⟨_, -, -, q, -⟩ := hm.1.2.1; rw [z, t0] at q; omega) (by omega)
      rw [e36] at v2
      refine ⟨yT n (m 36) 1, m1, m2, ?_, ?_, ?_⟩
      · unfold X3_years X2_liveOn
        rw [g3, nm_q, if_pos rfl, hm.1.1.1.2.1, if_pos g, ob_y s1, ob2_y rfl, if_pos rfl, s2.1.2.1]
      · unfold X4_years
        rw [if_pos g1, if_neg (by rw [z_lt]; rw [z_le] at g2; omega), e36, if_pos g, ob_y v1, v2]
      · refine R_town hm ?_ (by rw [v2]; exact u1) (by rw [v2]; omega) (fun i hi => (v3.1 i (by omega) (by omega)).trans (s3 i (by omega))) (fun k hk => (v3.2 k (by omega) (by omega)).trans (congrFun (s3 35 (by omega)) k))
        rw [v2]
        exact s2.cg (fun i h1 h2 => v3.1 i (by omega) (by omega)) u1.nT7.1
    · refine ref_t Ft6 hm ?_ (fun m' h => ?_)
      · unfold X3_years X2_liveOn
        rw [g3, nm_q, if_pos rfl, hm.1.1.1.2.1, if_neg g, ob2_y rfl, if_neg em6]
      · unfold X4_years
        rw [if_pos g1, if_neg (by rw [z_lt]; rw [z_le] at g2; omega), h 36 (by omega), if_neg g]
  · refine ref_t Ft4 hm ?_ (fun m' h => ?_)
    · unfold X3_years X2_liveOn; rw [g3, nm_q, if_neg em4, ob2_y rfl, if_neg em4]
    · unfold X4_years; rw [if_neg g1]
  · refine ref_t Ft6 hm ?_ (fun m' h => ?_)
    · unfold X3_years X2_liveOn; rw [g3, nm_q, if_neg em6, ob2_y rfl, if_neg em6]
    · unfold X4_years; rw [if_pos g1, if_pos (by rw [z_lt]; rw [z_le] at g2; omega)]
/-- a row with other ints in one cask -/
theorem TI_cask {T T' : Nat → Int32} (h : TI T) {c : Nat} (hc : c < nT T) (e : ∀ j, (∀ k, k < 6 → j ≠ kx c k) → T' j = T j) (hci : CI (ck T' c) (400 * (T 1).toInt)) : TI T' := by
  have n7 := h.nT7
  have e5 : ∀ j, j < 5 → T' j = T j := fun j hj => e j (fun k _ => by unfold kx; omega)
  obtain ⟨n, ⟨h1, h2⟩, h3, h4, h5, h6, h7⟩ := h
  have en : nT T = n := nT_eq h1 h2
  refine ⟨n, ⟨h1, by rw [e5 0 (by omega)]; exact h2⟩, by rw [e5 2 (by omega)]; exact h3, by rw [e5 3 (by omega)]; exact h4, by rw [e5 4 (by omega)]; exact h5, by rw [e5 1 (by omega)]; exact h6, fun c' hc' => ?_⟩
  rw [e5 1 (by omega)]
  by_cases q : c' = c
  · rw [q]; exact hci
  · exact (h7 c' hc').cong (fun k hk => e (kx c' k) (fun k' hk' z => q (kx_inj hk hk' z).1))
theorem RC_cask {b : Nat} {m m' : Mm} {T T' : Nat → Int32} (h : RC b m T) {c : Nat} (hb : m' b = m b) (hn : nT T ≤ 7) (ho : ∀ c', c' ≠ c → c' < 7 → m' (b + 2 + c') = m (b + 2 + c')) (hc : ∀ k, k < 6 → m' (b + 2 + c) k = T' (kx c k)) (e : ∀ j, (∀ k, k < 6 → j ≠ kx c k) → T' j = T j) : RC b m' T' := by
  have e5 : ∀ j, j < 5 → T' j = T j := fun j hj => e j (fun k _ => by unfold kx; omega)
  obtain ⟨⟨r0, r1, r2, r3, r4⟩, r5⟩ := h
  refine ⟨⟨by rw [hb, e5 0 (by omega)]; exact r0, by rw [hb, e5 1 (by omega)]; exact r1, by rw [hb, e5 2 (by omega)]; exact r2, by rw [hb, e5 3 (by omega)]; exact r3, by rw [hb, e5 4 (by omega)]; exact r4⟩, fun c' k hc' hk => ?_⟩
  by_cases q : c' = c
  · rw [q]; exact hc k hk
  · have hc2 : c' < nT T := by unfold nT at hc' ⊢; rw [e5 0 (by omega)] at hc'; exact hc'
    rw [ho c' q (by omega), e (kx c' k) (fun k' hk' z => q (kx_inj hk hk' z).1)]
    exact r5 c' k hc2 hk
theorem ne36 {c : Nat} (hc : c < 7) : (36 = 1 + 2 + c) = False := by simp only [eq_iff_iff, iff_false]; omega
theorem op_fill (a1 a2 : Int32) : Op (X3_fill 0 a1 a2) (X4_fill 35 a1 a2) := by
  intro m hm
  rcases cask_dec hm a1 with ⟨c, rfl, hc, hc7, f3, f4⟩ | ⟨f3, f4⟩
  · have hsz := hm.ck hc (k := 1) (by omega)
    rcases range_dec a2 0 (m 36 (kx c 1)) with ⟨g1, g2, g3⟩ | ⟨g1, g3⟩ | ⟨g1, g2, g3⟩
    · refine ⟨m 36 (kx c 2), mset m (1 + 2 + c) 2 a2, mset (mset m (1 + 2 + c) 2 a2) 36 (kx c 2) a2, ?_, ?_, ?_⟩
      · unfold X3_fill
        rw [X2_at_s hc7, ob_y rfl, f3, fo0, hsz, g3, if_pos rfl, nm_q, if_pos rfl, nm_q, nm_q, hm.ck hc (by omega)]
      · have e36 : mset m (1 + 2 + c) 2 a2 36 = m 36 := by funext j; exact mset_oo (by omega)
        unfold X4_fill
        rw [f4 _ e36, if_neg e01, if_pos g1, gd_y (at_in1 hc7), at_cl1 hc7, e36, if_pos g2, gd_y (at_in2 hc7), nm_q, nm_q, at_cl2 hc7]
      · have ne := ne36 hc7
        have eT : ∀ j, (∀ k, k < 6 → j ≠ kx c k) → mset (mset m (1 + 2 + c) 2 a2) 36 (kx c 2) a2 36 j = m 36 j := fun j hj => by
          rw [mset_so (hj 2 (by omega)), mset_oo (by omega)]
        refine R_town hm ?_ ?_ ?_ (fun i hi => by funext j; rw [mset_oo (by omega), mset_oo (by omega)]) (fun k hk => by rw [mset_oo (by omega), mset_oo (by omega)])
        · refine RC_cask hm.1.1 (c := c) (by funext j; rw [mset_oo (by omega), mset_oo (by omega)]) hm.nT.1 (fun c' q q7 => by funext j; rw [mset_oo (by omega), mset_oo (by omega)]) (fun k hk => ?_) eT
          rw [mset_oo (by omega)]
          by_cases z : k = 2
          · subst z; rw [mset_ss, mset_ss]
          · rw [mset_so z, mset_so (fun y => z (kx_inj hk (by omega) y).2), mset_oo (by omega), hm.ck hc hk]
        · refine TI_cask hm.1.2.1 hc eT ?_
          obtain ⟨q1, q2, ⟨q3, q4⟩, q5, q6, q7⟩ := hm.1.2.1.ci hc
          have ek : ∀ k, k < 6 → k ≠ 2 → ck (mset (mset m (1 + 2 + c) 2 a2) 36 (kx c 2) a2 36) c k = ck (m 36) c k := fun k hk z => by
            show mset _ 36 (kx c 2) a2 36 (kx c k) = m 36 (kx c k)
            rw [mset_so (fun y => z (kx_inj hk (by omega) y).2), mset_oo (by omega)]
          have e2 : ck (mset (mset m (1 + 2 + c) 2 a2) 36 (kx c 2) a2 36) c 2 = a2 := mset_ss
          unfold CI
          rw [ek 0 (by omega) (by omega), ek 1 (by omega) (by omega), ek 3 (by omega) (by omega), ek 4 (by omega) (by omega), ek 5 (by omega) (by omega), e2]
          rw [z_le, t0] at g1
          rw [z_le] at g2
          exact ⟨q1, q2, ⟨g1, g2⟩, q5, q6, q7⟩
        · rw [mset_so (by unfold kx; omega), mset_oo (by omega)]; exact hm.1.2.2
    · refine ref_t Ft4 hm ?_ (fun m' h => ?_)
      · unfold X3_fill; rw [X2_at_s hc7, ob_y rfl, f3, fo0, hsz, g3, if_neg em4, nm_q, if_neg em4]
      · unfold X4_fill; rw [f4 m' (h 36 (by omega)), if_neg e01, if_neg g1]
    · refine ref_t Ft6 hm ?_ (fun m' h => ?_)
      · unfold X3_fill; rw [X2_at_s hc7, ob_y rfl, f3, fo0, hsz, g3, if_neg em6, nm_q, if_neg em6]
      · unfold X4_fill; rw [f4 m' (h 36 (by omega)), if_neg e01, if_pos g1, gd_y (at_in1 hc7), at_cl1 hc7, h 36 (by omega), if_neg g2]
  · refine ref_t Ft1 hm ?_ (fun m' h => ?_)
    · unfold X3_fill
      have : ∃ o, X2_at 1 a1 = some o := by
        unfold X2_at
        by_cases q1 : a1 < 0
        · rw [if_pos q1]; exact ⟨_, rfl⟩
        · rw [if_neg q1]
          by_cases q2 : (7 : Int32) ≤ a1
          · rw [if_pos q2]; exact ⟨_, rfl⟩
          · rw [if_neg q2]
            refine ⟨_, gd_y ?_⟩
            rw [z_lt, t0] at q1
            rw [z_le, show (7 : Int32).toInt = 7 from rfl] at q2
            obtain ⟨n, rfl, n1, n2⟩ := z_of (x := a1) (by omega)
            exact vp_in_nI (by omega) (by omega)
      obtain ⟨o, ho⟩ := this
      rw [ob_y ho, f3, fo1 em1, nm_q, if_neg em1]
    · unfold X4_fill; rw [f4 m' (h 36 (by omega)), if_pos rfl]
theorem R_set {m : Mm} (hm : R m) {f j : Nat} {v : Int32} (hf : (f = 3 ∧ j = 2 ∧ 0 ≤ v.toInt ∧ v.toInt ≤ 40) ∨ (f = 4 ∧ j = 3 ∧ 1 ≤ v.toInt ∧ v.toInt ≤ 9) ∨ (f = 5 ∧ j = 4 ∧ 0 ≤ v.toInt ∧ v.toInt ≤ 9)) : R (mset (mset m 1 f v) 36 j v) := by
  have hn := hm.nT
  obtain ⟨⟨⟨r0, r1, r2, r3, r4⟩, r5⟩, -⟩ := hm.1
  obtain ⟨n, ⟨h1, h2⟩, h3, h4, h5, h6, h7⟩ := hm.1.2.1
  have en : nT (m 36) = n := nT_eq h1 h2
  have hj : j = 2 ∨ j = 3 ∨ j = 4 := by omega
  have e0 : mset (mset m 1 f v) 36 j v 36 0 = m 36 0 := by rw [mset_so (by omega), mset_oo (by omega)]
  have e1 : mset (mset m 1 f v) 36 j v 36 1 = m 36 1 := by rw [mset_so (by omega), mset_oo (by omega)]
  have ec : ∀ c k, mset (mset m 1 f v) 36 j v 36 (kx c k) = m 36 (kx c k) := fun c k => by rw [mset_so (by unfold kx; omega), mset_oo (by omega)]
  refine R_town hm ⟨?_, fun c k hc hk => ?_⟩ ⟨n, ⟨h1, by rw [e0]; exact h2⟩, ?_, ?_, ?_, by rw [e1]; exact h6, fun c hc => ?_⟩ (by rw [e1]; exact hm.1.2.2) (fun i hi => by funext j; rw [mset_oo (by omega), mset_oo (by omega)]) (fun k hk => by rw [mset_oo (by omega), mset_oo (by omega)])
  · rcases hf with ⟨rfl, rfl, -⟩ | ⟨rfl, rfl, -⟩ | ⟨rfl, rfl, -⟩ <;> simp [mset, r0, r1, r2, r3, r4]
  · have hc2 : c < nT (m 36) := by unfold nT at hc ⊢; rw [e0] at hc; exact hc
    rw [ec, mset_oo (by omega), mset_oo (by omega)]
    exact r5 c k hc2 hk
  · rcases hf with ⟨rfl, rfl, g⟩ | ⟨rfl, rfl, g⟩ | ⟨rfl, rfl, g⟩ <;> simp [mset] <;> assumption
  · rcases hf with ⟨rfl, rfl, g⟩ | ⟨rfl, rfl, g⟩ | ⟨rfl, rfl, g⟩ <;> simp [mset] <;> assumption
  · rcases hf with ⟨rfl, rfl, g⟩ | ⟨rfl, rfl, g⟩ | ⟨rfl, rfl, g⟩ <;> simp [mset] <;> assumption
  · rw [e1]
    exact (h7 c hc).cong (fun k hk => ec c k)
theorem e10 : ¬ (0 : Int32) = 1 := by decide
theorem e20 : ¬ (2 : Int32) = 0 := by decide
theorem e21 : ¬ (2 : Int32) = 1 := by decide
theorem v20 : vin ((2 : Int32) + 0) 47 := vp_in_nI (n := 2) (N := 47) (by omega) (by omega)
theorem v21 : vin ((2 : Int32) + 1) 47 := vp_in_nI (n := 3) (N := 47) (by omega) (by omega)
theorem v22 : vin ((2 : Int32) + 2) 47 := vp_in_nI (n := 4) (N := 47) (by omega) (by omega)
theorem c20 : ((2 : Int32) + 0).toNatClampNeg = 2 := by decide
theorem c21 : ((2 : Int32) + 1).toNatClampNeg = 3 := by decide
theorem c22 : ((2 : Int32) + 2).toNatClampNeg = 4 := by decide
theorem t40 : (40 : Int32).toInt = 40 := rfl
theorem t9 : (9 : Int32).toInt = 9 := rfl
theorem ch0 {o : Nat} {a : Int32} {m : Mm} : X2_choose o 0 a m = if X3_rangeFault a 0 40 = 0 then (0, mset m o 3 a) else (X3_rangeFault a 0 40, m) := by
  unfold X2_choose X3_leastChoice X3_mostChoice
  rw [show X3_whatFault 0 2 = 0 by decide, fo0]
  simp only [nm_q, e10, reduceIte]
  by_cases g : X3_rangeFault a 0 40 = 0
  · simp only [g, reduceIte]
  · simp only [g, reduceIte]
theorem ch1 {o : Nat} {a : Int32} {m : Mm} : X2_choose o 1 a m = if X3_rangeFault a 1 9 = 0 then (0, mset m o 4 a) else (X3_rangeFault a 1 9, m) := by
  unfold X2_choose X3_leastChoice X3_mostChoice
  rw [show X3_whatFault 1 2 = 0 by decide, fo0]
  simp only [nm_q, e01, reduceIte]
  by_cases g : X3_rangeFault a 1 9 = 0
  · simp only [g, reduceIte]
  · simp only [g, reduceIte]
theorem ch2 {o : Nat} {a : Int32} {m : Mm} : X2_choose o 2 a m = if X3_rangeFault a 0 9 = 0 then (0, mset m o 5 a) else (X3_rangeFault a 0 9, m) := by
  unfold X2_choose X3_leastChoice X3_mostChoice
  rw [show X3_whatFault 2 2 = 0 by decide, fo0]
  simp only [nm_q, e20, e21, reduceIte]
  by_cases g : X3_rangeFault a 0 9 = 0
  · simp only [g, reduceIte]
  · simp only [g, reduceIte]
theorem nm2_q {α β γ : Type} {x : α} {y : β} {k : α → β → γ} : nm2 (x, y) k = k x y := rfl
theorem cn0 {m : Mm} : X2_chosen 1 0 m = m 1 3 := by unfold X2_chosen; rw [if_pos rfl]
theorem cn1 {m : Mm} : X2_chosen 1 1 m = m 1 4 := by unfold X2_chosen; rw [if_neg e01, if_pos rfl]
theorem cn2 {m : Mm} : X2_chosen 1 2 m = m 1 5 := by unfold X2_chosen; rw [if_neg e20, if_neg e21]
theorem op_set (a1 a2 : Int32) : Op (X3_set 0 a1 a2) (X4_set 35 a1 a2) := by
  intro m hm
  have hr := hm.1.1.1
  rcases what_dec a1 2 with ⟨w1, w2, w3, w4⟩ | ⟨w3, w4⟩
  · obtain ⟨k, rfl, hk⟩ := nI_le_of w1 (show a1 ≤ nI 2 from w2) (by omega)
    have e36 : ∀ f v, mset m 1 f v 36 = m 36 := fun f v => by funext j; exact mset_oo (by omega)
    rcases (by omega : k = 0 ∨ k = 1 ∨ k = 2) with rfl | rfl | rfl
    · rw [nI_z] at *
      rcases range_dec a2 0 40 with ⟨g1, g2, g3⟩ | ⟨g1, g3⟩ | ⟨g1, g2, g3⟩
      · refine ⟨m 36 2, mset m 1 3 a2, mset (mset m 1 3 a2) 36 2 a2, ?_, ?_, R_set hm (Or.inl ⟨rfl, rfl, ?_⟩)⟩
        · unfold X3_set
          rw [cn0, nm_q, ch0, g3, if_pos rfl, nm2_q, if_pos rfl, hr.2.2.1]
        · unfold X4_set
          rw [w4, if_neg e01, if_neg e10, if_pos g1, if_pos rfl, if_pos g2, gd_y v20, nm_q, nm_q, c20, e36]
        · rw [z_le, t0] at g1; rw [z_le, t40] at g2; exact ⟨g1, g2⟩
      · refine ref_t Ft4 hm ?_ (fun m' h => ?_)
        · unfold X3_set
          rw [cn0, nm_q, ch0, g3, if_neg em4, nm2_q, if_neg em4]
        · unfold X4_set
          rw [w4, if_neg e01, if_neg e10, if_neg g1]
      · refine ref_t Ft6 hm ?_ (fun m' h => ?_)
        · unfold X3_set
          rw [cn0, nm_q, ch0, g3, if_neg em6, nm2_q, if_neg em6]
        · unfold X4_set
          rw [w4, if_neg e01, if_neg e10, if_pos g1, if_pos rfl, if_neg g2]
    · rw [show nI 1 = (1 : Int32) from rfl] at *
      rcases range_dec a2 1 9 with ⟨g1, g2, g3⟩ | ⟨g1, g3⟩ | ⟨g1, g2, g3⟩
      · refine ⟨m 36 3, mset m 1 4 a2, mset (mset m 1 4 a2) 36 3 a2, ?_, ?_, R_set hm (Or.inr (Or.inl ⟨rfl, rfl, ?_⟩))⟩
        · unfold X3_set
          rw [cn1, nm_q, ch1, g3, if_pos rfl, nm2_q, if_pos rfl, hr.2.2.2.1]
        · unfold X4_set
          rw [w4, if_neg e01, if_pos rfl, if_pos g1, if_neg e01, if_pos g2, gd_y v21, nm_q, nm_q, c21, e36]
        · rw [z_le, t1] at g1; rw [z_le, t9] at g2; exact ⟨g1, g2⟩
      · refine ref_t Ft4 hm ?_ (fun m' h => ?_)
        · unfold X3_set
          rw [cn1, nm_q, ch1, g3, if_neg em4, nm2_q, if_neg em4]
        · unfold X4_set
          rw [w4, if_neg e01, if_pos rfl, if_neg g1]
      · refine ref_t Ft6 hm ?_ (fun m' h => ?_)
        · unfold X3_set
          rw [cn1, nm_q, ch1, g3, if_neg em6, nm2_q, if_neg em6]
        · unfold X4_set
          rw [w4, if_neg e01, if_pos rfl, if_pos g1, if_neg e01, if_neg g2]
    · rw [show nI 2 = (2 : Int32) from rfl] at *
      rcases range_dec a2 0 9 with ⟨g1, g2, g3⟩ | ⟨g1, g3⟩ | ⟨g1, g2, g3⟩
      · refine ⟨m 36 4, mset m 1 5 a2, mset (mset m 1 5 a2) 36 4 a2, ?_, ?_, R_set hm (Or.inr (Or.inr ⟨rfl, rfl, ?_⟩))⟩
        · unfold X3_set
          rw [cn2, nm_q, ch2, g3, if_pos rfl, nm2_q, if_pos rfl, hr.2.2.2.2]
        · unfold X4_set
          rw [w4, if_neg e01, if_neg e21, if_pos g1, if_neg e20, if_pos g2, gd_y v22, nm_q, nm_q, c22, e36]
        · rw [z_le, t0] at g1; rw [z_le, t9] at g2; exact ⟨g1, g2⟩
      · refine ref_t Ft4 hm ?_ (fun m' h => ?_)
        · unfold X3_set
          rw [cn2, nm_q, ch2, g3, if_neg em4, nm2_q, if_neg em4]
        · unfold X4_set
          rw [w4, if_neg e01, if_neg e21, if_neg g1]
      · refine ref_t Ft6 hm ?_ (fun m' h => ?_)
        · unfold X3_set
          rw [cn2, nm_q, ch2, g3, if_neg em6, nm2_q, if_neg em6]
        · unfold X4_set
          rw [w4, if_neg e01, if_neg e21, if_pos g1, if_neg e20, if_neg g2]
  · refine ref_t Ft2 hm ?_ (fun m' h => ?_)
    · unfold X3_set X2_choose
      rw [w3, fo1 em2, nm_q, nm_q, if_neg em2]
      rfl
    · unfold X4_set
      rw [w4, if_pos rfl]
theorem op_image : Op (X3_image 0) (X4_image 35) := by
  intro m hm
  obtain ⟨m1, p1, p2, p3⟩ := X2_become_s (o := 21) (p := 1) (by omega) hm.1.2.1 hm.1.1
  have e36 : mset m1 0 3 1 36 = m 36 := by funext j; rw [mset_oo (by omega), p3 36 (by omega)]
  obtain ⟨m2, q1, q2, q3⟩ := X4_lays_s (p := 36) (q := 38) (by omega) (mset m1 0 3 1)
  have e : ∀ j, j < 47 → m2 38 j = m 36 j := fun j hj => by rw [q3, ← e36]; exact if_pos hj
  refine ⟨m 36 1, mset m1 0 3 1, mset m2 35 4 1, ?_, ?_, ?_⟩
  · unfold X3_image
    rw [ob_y p1, nm_q, mset_oo (by omega), p3 1 (by omega), hm.1.1.1.2.1]
  · unfold X4_image
    rw [ob_y q1, nm_q, mset_oo (by omega), q2 36 (by omega), e36]
  · have f : ∀ i, i ≠ 0 → i ≠ 35 → i ≠ 38 → (i < 21 ∨ 31 ≤ i) → mset m2 35 4 1 i = m i := fun i h1 h2 h3 h4 => by
      funext j
      rw [mset_oo h2, q2 i h3, mset_oo h1, p3 i (by omega)]
    have g : ∀ i, 21 ≤ i → i < 31 → mset m2 35 4 1 i = m1 i := fun i h1 h2 => by
      funext j
      rw [mset_oo (by omega), q2 i (by omega), mset_oo (by omega)]
    have f38 : mset m2 35 4 1 38 = m2 38 := by funext j; exact mset_oo (by omega)
    have f35 : ∀ k, k ≠ 4 → mset m2 35 4 1 35 k = m 35 k := fun k hk => by
      rw [mset_so hk, q2 35 (by omega), mset_oo (by omega), p3 35 (by omega)]
    have f0 : ∀ k, k ≠ 3 → mset m2 35 4 1 0 k = m 0 k := fun k hk => by
      rw [mset_oo (by omega), q2 0 (by omega), mset_so hk, p3 0 (by omega)]
    obtain ⟨⟨a1, a2, a3⟩, -, c, d, e5⟩ := hm
    refine ⟨?_, ?_, ?_, ?_, ?_⟩
    · rw [f 36 (by omega) (by omega) (by omega) (by omega)]
      exact ⟨a1.cg (fun i h1 h2 => f i (by omega) (by omega) (by omega) (by omega)) a2.nT7.1, a2, a3⟩
    · have z1 : mset m2 35 4 1 0 3 = 1 := by rw [mset_oo (by omega), q2 0 (by omega), mset_ss]
      rw [z1, f38]
      refine ⟨mset_ss.symm, Or.inr ⟨rfl, ?_, a2.ct e, by rw [e 1 (by omega)]; exact a3⟩⟩
      exact (p2.ct e a2.nT7.1).cg (fun i h1 h2 => g i (by omega) (by omega)) (a2.ct e).nT7.1
    · rw [f 31 (by omega) (by omega) (by omega) (by omega), f35 8 (by omega), f 32 (by omega) (by omega) (by omega) (by omega), f 40 (by omega) (by omega) (by omega) (by omega)]
      exact c
    · rw [f0 6 (by omega), f35 9 (by omega), f 33 (by omega) (by omega) (by omega) (by omega), f 41 (by omega) (by omega) (by omega) (by omega)]
      exact d
    · rw [f 34 (by omega) (by omega) (by omega) (by omega), f 42 (by omega) (by omega) (by omega) (by omega)]
      exact e5
theorem op_on : Op (X3_on 0) (X4_on 35) := by
  intro m hm
  obtain ⟨b1, b2⟩ := hm.2.1
  rcases b2 with b2 | ⟨b2, b3, b4, b5⟩
  · refine ref_t Ft3 hm ?_ (fun m' h => ?_)
    · unfold X3_on; rw [b2, if_pos rfl]
    · unfold X4_on; rw [h 35 (by omega), ← b1, b2, if_pos rfl]
  · obtain ⟨m1, p1, p2, p3⟩ := X2_become_s (o := 1) (p := 21) (by omega) b4 b3
    obtain ⟨m2, q1, q2, q3⟩ := X4_lays_s (p := 38) (q := 36) (by omega) m1
    have e38 : m1 38 = m 38 := p3 38 (by omega)
    have e : ∀ j, j < 47 → m2 36 j = m 38 j := fun j hj => by rw [q3, ← e38]; exact if_pos hj
    refine ⟨m 38 1, m1, m2, ?_, ?_, ?_⟩
    · unfold X3_on
      rw [b2, if_neg e01, ob_y p1, p2.1.2.1]
    · unfold X4_on
      rw [p3 35 (by omega), ← b1, b2, if_neg e01, ob_y q1, e 1 (by omega)]
    · refine R_town hm ?_ (b4.ct e) (by rw [e 1 (by omega)]; exact b5) (fun i hi => (q2 i (by omega)).trans (p3 i (by omega))) (fun k hk => by rw [q2 35 (by omega), p3 35 (by omega)])
      exact (p2.ct e b4.nT7.1).cg (fun i h1 h2 => q2 i (by omega)) (b4.ct e).nT7.1
