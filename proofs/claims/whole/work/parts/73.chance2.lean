/-! chance: one row of Lents, both codes -/
theorem y1_hi {T : Nat → Int32} {rate : Int32} (hn : nT T ≤ 7) {j : Nat} (hj : 47 ≤ j) : y1 T rate j = T j := by
  unfold y1 pY
  rw [if_neg (by omega), gT_o (by omega)]
theorem al_s {S : Nat → Int32} (hS : TI S) (hy : (S 1).toInt ≤ 999) {c n w : Nat} (hn : n ≤ 8) (hc : c < nT S) (hw : w < 256) {a30 a31 a33 a34 : Int32} {a35 wq : Int64} {k4 : Int64 → Int32 → Mm → Option (Int64 × Mm)} : ∀ (k i fuel : Nat) (m : Mm) (T : Nat → Int32), k = n - i → i ≤ n → k < fuel → RC 1 m S → TI T → nT T = nT S → (T 1).toInt = (S 1).toInt + i → T 2 = S 2 → (∀ k, k < 6 → m (11 + 2 + c) k = T (kx c k)) →
    ∃ a m1, X3_amountByLents_L26 (nI n) (nI w) (11 + 2 + c) fuel (nI i) m = some (a, m1) ∧ FrC 11 m m1 ∧ ∀ m', m' 37 = T → ∃ m2, X4_chance_L136 a30 a31 (nI n) a33 a34 wq a35 (nI w) k4 fuel (pw (a33 - 1).toInt64 (zb0 w i)) (nI i) m' = k4 (pw (a33 - 1).toInt64 (zb0 w n)) (nI n) m2 ∧ m2 37 (kx c 2) = a ∧ FrM 37 m' m2 ∧ ∀ j, 47 ≤ j → m2 37 j = T j := by
  have n7 := hS.nT7
  intro k
  induction k with
  | zero =>
    intro i fuel m T hk hi hf hr hT hnT hT1 hT2 hm
    have : i = n := by omega
    subst this
    obtain ⟨fuel, rfl⟩ : ∃ q, fuel = q + 1 := ⟨fuel - 1, by omega⟩
    have q : nI i ≤ nI i := (nI_le_iff (by omega) (by omega)).mpr (Nat.le_refl _)
    refine ⟨T (kx c 2), m, ?_, FrC.rf, fun m' h3 => ⟨m', ?_, by rw [h3], FrM.rf, fun j _ => by rw [h3]⟩⟩
    · unfold X3_amountByLents_L26; rw [if_pos q, hm 2 (by omega)]
    · unfold X4_chance_L136; rw [if_pos q]
  | succ k ih =>
    intro i fuel m T hk hi hf hr hT hnT hT1 hT2 hm
    obtain ⟨fuel, rfl⟩ : ∃ q, fuel = q + 1 := ⟨fuel - 1, by omega⟩
    have q : ¬ nI n ≤ nI i := by rw [nI_le_iff (by omega) (by omega)]; omega
    have bk := bitk i (by omega) w hw
    have b0 := hS
    obtain ⟨_, -, -, -, -, hY, -⟩ := b0
    have ei : (nI i).toInt = (i : Int) := z_nI (by omega)
    have e1 : (m 1 6 + 1).toInt = (S 1).toInt + 1 := by rw [hr.1.2.1, z_add (by rw [t1]; omega) (by rw [t1]; omega), t1]
    have ey : m 1 6 + 1 + nI i = T 1 + 1 := by
      have e2 : (T 1 + 1).toInt = (T 1).toInt + 1 := by rw [z_add (by rw [t1]; omega) (by rw [t1]; omega), t1]
      rw [z_eq, z_add (by rw [e1, ei]; omega) (by rw [e1, ei]; omega), e1, ei, e2, hT1]; omega
    have step : ∀ (p : Prop) [Decidable p] (v : Int32) (d : Nat), v = (if p then 1 else 0) → zb0 w (i + 1) = zb0 w i + d →
        (X3_amountByLents_L26 (nI n) (nI w) (11 + 2 + c) (fuel + 1) (nI i) m = X3_amountByLents_L26 (nI n) (nI w) (11 + 2 + c) fuel (nI (i + 1)) (X0_goOn (11 + 2 + c) (X2_rateBy 1 v m) (m 1 6 + 1 + nI i) m)) →
        (∀ m' m3, X4_yearBy 35 37 v m' = some m3 → X4_chance_L136 a30 a31 (nI n) a33 a34 wq a35 (nI w) k4 (fuel + 1) (pw (a33 - 1).toInt64 (zb0 w i)) (nI i) m' = X4_chance_L136 a30 a31 (nI n) a33 a34 wq a35 (nI w) k4 fuel (pw (a33 - 1).toInt64 (zb0 w i + d)) (nI (i + 1)) m3) →
        ∃ a m1, X3_amountByLents_L26 (nI n) (nI w) (11 + 2 + c) (fuel + 1) (nI i) m = some (a, m1) ∧ FrC 11 m m1 ∧ ∀ m', m' 37 = T → ∃ m2, X4_chance_L136 a30 a31 (nI n) a33 a34 wq a35 (nI w) k4 (fuel + 1) (pw (a33 - 1).toInt64 (zb0 w i)) (nI i) m' = k4 (pw (a33 - 1).toInt64 (zb0 w n)) (nI n) m2 ∧ m2 37 (kx c 2) = a ∧ FrM 37 m' m2 ∧ ∀ j, 47 ≤ j → m2 37 j = T j := by
      intro p ip v d hv hd x3 x4
      have er : X2_rateBy 1 v m = rT T p := by
        rw [X2_rateBy_s (T := S) hr.1.2.2.1 p v hv]; unfold rT; rw [hT2]
      have hcT : c < nT T := by omega
      have hr80 := rT_in hT p
      obtain ⟨g1, g2⟩ := X0_goOn_s (o := 11 + 2 + c) (mem := m) (rate := rT T p) (year := T 1 + 1) (CI.cong (hT.ci hcT) hm) (by omega) hr80
      rw [er, ey] at x3
      generalize hM : X0_goOn (11 + 2 + c) (rT T p) (T 1 + 1) m = M at g1 g2 x3
      have fr : FrC 11 m M := fun i hi => g2 i (by omega)
      have hT' : TI (y1 T (rT T p)) := y1_TI hT (by omega) hr80
      obtain ⟨a, m1, s1, s2, s3⟩ := ih (i + 1) fuel M (y1 T (rT T p)) (by omega) (by omega) (by omega) (hr.cg (fun i h1 h2 => fr i (by omega)) n7.1) hT' (by rw [y1_nT, hnT]) (by rw [y1_1, z_add (by rw [t1]; omega) (by rw [t1]; omega), t1, hT1]; omega) (by rw [y1_g (by omega) (by omega), hT2]) (fun k hk => by
        rw [g1 k hk, y1_c hcT hk]
        unfold s_cY s_n s_b s_n ck
        rw [hm 0 (by omega), hm 1 (by omega), hm 2 (by omega), hm 3 (by omega), hm 4 (by omega), hm 5 (by omega), hm k hk])
      refine ⟨a, m1, x3.trans s1, FrC.tr fr s2, fun m' h3 => ?_⟩
      obtain ⟨m3, v1, v2, -, -, v5⟩ := X4_yearBy_s (r := 37) (by omega) (mem := m') (n := nT T) hT.nT7.1 (by rw [h3]; exact hT.nT7.2) v
      have ev : rT T (¬ v = 0) = rT T p := by
        unfold rT
        by_cases hp : p
        · rw [if_pos hp, if_pos (by rw [hv, if_pos hp]; decide)]
        · rw [if_neg hp, if_neg (by rw [hv, if_neg hp]; decide)]
      rw [h3, ev] at v2
      obtain ⟨n2, w1, w2, w3, w4⟩ := s3 m3 v2
      rw [hd] at w1
      exact ⟨n2, (x4 m' m3 v1).trans w1, w2, FrM.tr v5 w3, fun j hj => by rw [w4 j hj, y1_hi hT.nT7.1 hj]⟩
    by_cases hb : w.testBit i = true
    · refine step True 1 0 (if_pos trivial).symm (by show zb0 w i + _ = _; rw [if_pos hb]) ?_ (fun m' m3 h => ?_)
      · conv => lhs; unfold X3_amountByLents_L26
        rw [if_neg q, if_pos (bk.mpr hb), nm_q, nm_q, nI_1]
      · conv => lhs; unfold X4_chance_L136
        rw [if_neg q, if_pos (bk.mpr hb), nm_q, ob_y h, nm_q, nI_1, Int64.mul_one]
        rfl
    · refine step False 0 1 (if_neg id).symm (by show zb0 w i + _ = _; rw [if_neg hb]) ?_ (fun m' m3 h => ?_)
      · conv => lhs; unfold X3_amountByLents_L26
        rw [if_neg q, if_neg (fun z => hb (bk.mp z)), nm_q, nm_q, nI_1]
      · conv => lhs; unfold X4_chance_L136
        rw [if_neg q, if_neg (fun z => hb (bk.mp z)), nm_q, ob_y h, nm_q, nI_1]
        rfl
