/-! the parts that think years ahead -/
theorem think_s {m : Mm} (h : R m) {n : Nat} (hn : n ≤ 200) : ∃ T, TI T ∧ nT T = nT (m 36) ∧ (∃ m1, X3_thinkOn 0 (nI n) m = some m1 ∧ RC 11 m1 T ∧ FrC 11 m m1) ∧ ∀ m', m' 36 = m 36 → m' 37 = m 37 → ∃ m2, X4_inMind 35 (nI n) m' = some m2 ∧ m2 37 = T ∧ FrM 37 m' m2 := by
  obtain ⟨T, h1, h2, h3, ⟨m1, p1, p2, p3⟩, h4⟩ := mind_s h
  obtain ⟨u1, u2, u3⟩ := yT_1 h1 n (by omega)
  refine ⟨yT n T, u1, by rw [u3]; unfold nT; rw [h3 0 (by omega)], ?_, fun m' q1 q2 => ?_⟩
  · obtain ⟨m2, s1, s2, s3⟩ := X2_goOn_s h1 (a := n) (by omega) p2
    refine ⟨m2, ?_, s2, FrC.tr p3 s3⟩
    unfold X3_thinkOn
    rw [ob_y p1, ob_y s1]
  · obtain ⟨m2, s1, s2, s3⟩ := h4 m' q1 q2
    have n7 := h1.nT7
    obtain ⟨m3, v1, v2, v3⟩ := X4_yearsOn_s (r := 37) (by omega) (mem := m2) (n := nT T) (a := n) n7.1 (by rw [s2]; exact n7.2) (by rw [s2]; intro z; obtain ⟨_, -, -, q, -⟩ := h1; rw [z, t0] at q; omega) (by omega)
    refine ⟨m3, ?_, by rw [v2, s2], FrM.tr ⟨fun i i1 i2 => s3 i i1, fun k k1 k2 => congrFun (s3 35 (by omega)) k⟩ v3⟩
    unfold X4_inMind
    rw [ob_y s1, ob_y v1]
theorem fin_t {α : Type} {f g : Mm → Option (α × Mm)} {m m1 m2 : Mm} {v : α} (hm : R m) (h3 : f m = some (v, m1)) (f3 : FrC 11 m m1) (h4 : g m1 = some (v, m2)) (f4 : Fr4 m1 m2) : ∃ v m1 m2, f m = some (v, m1) ∧ g m1 = some (v, m2) ∧ R m2 := ⟨v, m1, m2, h3, h4, R_fr hm f3 f4⟩
theorem op_behind (a1 a2 a3 : Int32) : Op (X3_behind 0 a1 a2 a3) (X4_behind 35 a1 a2 a3) := by
  intro m hm
  rcases cask_dec hm a1 with ⟨c, rfl, hc, hc7, f3, f4⟩ | ⟨f3, f4⟩
  · rcases years_dec a2 with ⟨n, hn, rfl, g3, g4⟩ | ⟨v, hv, v0, g3, g4⟩
    · rcases what_dec a3 2 with ⟨w1, w2, w3, w4⟩ | ⟨w3, w4⟩
      · obtain ⟨T, T1, T2, ⟨m1, p1, p2, p3⟩, p4⟩ := think_s hm hn
        obtain ⟨m2, q1, q2, q3⟩ := p4 m1 (p3 36 (by omega)) (p3 37 (by omega))
        have hc' : c < nT T := by omega
        refine fin_t (v := if a3 = 0 then T (kx c 2) else if a3 = 1 then T (kx c 3) else T (kx c 5)) hm (m1 := m1) (m2 := m2) ?_ p3 ?_ q3.f4
        · unfold X3_behind
          rw [f3, fo0, g3, if_pos rfl, w3, nm_q, if_pos rfl, ob_y p1, X2_at_s hc7, ob_y rfl, p2.2 c 2 hc' (by omega), p2.2 c 3 hc' (by omega), p2.2 c 5 hc' (by omega)]
          (repeat' split) <;> rfl
        · unfold X4_behind
          rw [f4 m1 (p3 36 (by omega)), if_neg e01, nm_q, g4, if_pos rfl, w4, if_neg e01, ob_y q1, gd_y (at_in2 hc7), gd_y (at_in3 hc7), gd_y (at_in5 hc7), at_cl2 hc7, at_cl3 hc7, at_cl5 hc7, q2]
          (repeat' split) <;> rfl
      · refine ref_t Ft2 hm ?_ (fun m' h => ?_)
        · unfold X3_behind
          rw [f3, fo0, g3, if_pos rfl, w3, nm_q, if_neg em2]
        · unfold X4_behind
          rw [f4 m' (h 36 (by omega)), if_neg e01, nm_q, g4, if_pos rfl, w4, if_pos rfl]
    · refine ref_t hv hm ?_ (fun m' h => ?_)
      · unfold X3_behind
        rw [f3, fo0, g3, if_neg v0, nm_q, if_neg v0]
      · unfold X4_behind
        rw [f4 m' (h 36 (by omega)), if_neg e01, nm_q, g4, if_neg v0]
  · refine ref_t Ft1 hm ?_ (fun m' h => ?_)
    · unfold X3_behind; rw [f3, fo1 em1, nm_q, if_neg em1]
    · unfold X4_behind; rw [f4 m' (h 36 (by omega)), if_pos rfl]
theorem nI_z : nI 0 = 0 := rfl
/-- a cask's number, or none yet -/
def Fnd (n : Nat) (w : Int32) : Prop := w = -9 ∨ ∃ j, w = nI j ∧ j < n
theorem Fnd9 {n : Nat} : Fnd n (-9) := Or.inl rfl
theorem FndI {n c : Nat} (h : c < n) : Fnd n (nI c) := Or.inr ⟨c, rfl, h⟩
theorem lt9 : (-9 : Int32) < 0 := by decide
theorem fullest_s {b : Nat} {m m' : Mm} {T : Nat → Int32} (h : RC b m T) (h' : m' 37 = T) (hT : nT T ≤ 7 ∧ T 0 = nI (nT T)) : ∀ (k c fuel : Nat) (w : Int32), k = nT T - c → c ≤ nT T → k < fuel → Fnd (nT T) w → ∃ v, X2_fullest_L5 b m fuel w (nI c) = some v ∧ X4_allBehind_L65 m' fuel w (nI c) = some (v, m') := by
  intro k
  induction k with
  | zero =>
    intro c fuel w hk hc hf hw
    have hcn : c = nT T := by omega
    obtain ⟨fuel, rfl⟩ : ∃ q, fuel = q + 1 := ⟨fuel - 1, by omega⟩
    have q : nI (nT T) ≤ nI c := by rw [hcn]; exact (nI_le_iff (by omega) (by omega)).mpr (Nat.le_refl _)
    refine ⟨w, ?_, ?_⟩
    · unfold X2_fullest_L5
      rw [h.1.1, hT.2, if_pos q]
    · unfold X4_allBehind_L65
      rw [h', hT.2, if_pos q]
  | succ k ih =>
    intro c fuel w hk hc hf hw
    obtain ⟨fuel, rfl⟩ : ∃ q, fuel = q + 1 := ⟨fuel - 1, by omega⟩
    have q : ¬ nI (nT T) ≤ nI c := by rw [nI_le_iff (by omega) (by omega)]; omega
    unfold X2_fullest_L5 X4_allBehind_L65
    rw [h.1.1, h', hT.2, if_neg q, if_neg q]
    simp only [nm_q]
    rw [show nI c + 1 = nI (c + 1) from nI_1 c]
    rcases hw with rfl | ⟨j, rfl, hj⟩
    · rw [if_pos lt9, if_pos lt9]
      exact ih (c + 1) fuel _ (by omega) (by omega) (by omega) (FndI (by omega))
    · rw [if_neg (nI_pos (by omega)), if_neg (nI_pos (by omega)), X2_at_s (by omega), ob_y rfl, X2_at_s (by omega), ob_y rfl, h.2 c 2 (by omega) (by omega), h.2 j 2 hj (by omega), gd_y (at_in2 (by omega)), gd_y (at_in2 (by omega)), at_cl2 (by omega), at_cl2 (by omega)]
      by_cases g : T (kx c 2) ≤ T (kx j 2)
      · rw [if_pos g, if_pos g]
        exact ih (c + 1) fuel _ (by omega) (by omega) (by omega) (FndI hj)
      · rw [if_neg g, if_neg g]
        exact ih (c + 1) fuel _ (by omega) (by omega) (by omega) (FndI (by omega))
theorem op_allBehind (a1 a2 : Int32) : Op (X3_allBehind 0 a1 a2) (X4_allBehind 35 a1 a2) := by
  intro m hm
  rcases years_dec a1 with ⟨n, hn, rfl, g3, g4⟩ | ⟨v, hv, v0, g3, g4⟩
  · rcases what_dec a2 2 with ⟨w1, w2, w3, w4⟩ | ⟨w3, w4⟩
    · obtain ⟨T, T1, T2, ⟨m1, p1, p2, p3⟩, p4⟩ := think_s hm hn
      obtain ⟨m2, q1, q2, q3⟩ := p4 m1 (p3 36 (by omega)) (p3 37 (by omega))
      obtain ⟨v, x1, x2⟩ := fullest_s p2 q2 T1.nT7 (nT T) 0 LF (-9) (by omega) (by omega) (LF_big (by have := T1.nT7.1; omega)) Fnd9
      rw [nI_z] at x1 x2
      refine fin_t (v := if a2 = 0 then sT (fun c => T (kx c 2)) (nT T) else if a2 = 1 then sT (fun c => T (kx c 5)) (nT T) else v) hm (m1 := m1) (m2 := m2) ?_ p3 ?_ q3.f4
      · unfold X3_allBehind X2_fullest
        rw [g3, fo0, w3, if_pos rfl, nm_q, if_pos rfl, ob_y p1, X2_allAmounts_s p2 T1.nT7, X2_allTaken_s p2 T1.nT7, ob_y rfl, ob_y rfl, ob_y x1]
        (repeat' split) <;> rfl
      · unfold X4_allBehind
        rw [nm_q, g4, if_pos rfl, w4, if_neg e01, ob_y q1, X4_sumOf_2 q2 T1.nT7, X4_sumOf_5 q2 T1.nT7, ob_y rfl, ob_y rfl]
        by_cases g0 : a2 = 0
        · subst g0
          rw [if_neg (by decide), if_pos rfl, if_pos rfl]
        · by_cases g1 : a2 = 1
          · subst g1
            rw [if_neg (by decide), if_neg e01, if_neg e01, if_pos rfl]
          · have g2 : (2 : Int32) ≤ a2 := by
              rw [z_le, t0] at w1
              rw [z_eq, t0] at g0
              rw [z_eq, t1] at g1
              rw [z_le, t2]; omega
            rw [if_pos g2, if_neg g0, if_neg g1, x2]
    · refine ref_t Ft2 hm ?_ (fun m' h => ?_)
      · unfold X3_allBehind
        rw [g3, fo0, w3, if_neg em2, nm_q, if_neg em2]
      · unfold X4_allBehind
        rw [nm_q, g4, if_pos rfl, w4, if_pos rfl]
  · refine ref_t hv hm ?_ (fun m' h => ?_)
    · unfold X3_allBehind
      rw [g3, fo1 v0, nm_q, if_neg v0]
    · unfold X4_allBehind
      rw [nm_q, g4, if_neg v0]
/-- one year more in mind, both -/
theorem yr_s {T : Nat → Int32} (h1 : TI T) (hy : (T 1).toInt < 1300) : TI (yA T) ∧ (yA T 1).toInt = (T 1).toInt + 1 ∧ nT (yA T) = nT T ∧ (∀ m, RC 11 m T → ∃ m1, X2_goOn 11 1 m = some m1 ∧ RC 11 m1 (yA T) ∧ FrC 11 m m1) ∧ ∀ m', m' 37 = T → ∃ m2, X4_year 35 37 m' = some m2 ∧ m2 37 = yA T ∧ m2 35 10 = tT T (rT T (lentT T)) ∧ m2 35 11 = bT T (rT T (lentT T)) ∧ FrM 37 m' m2 := by
  obtain ⟨u1, u2, u3⟩ := yT_1 h1 1 (by omega)
  have n7 := h1.nT7
  refine ⟨u1, u2, u3, fun m h2 => X2_goOn_s h1 (a := 1) (by omega) h2, fun m' h3 => ?_⟩
  obtain ⟨m2, v1, v2, v3, v4, v5⟩ := X4_year_s (r := 37) (by omega) (mem := m') (n := nT T) n7.1 (by rw [h3]; exact n7.2) (by rw [h3]; intro z; obtain ⟨_, -, -, q, -⟩ := h1; rw [z, t0] at q; omega)
  rw [h3] at v2 v3 v4
  exact ⟨m2, v1, v2, v3, v4, v5⟩
theorem low_s {a : Int32} {c : Nat} (hc : c < 7) : ∀ (k i fuel : Nat) (m : Mm) (T : Nat → Int32), k = 201 - i → i ≤ 201 → k < fuel → TI T → c < nT T → (T 1).toInt + k ≤ 1300 → RC 11 m T →
    ∃ v m1, X3_low_L45 (nI c) a fuel (nI i) m = some (v, m1) ∧ FrC 11 m m1 ∧ ∀ m', m' 37 = T → ∃ m2, X4_low_L52 (nI c) a fuel (nI i) m' = some (v, m2) ∧ FrM 37 m' m2 := by
  intro k
  induction k with
  | zero =>
    intro i fuel m T hk hi hf h1 hcn hy h2
    have : i = 201 := by omega
    subst this
    obtain ⟨fuel, rfl⟩ : ∃ q, fuel = q + 1 := ⟨fuel - 1, by omega⟩
    have q : (200 : Int32) < nI 201 := (nI_lt_iff (a := 200) (by omega) (by omega)).mpr (by omega)
    refine ⟨-9, m, ?_, FrC.rf, fun m' h3 => ⟨m', ?_, FrM.rf⟩⟩
    · unfold X3_low_L45; rw [if_pos q]
    · unfold X4_low_L52; rw [if_pos q]
  | succ k ih =>
    intro i fuel m T hk hi hf h1 hcn hy h2
    obtain ⟨fuel, rfl⟩ : ∃ q, fuel = q + 1 := ⟨fuel - 1, by omega⟩
    have q : ¬ (200 : Int32) < nI i := fun z => by have := (nI_lt_iff (a := 200) (by omega) (by omega)).mp z; omega
    obtain ⟨y1, y2, y3, yc, ym⟩ := yr_s h1 (by omega)
    obtain ⟨m1, s1, s2, s3⟩ := yc m h2
    obtain ⟨v, n1, e1, e2, e3⟩ := ih (i + 1) fuel m1 (yA T) (by omega) (by omega) (by omega) y1 (by omega) (by omega) s2
    by_cases g : a < T (kx c 2)
    · refine ⟨v, n1, ?_, FrC.tr s3 e2, fun m' h3 => ?_⟩
      · unfold X3_low_L45
        rw [if_neg q, X2_at_s hc, ob_y rfl, h2.2 c 2 hcn (by omega), if_pos g, ob_y s1, nm_q, nI_1, e1]
      · obtain ⟨m2, v1, v2, -, -, v5⟩ := ym m' h3
        obtain ⟨n2, w1, w2⟩ := e3 m2 v2
        refine ⟨n2, ?_, FrM.tr v5 w2⟩
        unfold X4_low_L52
        rw [if_neg q, gd_y (at_in2 hc), at_cl2 hc, h3, if_pos g, ob_y v1, nm_q, nI_1, w1]
    · refine ⟨nI i, m, ?_, FrC.rf, fun m' h3 => ⟨m', ?_, FrM.rf⟩⟩
      · unfold X3_low_L45
        rw [if_neg q, X2_at_s hc, ob_y rfl, h2.2 c 2 hcn (by omega), if_neg g]
      · unfold X4_low_L52
        rw [if_neg q, gd_y (at_in2 hc), at_cl2 hc, h3, if_neg g]
theorem op_low (a1 a2 : Int32) : Op (X3_low 0 a1 a2) (X4_low 35 a1 a2) := by
  intro m hm
  rcases cask_dec hm a1 with ⟨c, rfl, hc, hc7, f3, f4⟩ | ⟨f3, f4⟩
  · rcases range_dec a2 0 400 with ⟨g1, g2, g3⟩ | ⟨g1, g3⟩ | ⟨g1, g2, g3⟩
    · obtain ⟨T, T1, T2, T3, ⟨m1, p1, p2, p3⟩, p4⟩ := mind_s hm
      obtain ⟨v, n1, e1, e2, e3⟩ := low_s (a := a2) hc7 201 0 LF m1 T (by omega) (by omega) (LF_big (by omega)) T1 (by unfold nT at hc ⊢; rw [T3 0 (by omega)]; exact hc) (by omega) p2
      have pf := FrC.tr p3 e2
      obtain ⟨m2, q1, q2, q3⟩ := p4 n1 (pf 36 (by omega)) (pf 37 (by omega))
      obtain ⟨n2, w1, w2⟩ := e3 m2 q2
      rw [nI_z] at e1 w1
      refine fin_t hm (m1 := n1) (m2 := n2) (v := v) ?_ pf ?_ (Fr4.tr (Fr37 q3) w2.f4)
      · unfold X3_low
        rw [f3, fo0, g3, if_pos rfl, nm_q, if_pos rfl, ob_y p1, e1]
      · unfold X4_low
        rw [f4 n1 (pf 36 (by omega)), if_neg e01, if_pos g1, if_pos g2, ob_y q1, w1]
    · refine ref_t Ft4 hm ?_ (fun m' h => ?_)
      · unfold X3_low; rw [f3, fo0, g3, if_neg em4, nm_q, if_neg em4]
      · unfold X4_low; rw [f4 m' (h 36 (by omega)), if_neg e01, if_neg g1]
    · refine ref_t Ft6 hm ?_ (fun m' h => ?_)
      · unfold X3_low; rw [f3, fo0, g3, if_neg em6, nm_q, if_neg em6]
      · unfold X4_low; rw [f4 m' (h 36 (by omega)), if_neg e01, if_pos g1, if_neg g2]
  · refine ref_t Ft1 hm ?_ (fun m' h => ?_)
    · unfold X3_low; rw [f3, fo1 em1, nm_q, if_neg em1]
    · unfold X4_low; rw [f4 m' (h 36 (by omega)), if_pos rfl]
