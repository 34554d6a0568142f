/-! which rates; which -/
theorem rates_s {S z : Nat → Int32} (hS : TI S) (hy : (S 1).toInt ≤ 999) {c n : Nat} (hn : n ≤ 12) (hc : c < nT S) {w : Nat → Int32} : ∀ (k i fuel : Nat) (u : Int32) (m : Mm), k = 41 - i → i ≤ 41 → k < fuel → RC 1 m S → m 0 6 = nI n → (∀ j, j < n → m 33 j = w j) →
    ∃ v m1, X3_ratesByRow_L4 (nI c) fuel u (nI i) m = some (v, m1) ∧ FrC 11 m m1 ∧ ∀ m', m' 36 = S → Hi z m' → m' 35 9 = nI n → (∀ j, j < n → m' 41 j = w j) → ∃ m2, X4_which_L35 (nI c) 1 fuel u (nI i) m' = some (v, m2) ∧ FrM 37 m' m2 := by
  have n7 := hS.nT7
  have hc7 : c < 7 := by omega
  have t41 : (41 : Int32).toInt = 41 := rfl
  intro k
  induction k with
  | zero =>
    intro i fuel u m hk hi hf hr h6 hw
    have : i = 41 := by omega
    subst this
    obtain ⟨fuel, rfl⟩ : ∃ q, fuel = q + 1 := ⟨fuel - 1, by omega⟩
    refine ⟨u, m, ?_, FrC.rf, fun m' _ _ _ _ => ⟨m', ?_, FrM.rf⟩⟩
    · unfold X3_ratesByRow_L4; rw [if_pos (show (40 : Int32) < nI 41 by decide)]
    · unfold X4_which_L35; rw [if_neg e01, if_pos (show (41 : Int32) ≤ nI 41 by decide)]
  | succ k ih =>
    intro i fuel u m hk hi hf hr h6 hw
    obtain ⟨fuel, rfl⟩ : ∃ q, fuel = q + 1 := ⟨fuel - 1, by omega⟩
    have ei : (nI i).toInt = (i : Int) := z_nI (by omega)
    have q3 : ¬ (40 : Int32) < nI i := by rw [z_lt, ei, t40]; omega
    have q4 : ¬ (41 : Int32) ≤ nI i := by rw [z_le, ei, t41]; omega
    have hT : TI (setT (tz S z) 2 (nI i)) := setT_TI (tz_TI hS) (Or.inl ⟨rfl, by omega, by omega⟩)
    have hTy : (setT (tz S z) 2 (nI i) 1).toInt ≤ 999 := by rw [setT_o (by omega), tz_lo (by omega)]; exact hy
    obtain ⟨m1, p1, p2, p3⟩ := bec_s (z := z) hS hr
    have hr2 : RC 11 (mset m1 11 3 (nI i)) (setT (tz S z) 2 (nI i)) := RC_head p2 (Or.inl ⟨rfl, rfl⟩)
    have f2 : FrC 11 m (mset m1 11 3 (nI i)) := FrC.tr p3 (fun i hi => by funext j; exact mset_oo (by omega))
    obtain ⟨v, m2, s1, s2, s3, s4⟩ := fn_s (c := c) hn (w := w) n 0 LF _ _ (by omega) (by omega) (LF_big (by omega)) hT (by rw [setT_nT (by omega), tz_nT]; exact hc) (by omega) (by rw [if_pos rfl]; exact hr2) (by rw [f2 0 (by omega)]; exact h6) (fun j hj => by rw [f2 33 (by omega)]; exact hw j hj)
    rw [nI_z] at s1
    have fr : FrC 11 m m2 := FrC.tr f2 s2
    have hr3 : RC 1 m2 S := hr.cg (fun i h1 h2 => fr i (by omega)) n7.1
    have x3 : X3_ratesByRow_L4 (nI c) (fuel + 1) u (nI i) m = if v = -9 then X3_ratesByRow_L4 (nI c) fuel (u + 1) (nI (i + 1)) m2 else X3_ratesByRow_L4 (nI c) fuel u (nI (i + 1)) m2 := by
      conv => lhs; unfold X3_ratesByRow_L4 X3_firstNotSo
      rw [if_neg q3, ob_y p1, ch0, rg_ok (by rw [ei, t0, t40]; omega), if_pos rfl, nm2_q, ob2_y s1]
      simp only [nm_q, nI_1]
    have x4 : ∀ m', m' 36 = S → Hi z m' → m' 35 9 = nI n → (∀ j, j < n → m' 41 j = w j) → ∃ m3, FrM 37 m' m3 ∧ m3 36 = S ∧ Hi z m3 ∧ m3 35 9 = nI n ∧ (∀ j, j < n → m3 41 j = w j) ∧ X4_which_L35 (nI c) 1 (fuel + 1) u (nI i) m' = if 0 ≤ v then X4_which_L35 (nI c) 1 fuel u (nI (i + 1)) m3 else X4_which_L35 (nI c) 1 fuel (u + 1) (nI (i + 1)) m3 := fun m' h3 h4 h5 h41 => by
      obtain ⟨m2', l1, l2, l3⟩ := lay_s h3 h4
      obtain ⟨m3, w1, w2, w3⟩ := s4 (mset m2' 37 2 (nI i)) (mset_setT l2) (fun j hj => by rw [mset_oo (by omega), l3 41 (by omega)]; exact h41 j hj)
      rw [nI_z] at w1
      have fr4 : FrM 37 m' m3 := FrM.tr ⟨fun i h1 h2 => l3 i h1, fun k h1 h2 => congrFun (l3 35 (by omega)) k⟩ (FrM.tr ⟨fun i h1 h2 => by funext j; exact mset_oo h1, fun k h1 h2 => mset_oo (by omega)⟩ w2)
      refine ⟨m3, fr4, (fr4.1 36 (by omega) (by omega)).trans h3, fun j hj => ?_, (fr4.2 9 (by omega) (by omega)).trans h5, fun j hj => by rw [fr4.1 41 (by omega) (by omega)]; exact h41 j hj, ?_⟩
      · rw [w3 j hj, setT_o (by omega), tz_hi hj]
      · have e9 : mset m2' 37 2 (nI i) 35 9 = nI n := by rw [mset_oo (by omega), l3 35 (by omega), h5]
        conv => lhs; unfold X4_which_L35 X4_firstWrong
        rw [if_neg e01, if_neg q4, ob_y l1, nm_q, e9, ob2_y w1]
        simp only [nm_q, nI_1]
    by_cases g : v = -9
    · obtain ⟨v', n1, e1, e2, e3⟩ := ih (i + 1) fuel (u + 1) m2 (by omega) (by omega) (by omega) hr3 (by rw [fr 0 (by omega)]; exact h6) (fun j hj => by rw [fr 33 (by omega)]; exact hw j hj)
      refine ⟨v', n1, by rw [x3, if_pos g, e1], FrC.tr fr e2, fun m' h3 h4 h5 h41 => ?_⟩
      obtain ⟨m3, f3, h6', h7, h8, h9, h10⟩ := x4 m' h3 h4 h5 h41
      obtain ⟨n2, w1, w2⟩ := e3 m3 h6' h7 h8 h9
      exact ⟨n2, by rw [h10, if_neg (by rw [g]; decide), w1], FrM.tr f3 w2⟩
    · have g2 : (0 : Int32) ≤ v := by
        rcases s3 with s3 | s3
        · exact absurd s3 g
        · rw [z_le, t0]; exact s3
      obtain ⟨v', n1, e1, e2, e3⟩ := ih (i + 1) fuel u m2 (by omega) (by omega) (by omega) hr3 (by rw [fr 0 (by omega)]; exact h6) (fun j hj => by rw [fr 33 (by omega)]; exact hw j hj)
      refine ⟨v', n1, by rw [x3, if_neg g, e1], FrC.tr fr e2, fun m' h3 h4 h5 h41 => ?_⟩
      obtain ⟨m3, f3, h6', h7, h8, h9, h10⟩ := x4 m' h3 h4 h5 h41
      obtain ⟨n2, w1, w2⟩ := e3 m3 h6' h7 h8 h9
      exact ⟨n2, by rw [h10, if_pos g2, w1], FrM.tr f3 w2⟩
theorem op_which (a1 a2 : Int32) : Op (X3_which 0 a1 a2) (X4_which 35 a1 a2) := by
  intro m hm
  rcases cask_dec hm a1 with ⟨c, rfl, hc, hc7, f3, f4⟩ | ⟨f3, f4⟩
  · rcases what_dec a2 1 with ⟨w1, w2, w3, w4⟩ | ⟨w3, w4⟩
    · obtain ⟨n, d1, d2, d3, d4⟩ := hm.2.2.2.1
      obtain ⟨k, rfl, hk⟩ := nI_le_of w1 (show a2 ≤ nI 1 from w2) (by omega)
      rcases (by omega : k = 0 ∨ k = 1) with rfl | rfl
      · obtain ⟨v, n1, e1, e2, e3⟩ := kinds_s (z := m 37) hm.1.2.1 hm.1.2.2 d1 hc (w := m 33) 6 0 LF 0 m (by omega) (by omega) (LF_big (by omega)) (by decide) hm.1.1 d2 (fun j _ => rfl)
        obtain ⟨n2, x1, x2⟩ := e3 n1 (e2 36 (by omega)) (fun j _ => by rw [e2 37 (by omega)]) (by rw [e2 35 (by omega)]; exact d3) (fun j hj => by rw [e2 41 (by omega), (d4 j hj).1])
        rw [nI_z] at e1 x1 w3 w4 ⊢
        refine fin_t (v := v) hm (m1 := n1) (m2 := n2) ?_ e2 ?_ x2.f4
        · unfold X3_which X3_kindsByRow
          rw [f3, fo0, w3, if_pos rfl, nm_q, if_pos rfl, if_pos rfl, e1, ob2_y rfl]
        · unfold X4_which
          rw [f4 n1 (e2 36 (by omega)), if_neg e01, w4, if_neg e01, x1]
      · obtain ⟨v, n1, e1, e2, e3⟩ := rates_s (z := m 37) hm.1.2.1 hm.1.2.2 d1 hc (w := m 33) 41 0 LF 0 m (by omega) (by omega) (LF_big (by omega)) hm.1.1 d2 (fun j _ => rfl)
        obtain ⟨n2, x1, x2⟩ := e3 n1 (e2 36 (by omega)) (fun j _ => by rw [e2 37 (by omega)]) (by rw [e2 35 (by omega)]; exact d3) (fun j hj => by rw [e2 41 (by omega), (d4 j hj).1])
        rw [nI_z] at e1 x1
        rw [show nI 1 = (1 : Int32) from rfl] at w3 w4 ⊢
        refine fin_t (v := v) hm (m1 := n1) (m2 := n2) ?_ e2 ?_ x2.f4
        · unfold X3_which X3_ratesByRow
          rw [f3, fo0, w3, if_pos rfl, nm_q, if_pos rfl, if_neg e01, e1, ob2_y rfl]
        · unfold X4_which
          rw [f4 n1 (e2 36 (by omega)), if_neg e01, w4, if_neg e01, x1]
    · refine ref_t Ft2 hm ?_ (fun m' h => ?_)
      · unfold X3_which; rw [f3, fo0, w3, if_neg em2, nm_q, if_neg em2]
      · unfold X4_which; rw [f4 m' (h 36 (by omega)), if_neg e01, w4, if_pos rfl]
  · refine ref_t Ft1 hm ?_ (fun m' h => ?_)
    · unfold X3_which; rw [f3, fo1 em1, nm_q, if_neg em1]
    · unfold X4_which; rw [f4 m' (h 36 (by omega)), if_pos rfl]
