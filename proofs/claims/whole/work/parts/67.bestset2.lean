/-! bestSet: the loop -/
def bsT (S z : Nat → Int32) (j c : Nat) : Nat → Int32 := setT (tz S z) j (nI c)
theorem bsT_tot {S z : Nat → Int32} (hS : TI S) (hy : (S 1).toInt ≤ 999) {j c : Nat} (hj : j = 2 ∨ j = 3) (hT : TI (bsT S z j c)) {a : Nat} (ha : a ≤ 200) : zA (yT a (bsT S z j c)) + zK (yT a (bsT S z j c)) = zA S + zK S := by
  have e1 : bsT S z j c 1 = S 1 := by unfold bsT; rw [setT_o (by omega), tz_lo (by omega)]
  rw [tot_yT hT a (by rw [e1]; omega)]
  have hk : ∀ c' k, c' < 7 → k < 6 → bsT S z j c (kx c' k) = S (kx c' k) := fun c' k h1 h2 => by unfold bsT; rw [setT_o (by unfold kx; omega), tz_lo (by unfold kx; omega)]
  have en : nT (bsT S z j c) = nT S := by unfold bsT; rw [setT_nT (by omega), tz_nT]
  have n7 := hS.nT7.1
  unfold zA zK
  rw [en, zS_eq (nT S) (fun c' hc => by show (bsT S z j c (kx c' 2)).toInt = _; rw [hk c' 2 (by omega) (by omega)]), zS_eq (f := fun c' => (bsT S z j c (kx c' 5)).toInt) (nT S) (fun c' hc => by show (bsT S z j c (kx c' 5)).toInt = _; rw [hk c' 5 (by omega) (by omega)])]
theorem best_s {S z : Nat → Int32} (hS : TI S) (hy : (S 1).toInt ≤ 999) {a : Nat} (ha : a ≤ 200) {A : Int32} {f j lo mo : Nat} (hA : (A = 0 ∧ f = 3 ∧ j = 2 ∧ lo = 0 ∧ mo = 40) ∨ (A = 1 ∧ f = 4 ∧ j = 3 ∧ lo = 1 ∧ mo = 9)) : ∀ (k c fuel : Nat) (w6 w7 u8 : Int32) (u9 u10 : Int64) (m : Mm), k = mo + 1 - c → c ≤ mo + 1 → lo ≤ c → k < fuel → RC 1 m S → ((c = lo ∧ w7 = -1 ∧ u9 = -1 ∧ u10 = 1) ∨ Bs (zA S + zK S) w6 w7 u8 u9 u10) →
    ∃ v m1, X3_bestSet_L37 (nI a) A fuel w6 w7 (nI c) m = some (v, m1) ∧ FrC 11 m m1 ∧ ∀ m', m' 36 = S → Hi z m' → ∃ m2, X4_bestSet_L45 (nI a) A fuel u8 u9 u10 (nI c) m' = some (v, m2) ∧ FrM 37 m' m2 := by
  have n7 := hS.nT7
  obtain ⟨-, -, z1, z2⟩ := sums_z hS
  intro k
  induction k with
  | zero =>
    intro c fuel w6 w7 u8 u9 u10 m hk hc hl hf hr hb
    have : c = mo + 1 := by omega
    subst this
    obtain ⟨fuel, rfl⟩ : ∃ q, fuel = q + 1 := ⟨fuel - 1, by omega⟩
    have eb : w6 = u8 := by
      rcases hb with ⟨h, -⟩ | h
      · exfalso; omega
      · exact h.1
    refine ⟨w6, m, ?_, FrC.rf, fun m' h3 _ => ⟨m', ?_, FrM.rf⟩⟩
    · unfold X3_bestSet_L37 X3_mostChoice
      rcases hA with ⟨rfl, rfl, rfl, rfl, rfl⟩ | ⟨rfl, rfl, rfl, rfl, rfl⟩
      · rw [if_pos rfl, if_pos (show (40 : Int32) < nI 41 by decide)]
      · rw [if_neg e01, if_pos (show (9 : Int32) < nI 10 by decide)]
    · unfold X4_bestSet_L45
      rcases hA with ⟨rfl, rfl, rfl, rfl, rfl⟩ | ⟨rfl, rfl, rfl, rfl, rfl⟩
      · rw [if_pos rfl, if_pos (show (40 : Int32) < nI 41 by decide), eb]
      · rw [if_neg e01, if_pos (show (9 : Int32) < nI 10 by decide), eb]
  | succ k ih =>
    intro c fuel w6 w7 u8 u9 u10 m hk hc hl hf hr hb
    obtain ⟨fuel, rfl⟩ : ∃ q, fuel = q + 1 := ⟨fuel - 1, by omega⟩
    have hcm : c ≤ mo := by omega
    have ec : (nI c).toInt = (c : Int) := z_nI (by omega)
    have hT : TI (bsT S z j c) := setT_TI (tz_TI hS) (by rcases hA with ⟨rfl, rfl, rfl, rfl, rfl⟩ | ⟨rfl, rfl, rfl, rfl, rfl⟩ <;> omega)
    have hTy : (bsT S z j c 1).toInt ≤ 999 := by unfold bsT; rw [setT_o (by omega), tz_lo (by omega)]; exact hy
    obtain ⟨g1, g2, g3, g4⟩ := go_s hT hTy ha
    obtain ⟨m1, p1, p2, p3⟩ := bec_s (z := z) hS hr
    have hr2 : RC 11 (mset m1 11 f (nI c)) (bsT S z j c) := RC_head p2 (by omega)
    obtain ⟨m2, s1, s2, s3⟩ := g3 _ hr2
    have fr : FrC 11 m m2 := FrC.tr p3 (FrC.tr (fun i hi => by funext j; exact mset_oo (by omega)) s3)
    have tk := X2_allTaken_s s2 g1.nT7
    have hr3 : RC 1 m2 S := hr.cg (fun i h1 h2 => fr i (by omega)) n7.1
    have tot := bsT_tot (z := z) hS hy (c := c) (show j = 2 ∨ j = 3 by omega) hT ha
    obtain ⟨y1, y2, y3, y4⟩ := sums_z g1
    have x3 : X3_bestSet_L37 (nI a) A (fuel + 1) w6 w7 (nI c) m = if sT (fun c_1 => yT a (bsT S z j c) (kx c_1 5)) (nT (yT a (bsT S z j c))) ≤ w7 then X3_bestSet_L37 (nI a) A fuel w6 w7 (nI (c + 1)) m2 else X3_bestSet_L37 (nI a) A fuel (nI c) (sT (fun c_1 => yT a (bsT S z j c) (kx c_1 5)) (nT (yT a (bsT S z j c)))) (nI (c + 1)) m2 := by
      conv => lhs; unfold X3_bestSet_L37 X3_mostChoice
      rcases hA with ⟨rfl, rfl, rfl, rfl, rfl⟩ | ⟨rfl, rfl, rfl, rfl, rfl⟩
      · rw [if_pos rfl, if_neg (by rw [z_lt, ec, t40]; omega), ob_y p1, ch0, rg_ok (by rw [ec, t0, t40]; omega), if_pos rfl, nm2_q, ob_y s1, tk, ob_y rfl, ob_y rfl, nm_q, nm_q, nI_1]
      · rw [if_neg e01, if_neg (by rw [z_lt, ec, t9]; omega), ob_y p1, ch1, rg_ok (by rw [ec, t1, t9]; omega), if_pos rfl, nm2_q, ob_y s1, tk, ob_y rfl, ob_y rfl, nm_q, nm_q, nI_1]
    have hb' : (w7 = -1 ∧ u9 = -1 ∧ u10 = 1) ∨ Bs (zA S + zK S) w6 w7 u8 u9 u10 := by
      rcases hb with ⟨-, h⟩ | h
      · exact Or.inl h
      · exact Or.inr h
    have x4 : ∀ m', m' 36 = S → Hi z m' → ∃ m3, FrM 37 m' m3 ∧ m3 36 = S ∧ Hi z m3 ∧ X4_bestSet_L45 (nI a) A (fuel + 1) u8 u9 u10 (nI c) m' = (let t := sT (fun c_1 => yT a (bsT S z j c) (kx c_1 5)) (nT (yT a (bsT S z j c))); let am := sT (fun c_1 => yT a (bsT S z j c) (kx c_1 2)) (nT (yT a (bsT S z j c))); if lg_cmp (t.toInt64 + am.toInt64) 0 = 0 then (if 0 < lg_cmp (t.toInt64 * u10) (u9 * 1) then X4_bestSet_L45 (nI a) A fuel (nI c) t.toInt64 1 (nI (c + 1)) m3 else X4_bestSet_L45 (nI a) A fuel u8 u9 u10 (nI (c + 1)) m3) else (if 0 < lg_cmp (t.toInt64 * u10) (u9 * (t.toInt64 + am.toInt64)) then X4_bestSet_L45 (nI a) A fuel (nI c) t.toInt64 (t.toInt64 + am.toInt64) (nI (c + 1)) m3 else X4_bestSet_L45 (nI a) A fuel u8 u9 u10 (nI (c + 1)) m3)) := fun m' h3 h4 => by
      obtain ⟨m2', l1, l2, l3⟩ := lay_s h3 h4
      obtain ⟨m3, w1, w2, w3⟩ := g4 (mset m2' 37 j (nI c)) (mset_setT l2)
      have fr4 : FrM 37 m' m3 := FrM.tr ⟨fun i h1 h2 => l3 i h1, fun k h1 h2 => congrFun (l3 35 (by omega)) k⟩ (FrM.tr ⟨fun i h1 h2 => by funext j; exact mset_oo h1, fun k h1 h2 => mset_oo (by omega)⟩ w3)
      refine ⟨m3, fr4, (fr4.1 36 (by omega) (by omega)).trans h3, fun j' hj' => ?_, ?_⟩
      · rw [w2, yT_hi hT.nT7.1 hj']
        unfold bsT; rw [setT_o (by omega), tz_hi hj']
      · have su2 := X4_sumOf_2 w2 g1.nT7
        have su5 := X4_sumOf_5 w2 g1.nT7
        conv => lhs; unfold X4_bestSet_L45
        rcases hA with ⟨rfl, rfl, rfl, rfl, rfl⟩ | ⟨rfl, rfl, rfl, rfl, rfl⟩
        · rw [if_pos rfl, if_neg (by rw [z_lt, ec, t40]; omega), ob_y l1, gd_y v20, c20, nm_q, ob_y w1, ob_y su5, nm_q, ob_y su2, nm_q]
          simp only [nm_q, nI_1]
        · rw [if_neg e01, if_neg (by rw [z_lt, ec, t9]; omega), ob_y l1, gd_y v21, c21, nm_q, ob_y w1, ob_y su5, nm_q, ob_y su2, nm_q]
          simp only [nm_q, nI_1]
    generalize sT (fun c_1 => yT a (bsT S z j c) (kx c_1 5)) (nT (yT a (bsT S z j c))) = t at x3 x4 y2
    generalize sT (fun c_1 => yT a (bsT S z j c) (kx c_1 2)) (nT (yT a (bsT S z j c))) = am at x4 y1
    obtain ⟨c1, c2, c3, c4⟩ := cmp_s (Tot := zA S + zK S) ⟨by omega, by omega⟩ (t := t) (am := am) (by omega) ⟨by omega, by omega⟩ hb'
    by_cases g : t ≤ w7
    · have hbs : Bs (zA S + zK S) w6 w7 u8 u9 u10 := by
        rcases hb' with ⟨h, -⟩ | h
        · exfalso; rw [z_le, h, tn1] at g; omega
        · exact h
      obtain ⟨v, n1, e1, e2, e3⟩ := ih (c + 1) fuel w6 w7 u8 u9 u10 m2 (by omega) (by omega) (by omega) (by omega) hr3 (Or.inr hbs)
      refine ⟨v, n1, by rw [x3, if_pos g, e1], FrC.tr fr e2, fun m' h3 h4 => ?_⟩
      obtain ⟨m3, f3, h5, h6, h7⟩ := x4 m' h3 h4
      obtain ⟨n2, w1, w2⟩ := e3 m3 h5 h6
      refine ⟨n2, ?_, FrM.tr f3 w2⟩
      rw [h7]
      show (if lg_cmp (t.toInt64 + am.toInt64) 0 = 0 then _ else _) = _
      by_cases hz : zA S + zK S = 0
      · rw [if_pos (c2.mpr hz), if_neg (fun q => (c3 hz).mp q g), w1]
      · rw [if_neg (fun q => hz (c2.mp q)), if_neg (fun q => (c4 hz).mp q g), w1]
    · by_cases hz : zA S + zK S = 0
      · obtain ⟨v, n1, e1, e2, e3⟩ := ih (c + 1) fuel (nI c) t (nI c) t.toInt64 1 m2 (by omega) (by omega) (by omega) (by omega) hr3 (Or.inr ⟨rfl, ⟨by omega, by omega⟩, rfl, Or.inl ⟨hz, rfl⟩⟩)
        refine ⟨v, n1, by rw [x3, if_neg g, e1], FrC.tr fr e2, fun m' h3 h4 => ?_⟩
        obtain ⟨m3, f3, h5, h6, h7⟩ := x4 m' h3 h4
        obtain ⟨n2, w1, w2⟩ := e3 m3 h5 h6
        refine ⟨n2, ?_, FrM.tr f3 w2⟩
        rw [h7]
        show (if lg_cmp (t.toInt64 + am.toInt64) 0 = 0 then _ else _) = _
        rw [if_pos (c2.mpr hz), if_pos ((c3 hz).mpr g), w1]
      · obtain ⟨v, n1, e1, e2, e3⟩ := ih (c + 1) fuel (nI c) t (nI c) t.toInt64 (t.toInt64 + am.toInt64) m2 (by omega) (by omega) (by omega) (by omega) hr3 (Or.inr ⟨rfl, ⟨by omega, by omega⟩, rfl, Or.inr ⟨hz, c1⟩⟩)
        refine ⟨v, n1, by rw [x3, if_neg g, e1], FrC.tr fr e2, fun m' h3 h4 => ?_⟩
        obtain ⟨m3, f3, h5, h6, h7⟩ := x4 m' h3 h4
        obtain ⟨n2, w1, w2⟩ := e3 m3 h5 h6
        refine ⟨n2, ?_, FrM.tr f3 w2⟩
        rw [h7]
        show (if lg_cmp (t.toInt64 + am.toInt64) 0 = 0 then _ else _) = _
        rw [if_neg (fun q => hz (c2.mp q)), if_pos ((c4 hz).mpr g), w1]
theorem op_bestSet (a1 a2 : Int32) : Op (X3_bestSet 0 a1 a2) (X4_bestSet 35 a1 a2) := by
  intro m hm
  rcases years_dec a1 with ⟨n, hn, rfl, g3, g4⟩ | ⟨v, hv, v0, g3, g4⟩
  · rcases what_dec a2 1 with ⟨w1, w2, w3, w4⟩ | ⟨w3, w4⟩
    · obtain ⟨k, rfl, hk⟩ := nI_le_of w1 (show a2 ≤ nI 1 from w2) (by omega)
      rcases (by omega : k = 0 ∨ k = 1) with rfl | rfl
      · obtain ⟨v, n1, e1, e2, e3⟩ := best_s (z := m 37) hm.1.2.1 hm.1.2.2 hn (A := 0) (Or.inl ⟨rfl, rfl, rfl, rfl, rfl⟩) 41 0 LF (-9) (-1) 0 (-1) 1 m (by omega) (by omega) (by omega) (LF_big (by omega)) hm.1.1 (Or.inl ⟨rfl, rfl, rfl, rfl⟩)
        obtain ⟨n2, x1, x2⟩ := e3 n1 (e2 36 (by omega)) (fun j _ => by rw [e2 37 (by omega)])
        rw [nI_z] at *
        refine fin_t (v := v) hm (m1 := n1) (m2 := n2) ?_ e2 ?_ x2.f4
        · unfold X3_bestSet X3_leastChoice
          rw [g3, fo0, w3, if_pos rfl, nm_q, if_pos rfl, if_neg e10, nm_q, e1]
        · unfold X4_bestSet
          rw [g4, nm_q, if_pos rfl, w4, if_neg e01, x1]
      · obtain ⟨v, n1, e1, e2, e3⟩ := best_s (z := m 37) hm.1.2.1 hm.1.2.2 hn (A := 1) (Or.inr ⟨rfl, rfl, rfl, rfl, rfl⟩) 9 1 LF (-9) (-1) 1 (-1) 1 m (by omega) (by omega) (by omega) (LF_big (by omega)) hm.1.1 (Or.inl ⟨rfl, rfl, rfl, rfl⟩)
        obtain ⟨n2, x1, x2⟩ := e3 n1 (e2 36 (by omega)) (fun j _ => by rw [e2 37 (by omega)])
        rw [show nI 1 = (1 : Int32) from rfl] at *
        refine fin_t (v := v) hm (m1 := n1) (m2 := n2) ?_ e2 ?_ x2.f4
        · unfold X3_bestSet X3_leastChoice
          rw [g3, fo0, w3, if_pos rfl, nm_q, if_pos rfl, if_pos rfl, nm_q, e1]
        · unfold X4_bestSet
          rw [g4, nm_q, if_pos rfl, w4, if_neg e01, x1]
    · refine ref_t Ft2 hm ?_ (fun m' h => ?_)
      · unfold X3_bestSet; rw [g3, fo0, w3, if_neg em2, nm_q, if_neg em2]
      · unfold X4_bestSet; rw [g4, nm_q, if_pos rfl, w4, if_pos rfl]
  · refine ref_t hv hm ?_ (fun m' h => ?_)
    · unfold X3_bestSet; rw [g3, fo1 v0, nm_q, if_neg v0]
    · unfold X4_bestSet; rw [g4, nm_q, if_neg v0]
