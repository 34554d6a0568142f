/-! lots -/
def setT (T : Nat → Int32) (j : Nat) (v : Int32) : Nat → Int32 := fun x => if x = j then v else T x
theorem setT_s {T : Nat → Int32} {j : Nat} {v : Int32} : setT T j v j = v := if_pos rfl
theorem setT_o {T : Nat → Int32} {j x : Nat} {v : Int32} (h : x ≠ j) : setT T j v x = T x := if_neg h
theorem setT_nT {T : Nat → Int32} {j : Nat} {v : Int32} (h : j ≠ 0) : nT (setT T j v) = nT T := by unfold nT; rw [setT_o (fun z => h z.symm)]
theorem setT_TI {T : Nat → Int32} (h : TI T) {j : Nat} {v : Int32} (hj : (j = 2 ∧ 0 ≤ v.toInt ∧ v.toInt ≤ 40) ∨ (j = 3 ∧ 1 ≤ v.toInt ∧ v.toInt ≤ 9)) : TI (setT T j v) := by
  obtain ⟨n, ⟨h1, h2⟩, h3, h4, h5, h6, h7⟩ := h
  refine ⟨n, ⟨h1, by rw [setT_o (by omega)]; exact h2⟩, ?_, ?_, by rw [setT_o (by omega)]; exact h5, by rw [setT_o (by omega)]; exact h6, fun c hc => ?_⟩
  · rcases hj with ⟨rfl, g⟩ | ⟨rfl, g⟩
    · rw [setT_s]; exact g
    · rw [setT_o (by omega)]; exact h3
  · rcases hj with ⟨rfl, g⟩ | ⟨rfl, g⟩
    · rw [setT_o (by omega)]; exact h4
    · rw [setT_s]; exact g
  · rw [setT_o (by omega)]
    exact (h7 c hc).cong (fun k hk => setT_o (by unfold kx; omega))
theorem RC_head {b : Nat} {m : Mm} {T : Nat → Int32} (h : RC b m T) {f j : Nat} {v : Int32} (hf : (f = 3 ∧ j = 2) ∨ (f = 4 ∧ j = 3)) : RC b (mset m b f v) (setT T j v) := by
  obtain ⟨⟨r0, r1, r2, r3, r4⟩, r5⟩ := h
  refine ⟨?_, fun c k hc hk => ?_⟩
  · rcases hf with ⟨rfl, rfl⟩ | ⟨rfl, rfl⟩ <;> simp [mset, setT, r0, r1, r2, r3, r4]
  · rw [setT_nT (by omega)] at hc
    rw [mset_oo (by omega), setT_o (by unfold kx; omega)]
    exact r5 c k hc hk
theorem mset_setT {m : Mm} {T : Nat → Int32} {j : Nat} {v : Int32} (h : m 37 = T) : mset m 37 j v 37 = setT T j v := by
  funext x
  unfold setT
  by_cases e : x = j
  · rw [e, mset_ss, if_pos rfl]
  · rw [mset_so e, if_neg e, h]
theorem and_pos (x : Int32) : 0 ≤ (x &&& 2147483647).toInt := by
  show 0 ≤ ((x.toBitVec &&& (2147483647 : Int32).toBitVec)).toInt
  rw [BitVec.toInt_eq_msb_cond, BitVec.msb_and, show ((2147483647 : Int32).toBitVec).msb = false by decide]
  simp
def drw (s : Int32) : Int32 := airem ((s &&& 2147483647) / 256) 9
theorem drw_in (s : Int32) : 0 ≤ (drw s).toInt ∧ (drw s).toInt ≤ 8 := by
  have h := and_pos s
  have t256 : (256 : Int32).toInt = 256 := rfl
  have e : ((s &&& 2147483647) / 256).toInt = (s &&& 2147483647).toInt / 256 := by rw [z_div h (by rw [t256]; omega), t256]
  unfold drw
  rw [z_rem (by rw [e]; omega) (by rw [t9]; omega), t9, e]
  omega
theorem Fr14 {m : Mm} {v : Int32} : Fr4 m (mset m 35 14 v) := ⟨fun i h _ _ _ => by funext j; exact mset_oo h, fun k _ _ _ h => mset_so h⟩
theorem Fr37s {m : Mm} {k : Nat} {v : Int32} : Fr4 m (mset m 37 k v) := Fr37 (fun i h => by funext j; exact mset_oo h)
theorem e90 : ¬ (9 : Int32) = 0 := by decide
theorem lots_s {S z : Nat → Int32} (hS : TI S) (hy : (S 1).toInt ≤ 999) {a : Nat} (ha : a ≤ 20) {q : Int32} : ∀ (k i fuel : Nat) (s w : Int32) (m : Mm), k = a - i → i ≤ a → k < fuel → RC 1 m S →
    ∃ v m1, X3_lots_L39 (nI a) q fuel s w (nI i) m = some (v, m1) ∧ FrC 11 m m1 ∧ ∀ m', m' 36 = S → Hi z m' → m' 35 14 = s → ∃ m2, X4_lots_L52 (nI a) q fuel w (nI i) m' = some (v, m2) ∧ Fr4 m' m2 := by
  have n7 := hS.nT7
  intro k
  induction k with
  | zero =>
    intro i fuel s w m hk hi hf hr
    have : i = a := by omega
    subst this
    obtain ⟨fuel, rfl⟩ : ∃ q, fuel = q + 1 := ⟨fuel - 1, by omega⟩
    have q : nI i ≤ nI i := (nI_le_iff (by omega) (by omega)).mpr (Nat.le_refl _)
    refine ⟨w, m, ?_, FrC.rf, fun m' _ _ _ => ⟨m', ?_, Fr4.rf⟩⟩
    · unfold X3_lots_L39; rw [if_pos q]
    · unfold X4_lots_L52; rw [if_pos q]
  | succ k ih =>
    intro i fuel s w m hk hi hf hr
    obtain ⟨fuel, rfl⟩ : ∃ q, fuel = q + 1 := ⟨fuel - 1, by omega⟩
    have nq : ¬ nI a ≤ nI i := by rw [nI_le_iff (by omega) (by omega)]; omega
    generalize hs : s * 1664525 + 1013904223 = s'
    have dr := drw_in s'
    have ed : (drw s' + 1).toInt = (drw s').toInt + 1 := by rw [z_add (by rw [t1]; omega) (by rw [t1]; omega), t1]
    have hT : TI (setT (tz S z) 3 (drw s' + 1)) := setT_TI (tz_TI hS) (Or.inr ⟨rfl, by omega, by omega⟩)
    have hTy : (setT (tz S z) 3 (drw s' + 1) 1).toInt ≤ 999 := by rw [setT_o (by omega), tz_lo (by omega)]; exact hy
    obtain ⟨g1, g2, g3, g4⟩ := go_s hT hTy (n := 20) (by omega)
    obtain ⟨m1, p1, p2, p3⟩ := bec_s (z := z) hS hr
    have hr2 : RC 11 (mset m1 11 4 (drw s' + 1)) (setT (tz S z) 3 (drw s' + 1)) := RC_head p2 (Or.inr ⟨rfl, rfl⟩)
    obtain ⟨m2, s1, s2, s3⟩ := g3 _ hr2
    have fr : FrC 11 m m2 := FrC.tr p3 (FrC.tr (fun i hi => by funext j; exact mset_oo (by omega)) s3)
    have am := X2_allAmounts_s s2 g1.nT7
    have tk := X2_allTaken_s s2 g1.nT7
    have hr3 : RC 1 m2 S := hr.cg (fun i h1 h2 => fr i (by omega)) n7.1
    have rg : X3_rangeFault (drw s' + 1) 1 9 = 0 := by
      unfold X3_rangeFault
      rw [if_pos (by rw [z_le, t1]; omega), if_pos (by rw [z_le, t9]; omega)]
    have x4 : ∀ m', m' 36 = S → Hi z m' → m' 35 14 = s → ∃ m3, Fr4 m' m3 ∧ m3 36 = S ∧ Hi z m3 ∧ m3 35 14 = s' ∧ X4_lots_L52 (nI a) q (fuel + 1) w (nI i) m' = X4_lots_L52 (nI a) q fuel (w + if q = 0 then sT (fun c => yT 20 (setT (tz S z) 3 (drw s' + 1)) (kx c 2)) (nT (yT 20 (setT (tz S z) 3 (drw s' + 1)))) else sT (fun c => yT 20 (setT (tz S z) 3 (drw s' + 1)) (kx c 5)) (nT (yT 20 (setT (tz S z) 3 (drw s' + 1))))) (nI (i + 1)) m3 := fun m' h3 h4 h5 => by
      obtain ⟨m2', l1, l2, l3⟩ := lay_s h3 h4
      have e14 : m2' 35 14 = s := by rw [l3 35 (by omega), h5]
      obtain ⟨m3, w1, w2, w3⟩ := g4 (mset (mset m2' 35 14 s') 37 3 (drw s' + 1)) (mset_setT (by funext x; rw [mset_oo (by omega), l2]))
      have fr4 : Fr4 m' m3 := Fr4.tr (Fr37 l3) (Fr4.tr (Fr14 (v := s')) (Fr4.tr (Fr37s (k := 3) (v := drw s' + 1)) w3.f4))
      refine ⟨m3, fr4, fr4.at36.trans h3, fun j hj => ?_, ?_, ?_⟩
      · rw [w2, yT_hi hT.nT7.1 hj, setT_o (by omega), tz_hi hj]
      · rw [w3.2 14 (by omega) (by omega), mset_oo (by omega), mset_ss]
      · have su2 := X4_sumOf_2 w2 g1.nT7
        have su5 := X4_sumOf_5 w2 g1.nT7
        have dw : X4_drawn 35 9 m2' = some (drw s', mset m2' 35 14 s') := by
          unfold X4_drawn
          rw [e14, hs, nm_q, gd_y e90, mset_ss]
          rfl
        conv => lhs; unfold X4_lots_L52
        rw [if_neg nq, ob_y l1, ob2_y dw, nm_q]
        have w1' : X4_yearsOn 35 37 20 (mset (mset m2' 35 14 s') 37 3 (drw s' + 1)) = some m3 := w1
        rw [ob_y w1', su2, su5, ob_y rfl, ob_y rfl]
        simp only [nm_q, nI_1]
        by_cases z0 : q = 0
        · rw [if_pos z0, if_pos z0]
        · rw [if_neg z0, if_neg z0]
    have x3 : X3_lots_L39 (nI a) q (fuel + 1) s w (nI i) m = X3_lots_L39 (nI a) q fuel s' (w + if q = 0 then sT (fun c => yT 20 (setT (tz S z) 3 (drw s' + 1)) (kx c 2)) (nT (yT 20 (setT (tz S z) 3 (drw s' + 1)))) else sT (fun c => yT 20 (setT (tz S z) 3 (drw s' + 1)) (kx c 5)) (nT (yT 20 (setT (tz S z) 3 (drw s' + 1))))) (nI (i + 1)) m2 := by
      have dw : X3_drawn s' 9 = some (drw s') := by
        unfold X3_drawn
        rw [if_neg (by decide), gd_y e90]
        rfl
      have s1' : X2_goOn 11 20 (mset m1 11 4 (drw s' + 1)) = some m2 := s1
      conv => lhs; unfold X3_lots_L39 X3_nextSeed
      rw [if_neg nq, hs, nm_q, ob_y p1, ob_y dw, ch1, rg, if_pos rfl, nm2_q, ob_y s1', am, tk, ob_y rfl, ob_y rfl]
      simp only [nm_q, nI_1]
      by_cases z0 : q = 0
      · rw [if_pos z0, if_pos z0]
      · rw [if_neg z0, if_neg z0]
    obtain ⟨v, n1, e1, e2, e3⟩ := ih (i + 1) fuel s' _ m2 (by omega) (by omega) (by omega) hr3
    refine ⟨v, n1, x3.trans e1, FrC.tr fr e2, fun m' h3 h4 h5 => ?_⟩
    obtain ⟨m3, f3, h6, h7, h8, h9⟩ := x4 m' h3 h4 h5
    obtain ⟨n2, w1, w2⟩ := e3 m3 h6 h7 h8
    exact ⟨n2, h9.trans w1, Fr4.tr f3 w2⟩
theorem op_lots (a1 a2 a3 : Int32) : Op (X3_lots 0 a1 a2 a3) (X4_lots 35 a1 a2 a3) := by
  intro m hm
  rcases range_dec a1 1 20 with ⟨g1, g2, g3⟩ | ⟨g1, g3⟩ | ⟨g1, g2, g3⟩
  · rcases what_dec a3 1 with ⟨w1, w2, w3, w4⟩ | ⟨w3, w4⟩
    · obtain ⟨n, rfl, hn⟩ := nI_le_of (n := 20) (by rw [z_le, t1] at g1; rw [z_le, t0]; omega) g2 (by omega)
      obtain ⟨v, n1, e1, e2, e3⟩ := lots_s (z := m 37) hm.1.2.1 hm.1.2.2 hn (q := a3) n 0 LF a2 0 m (by omega) (by omega) (LF_big (by omega)) hm.1.1
      have f1 : Fr4 n1 (mset n1 35 14 a2) := Fr14
      obtain ⟨n2, x1, x2⟩ := e3 (mset n1 35 14 a2) (f1.at36.trans (e2 36 (by omega))) (fun j _ => by rw [mset_oo (by omega), e2 37 (by omega)]) mset_ss
      rw [nI_z] at e1 x1
      refine fin_t (v := v) hm (m1 := n1) (m2 := n2) ?_ e2 ?_ (Fr4.tr f1 x2)
      · unfold X3_lots
        rw [g3, fo0, w3, if_pos rfl, nm_q, if_pos rfl, e1]
      · unfold X4_lots
        rw [if_pos g1, if_pos g2, w4, if_neg e01, nm_q, x1]
    · refine ref_t Ft2 hm ?_ (fun m' h => ?_)
      · unfold X3_lots; rw [g3, fo0, w3, if_neg em2, nm_q, if_neg em2]
      · unfold X4_lots; rw [if_pos g1, if_pos g2, w4, if_pos rfl]
  · refine ref_t Ft4 hm ?_ (fun m' h => ?_)
    · unfold X3_lots; rw [g3, fo1 em4, nm_q, if_neg em4]
    · unfold X4_lots; rw [if_neg g1]
  · refine ref_t Ft6 hm ?_ (fun m' h => ?_)
    · unfold X3_lots; rw [g3, fo1 em6, nm_q, if_neg em6]
    · unfold X4_lots; rw [if_pos g1, if_neg g2]
