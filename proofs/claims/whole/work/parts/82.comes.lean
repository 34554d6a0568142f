/-! town: c, a cask more -/
def vC (kd sz am st fg : Int32) : Nat → Int32 := fun k => if k = 0 then kd else if k = 1 then sz else if k = 2 then am else if k = 3 then st else if k = 4 then fg else 0
def paT (T V : Nat → Int32) (n w : Nat) : Nat → Int32 := fun y => if kx n 0 ≤ y ∧ y < kx n 0 + w then V (y - kx n 0) else T y
def adT (T V : Nat → Int32) (n : Nat) : Nat → Int32 := fun y => if y = 0 then nI (n + 1) else paT T V n 6 y
theorem paT_0 (T V : Nat → Int32) (n : Nat) : paT T V n 0 = T := by funext y; unfold paT; rw [if_neg (by omega)]
theorem paT_k {T V : Nat → Int32} {n w k : Nat} (h : k < w) : paT T V n w (kx n k) = V k := by
  have e : kx n k = kx n 0 + k := by unfold kx; omega
  unfold paT
  rw [if_pos (by omega), e, Nat.add_sub_cancel_left]
theorem paT_o {T V : Nat → Int32} {n w y : Nat} (h : y < kx n 0 ∨ kx n 0 + w ≤ y) : paT T V n w y = T y := by unfold paT; rw [if_neg (by omega)]
theorem paT_st {T V : Nat → Int32} {n w : Nat} {m : Mm} (h : m 36 = paT T V n w) : mset m 36 (kx n w) (V w) 36 = paT T V n (w + 1) := by
  have e : kx n w = kx n 0 + w := by unfold kx; omega
  funext y
  by_cases g : y = kx n w
  · rw [g, mset_ss, paT_k (by omega)]
  · rw [mset_so g, h]
    unfold paT
    by_cases g2 : kx n 0 ≤ y ∧ y < kx n 0 + w
    · rw [if_pos g2, if_pos (by omega)]
    · rw [if_neg g2, if_neg (by omega)]
theorem adT_k {T V : Nat → Int32} {n k : Nat} (h : k < 6) : adT T V n (kx n k) = V k := by
  unfold adT
  rw [if_neg (by unfold kx; omega), paT_k h]
theorem adT_o {T V : Nat → Int32} {n y : Nat} (h0 : y ≠ 0) (h : y < kx n 0 ∨ kx n 0 + 6 ≤ y) : adT T V n y = T y := by
  unfold adT
  rw [if_neg h0, paT_o h]
theorem adT_c {T V : Nat → Int32} {n c k : Nat} (hc : c < n) (hk : k < 6) : adT T V n (kx c k) = T (kx c k) := adT_o (by unfold kx; omega) (by unfold kx; omega)
theorem adT_nT {T V : Nat → Int32} {n : Nat} (hn : n < 7) : nT (adT T V n) = n + 1 := nT_eq (by omega) (if_pos rfl)
theorem adT_TI {T V : Nat → Int32} (hT : TI T) (hn : nT T < 7) (hV : CI V 0) : TI (adT T V (nT T)) := by
  have hci := @TI.ci T hT
  obtain ⟨n, ⟨h1, h2⟩, h3, h4, h5, h6, h7⟩ := hT
  refine ⟨nT T + 1, ⟨by omega, if_pos rfl⟩, by rw [adT_o (by omega) (by unfold kx; omega)]; exact h3, by rw [adT_o (by omega) (by unfold kx; omega)]; exact h4, by rw [adT_o (by omega) (by unfold kx; omega)]; exact h5, by rw [adT_o (by omega) (by unfold kx; omega)]; exact h6, fun c hc => ?_⟩
  rw [adT_o (by omega) (by unfold kx; omega)]
  by_cases e : c = nT T
  · subst e
    exact (hV.mono (by omega)).cong (fun k hk => adT_k hk)
  · exact (hci (c := c) (by omega)).cong (fun k hk => adT_c (by omega) hk)
theorem cc_s {T V : Nat → Int32} {n : Nat} (h0 : T 0 = nI n) (hn : n < 7) (hV : V 5 = 0) : ∀ t w fuel (m : Mm), t = 5 - w → w ≤ 5 → t < fuel → m 36 = paT T V n w → (∀ k, k < 5 → m 43 k = V k) → ∃ m2, X4_isDone_L101 fuel (nI w) m = some (1, m2) ∧ m2 36 = adT T V n ∧ FrM 36 m m2 := by
  intro t
  induction t with
  | zero =>
    intro w fuel m ht hw hf h1 h2
    have : w = 5 := by omega
    subst this
    obtain ⟨fuel, rfl⟩ : ∃ q, fuel = q + 1 := ⟨fuel - 1, by omega⟩
    have e0 : m 36 0 = nI n := by rw [h1, paT_o (by unfold kx; omega)]; exact h0
    have hm := paT_st h1
    rw [hV] at hm
    refine ⟨mset (mset m 36 (kx n 5) 0) 36 0 (nI (n + 1)), ?_, ?_, FrM.tr FrM36 FrM36⟩
    · unfold X4_isDone_L101
      rw [show (5 : Int32) = nI 5 from rfl, if_pos (nI_yle (by omega) (by omega) (Nat.le_refl _)), e0, gd_y (at_in hn (by omega)), at_cl hn (by omega), nm_q, nm_q, mset_so (show (0 : Nat) ≠ kx n 5 by unfold kx; omega), e0, nI_1]
    · funext y
      unfold adT
      by_cases e : y = 0
      · rw [if_pos e, e, mset_ss]
      · rw [if_neg e, mset_so e, hm]
  | succ t ih =>
    intro w fuel m ht hw hf h1 h2
    obtain ⟨fuel, rfl⟩ : ∃ q, fuel = q + 1 := ⟨fuel - 1, by omega⟩
    have e0 : m 36 0 = nI n := by rw [h1, paT_o (by unfold kx; omega)]; exact h0
    obtain ⟨m2, g1, g2, g3⟩ := ih (w + 1) fuel (mset m 36 (kx n w) (V w)) (by omega) (by omega) (by omega) (paT_st h1) (fun k hk => by rw [mset_oo (by omega)]; exact h2 k hk)
    refine ⟨m2, ?_, g2, FrM.tr FrM36 g3⟩
    conv => lhs; unfold X4_isDone_L101
    rw [show (5 : Int32) = nI 5 from rfl, if_neg (nI_nl2 (by omega) (by omega) (by omega)), e0, gd_y (show vin (nI w) 5 from vp_in_nI (by omega) (by omega)), gd_y (at_in hn (by omega)), at_cl hn (by omega), nI_clamp (by omega), h2 w (by omega), nm_q, nm_q, nI_1]
    exact g1
theorem add_RC {b : Nat} {m : Mm} {T V : Nat → Int32} (hr : RC b m T) (hT : TI T) (hn : nT T < 7) {M : Mm} (hb : ∀ y, y ≠ 2 → M b y = m b y) (hb2 : M b 2 = nI (nT T + 1)) (hM : ∀ k, k < 6 → M (b + 2 + nT T) k = V k) (hM2 : ∀ i, i ≠ b → i ≠ b + 2 + nT T → M i = m i) : RC b M (adT T V (nT T)) := by
  obtain ⟨⟨r0, r1, r2, r3, r4⟩, r5⟩ := hr
  have g : ∀ y, y ≠ 0 → y < 5 → adT T V (nT T) y = T y := fun y h1 h2 => adT_o h1 (by unfold kx; omega)
  refine ⟨⟨by rw [hb2]; exact (if_pos rfl).symm, by rw [hb 6 (by omega), g 1 (by omega) (by omega)]; exact r1, by rw [hb 3 (by omega), g 2 (by omega) (by omega)]; exact r2, by rw [hb 4 (by omega), g 3 (by omega) (by omega)]; exact r3, by rw [hb 5 (by omega), g 4 (by omega) (by omega)]; exact r4⟩, fun c k hc hk => ?_⟩
  rw [adT_nT hn] at hc
  by_cases e : c = nT T
  · subst e; rw [hM k hk, adT_k hk]
  · rw [hM2 _ (by omega) (by omega), r5 c k (by omega) hk, adT_c (by omega) hk]
theorem st_c {L : Nat → Int32} {k : Nat} {m : Mm} (hk : LB L k) (h : LR L k m) {p : Nat} (hp : p ≤ 96) (hc : lt L k p = pf1 52) (G : Gd L k p 52) {T : Nat → Int32} (hT : TI T) (hy : (T 1).toInt ≤ 999) (hr : RC 11 m T) : St L k p 52 T m := by
  have n7 := hT.nT7
  have sf := sf_s hk h hp (by omega) hc
  have fk : fit (lt L k (p + 1)) 107 := gd_at G 1 (by decide) (by decide)
  unfold fit at fk
  rw [if_neg (by decide), if_pos rfl] at fk
  have cm : X3_caskComes 0 (nI p) m = ob2 (X2_addCask 11 (X4_kindOf (lt L k (p + 1))) (num L k (p + 2) 3) (num L k (p + 5) 3) (num L k (p + 8) 2) (num L k (p + 10) 1) m) (fun y4 m5 => some (y4, m5)) := by
    have e1 : X1_kind 31 (nI p + 1) m = some (X4_kindOf (lt L k (p + 1))) := by
      rw [nI_1, x1kind hk h (by omega)]
      unfold kz
      rw [if_neg fk]
    have e2 : X1_number 31 (nI p + 2) 3 m = some (num L k (p + 2) 3) := x1num (a := 2) (d := 3) hk h (by omega) (by omega)
    have e3 : X1_number 31 (nI p + 5) 3 m = some (num L k (p + 5) 3) := x1num (a := 5) (d := 3) hk h (by omega) (by omega)
    have e4 : X1_number 31 (nI p + 8) 2 m = some (num L k (p + 8) 2) := x1num (a := 8) (d := 2) hk h (by omega) (by omega)
    have e5 : X1_number 31 (nI p + 10) 1 m = some (num L k (p + 10) 1) := x1num (a := 10) (d := 1) hk h (by omega) (by omega)
    unfold X3_caskComes
    rw [e1, ob_y rfl, e2, ob_y rfl, e3, ob_y rfl, e4, ob_y rfl, e5, ob_y rfl]
  rw [if_pos (by decide), cm] at sf
  have hkd : 0 ≤ (X4_kindOf (lt L k (p + 1))).toInt ∧ (X4_kindOf (lt L k (p + 1))).toInt ≤ 5 := by
    rcases kof_n (lt L k (p + 1)) with e | e | e | e | e | e | e <;> rw [e] at fk ⊢
    · decide
    · decide
    · decide
    · decide
    · decide
    · decide
    · exact absurd (by decide) fk
  have d57 : ∀ j, 2 ≤ j → j ≤ 10 → fit (lt L k (p + j)) 57 := fun j h1 h2 => gd_at G j (by show j < 12; omega) (by
    rcases (by omega : j = 2 ∨ j = 3 ∨ j = 4 ∨ j = 5 ∨ j = 6 ∨ j = 7 ∨ j = 8 ∨ j = 9 ∨ j = 10) with rfl | rfl | rfl | rfl | rfl | rfl | rfl | rfl | rfl <;> decide)
  obtain ⟨s1, s2⟩ := num_3 (d57 2 (by omega) (by omega)) (d57 3 (by omega) (by omega)) (d57 4 (by omega) (by omega))
  obtain ⟨a1, a2⟩ := num_3 (d57 5 (by omega) (by omega)) (d57 6 (by omega) (by omega)) (d57 7 (by omega) (by omega))
  obtain ⟨g1, g2⟩ := num_2 (d57 8 (by omega) (by omega)) (d57 9 (by omega) (by omega))
  obtain ⟨f1, f2⟩ := num_1 (d57 10 (by omega) (by omega))
  generalize hkd' : X4_kindOf (lt L k (p + 1)) = kd at *
  generalize hs' : num L k (p + 2) 3 = s at *
  generalize ha' : num L k (p + 5) 3 = a at *
  generalize hg' : num L k (p + 8) 2 = g at *
  generalize hf' : num L k (p + 10) 1 = f at *
  have nn : ∀ m', NN L k p 52 m' → m' 43 0 = kd ∧ m' 43 1 = s ∧ m' 43 2 = a ∧ m' 43 3 = g ∧ m' 43 4 = f := fun m' hN => by
    obtain ⟨x0, x1, x2, x3, x4⟩ := hN.1 rfl
    exact ⟨x0.trans hkd', x1.trans hs', x2.trans ha', x3.trans hg', x4.trans hf'⟩
  have isd : ∀ m', m' 36 = T → NN L k p 52 m' → X4_isDone 35 (pf1 52) m' = if (X4_isIn s 1 400) = 0 then (some (0, m')) else (if s < a then (some (0, m')) else (if T 0 = 7 then (some (0, m')) else (X4_isDone_L101 LF (nI 0) m'))) := fun m' h3 hN => by
    obtain ⟨x0, x1, x2, x3, x4⟩ := nn m' hN
    unfold X4_isDone
    rw [nm_q, nm_q, if_pos (by decide), x1, x2, h3, nI_z]
  have bad : ∀ v, ¬ v = 0 → X2_addCask 11 kd s a g f m = some (v, m) → (∀ m', m' 36 = T → NN L k p 52 m' → X4_isDone 35 (pf1 52) m' = some (0, m')) → St L k p 52 T m := fun v v0 e1 e2 => by
    refine Or.inr ⟨v, m, ?_, v0, FrC.rf, fun m' h3 hN => ⟨m', e2 m' h3 hN, FrM.rf⟩⟩
    rw [sf, e1, ob2_y rfl, ob2_y rfl]
  have af : ∀ v, ¬ v = 0 → X3_firstOf (X3_rangeFault s 1 400) (X3_rangeFault a 0 s) 0 = v → X3_firstOf (X3_rangeFault s 1 400) (X3_rangeFault a 0 s) (-6) = v → X2_addCask 11 kd s a g f m = some (v, m) := fun v v0 e1 e2 => by
    unfold X2_addCask
    rw [e1, e2, nm_q]
    split <;> rfl
  have i0 : ∀ v : Int32, X4_isIn v 1 400 = 0 ∨ X4_isIn v 1 400 = 1 := fun v => by
    unfold X4_isIn
    (repeat' split) <;> simp
  rcases range_dec s 1 400 with ⟨r1, r2, r3⟩ | ⟨r1, r3⟩ | ⟨r1, r2, r3⟩
  · rw [z_le, t1] at r1
    rw [z_le, t400] at r2
    have ii : ¬ X4_isIn s 1 400 = 0 := by
      unfold X4_isIn
      rw [if_neg (by rw [z_lt, t1]; omega), if_neg (by rw [z_lt, t400]; omega)]
      exact e01
    rcases range_dec a 0 s with ⟨q1, q2, q3⟩ | ⟨q1, q3⟩ | ⟨q1, q2, q3⟩
    · rw [z_le] at q2
      have as : ¬ s < a := by rw [z_lt]; omega
      by_cases hn : nT T < 7
      · have hT0 : ¬ T 0 = 7 := by rw [n7.2]; exact nI_ne (a := nT T) (b := 7) (by omega) (by omega) (by omega)
        have hV : CI (vC kd s a g f) 0 := ⟨hkd, ⟨r1, r2⟩, ⟨a1, q2⟩, ⟨g1, g2⟩, ⟨f1, f2⟩, by show 0 ≤ (0 : Int32).toInt; decide, by show (0 : Int32).toInt ≤ 0; decide⟩
        have ea : ∃ M, X2_addCask 11 kd s a g f m = some (0, M) ∧ (∀ y, y ≠ 2 → M 11 y = m 11 y) ∧ M 11 2 = nI (nT T + 1) ∧ (∀ k, k < 6 → M (11 + 2 + nT T) k = vC kd s a g f k) ∧ ∀ i, i ≠ 11 → i ≠ 11 + 2 + nT T → M i = m i := by
          refine ⟨mset (mset (mset (mset (mset (mset (mset m (11 + 2 + nT T) 0 kd) (11 + 2 + nT T) 1 s) (11 + 2 + nT T) 2 a) (11 + 2 + nT T) 3 g) (11 + 2 + nT T) 4 f) (11 + 2 + nT T) 5 0) 11 2 (nI (nT T + 1)), ?_, fun y hy => ?_, mset_ss, fun k hk => ?_, fun i h1 h2 => ?_⟩
          · have e11 : ∀ y, mset (mset (mset (mset (mset (mset m (11 + 2 + nT T) 0 kd) (11 + 2 + nT T) 1 s) (11 + 2 + nT T) 2 a) (11 + 2 + nT T) 3 g) (11 + 2 + nT T) 4 f) (11 + 2 + nT T) 5 0 11 y = m 11 y := fun y => by rw [mset_oo (by omega), mset_oo (by omega), mset_oo (by omega), mset_oo (by omega), mset_oo (by omega), mset_oo (by omega)]
            unfold X2_addCask
            rw [hr.1.1, n7.2, if_pos (show nI (nT T) < 7 from (nI_lt_iff (a := nT T) (b := 7) (by omega) (by omega)).mpr hn), r3, q3, fo0, if_pos rfl, nm_q, if_pos rfl, X2_at_s hn, ob_y rfl, nm_q, nm_q, nm_q, nm_q, nm_q, nm_q, nm_q, e11, hr.1.1, n7.2, nI_1]
          · rw [mset_so hy, mset_oo (by omega), mset_oo (by omega), mset_oo (by omega), mset_oo (by omega), mset_oo (by omega), mset_oo (by omega)]
          · have hne : 11 + 2 + nT T ≠ 11 := by omega
            rcases (by omega : k = 0 ∨ k = 1 ∨ k = 2 ∨ k = 3 ∨ k = 4 ∨ k = 5) with rfl | rfl | rfl | rfl | rfl | rfl <;> rw [mset_oo hne] <;> simp [mset, vC]
          · funext y
            rw [mset_oo h1, mset_oo h2, mset_oo h2, mset_oo h2, mset_oo h2, mset_oo h2, mset_oo h2]
        obtain ⟨M, w0, w1, w2, w3, w4⟩ := ea
        refine Or.inl ⟨adT T (vC kd s a g f) (nT T), M, by rw [sf, w0, ob2_y rfl, ob2_y rfl], add_RC hr hT hn w1 w2 w3 w4, adT_TI hT hn hV, by rw [adT_o (by omega) (by unfold kx; omega)]; exact hy, fun i hi => w4 i (by omega) (by omega), fun m' h3 hN => ?_⟩
        obtain ⟨x0, x1, x2, x3, x4⟩ := nn m' hN
        obtain ⟨m2, y1, y2, y3⟩ := cc_s (T := T) (V := vC kd s a g f) n7.2 hn rfl 5 0 LF m' (by omega) (by omega) (LF_big (by omega)) (by rw [paT_0]; exact h3) (fun k hk => by
          rcases (by omega : k = 0 ∨ k = 1 ∨ k = 2 ∨ k = 3 ∨ k = 4) with rfl | rfl | rfl | rfl | rfl
          · exact x0
          · exact x1
          · exact x2
          · exact x3
          · exact x4)
        exact ⟨m2, by rw [isd m' h3 hN, if_neg ii, if_neg as, if_neg hT0, y1], y2, y3⟩
      · have hn7 : nT T = 7 := by omega
        have hT0 : T 0 = 7 := by rw [n7.2, hn7]; rfl
        refine bad (-6) em6 ?_ (fun m' h3 hN => by rw [isd m' h3 hN, if_neg ii, if_neg as, if_pos hT0])
        unfold X2_addCask
        rw [hr.1.1, hT0, if_neg (by decide), r3, q3, fo0, if_pos rfl, nm_q, if_neg em6]
    · rw [z_le, t0] at q1; omega
    · have as : s < a := by rw [z_le] at q2; rw [z_lt]; omega
      exact bad (-6) em6 (af (-6) em6 (by rw [r3, q3, fo0, if_neg em6]) (by rw [r3, q3, fo0, if_neg em6])) (fun m' h3 hN => by rw [isd m' h3 hN, if_neg ii, if_pos as])
  · rw [z_le, t1] at r1
    exact bad (-4) em4 (af (-4) em4 (by rw [r3, fo1 em4]) (by rw [r3, fo1 em4])) (fun m' h3 hN => by rw [isd m' h3 hN, if_pos (by unfold X4_isIn; rw [if_pos (by rw [z_lt, t1]; omega)])])
  · rw [z_le, t1] at r1
    rw [z_le, t400] at r2
    exact bad (-6) em6 (af (-6) em6 (by rw [r3, fo1 em6]) (by rw [r3, fo1 em6])) (fun m' h3 hN => by rw [isd m' h3 hN, if_pos (by unfold X4_isIn; rw [if_neg (by rw [z_lt, t1]; omega), if_pos (by rw [z_lt, t400]; omega)])])
