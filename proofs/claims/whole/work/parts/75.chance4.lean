/-! chance: all rows of Lents -/
theorem zb0_le (w : Nat) : ∀ n, zb0 w n ≤ n := by
  intro n
  induction n with
  | zero => exact Nat.le_refl 0
  | succ n ih =>
    show zb0 w n + _ ≤ n + 1
    split <;> omega
theorem pw_in8 {b : Int64} (hb : 0 ≤ b.toInt ∧ b.toInt ≤ 20) {k : Nat} (hk : k ≤ 8) : 0 ≤ (pw b k).toInt ∧ (pw b k).toInt ≤ 25600000000 := by
  obtain ⟨h1, h2⟩ := pw_in hb k hk
  have h3 : (20 : Int) ^ k ≤ 25600000000 := by
    rcases (by omega : k = 0 ∨ k = 1 ∨ k = 2 ∨ k = 3 ∨ k = 4 ∨ k = 5 ∨ k = 6 ∨ k = 7 ∨ k = 8) with rfl | rfl | rfl | rfl | rfl | rfl | rfl | rfl | rfl <;> decide
  exact ⟨h1, by omega⟩
theorem abl_s {S z : Nat → Int32} (hS : TI S) (hy : (S 1).toInt ≤ 999) {c n w : Nat} (hn : n ≤ 8) (hc : c < nT S) (hw : w < 256) {a30 a31 a33 a34 : Int32} {a35 wq : Int64} {k4 : Int64 → Int32 → Mm → Option (Int64 × Mm)} {m : Mm} (hr : RC 1 m S) :
    ∃ a m1, X3_amountByLents 0 (nI c) (nI n) (nI w) m = some (a, m1) ∧ FrC 11 m m1 ∧ ∀ m', m' 37 = tz S z → ∃ m2, X4_chance_L136 a30 a31 (nI n) a33 a34 wq a35 (nI w) k4 LF 1 0 m' = k4 (pw (a33 - 1).toInt64 (zb0 w n)) (nI n) m2 ∧ m2 37 (kx c 2) = a ∧ FrM 37 m' m2 ∧ Hi z m2 := by
  have n7 := hS.nT7
  obtain ⟨g1, g2⟩ := X0_become_s (o := 11 + 2 + c) (p := 1 + 2 + c) (by omega) m
  generalize hM : X0_become (11 + 2 + c) (1 + 2 + c) m = M at g1 g2
  have fr : FrC 11 m M := fun i hi => g2 i (by omega)
  obtain ⟨a, m1, p1, p2, p3⟩ := al_s hS hy hn hc hw (a30 := a30) (a31 := a31) (a33 := a33) (a34 := a34) (a35 := a35) (wq := wq) (k4 := k4) n 0 LF M (tz S z) (by omega) (by omega) (LF_big (by omega)) (hr.cg (fun i h1 h2 => fr i (by omega)) n7.1) (tz_TI hS) tz_nT (by rw [tz_lo (by omega)]; simp) (tz_lo (by omega)) (fun k hk => by
    rw [g1 k hk, hr.2 c k hc hk, tz_lo (by unfold kx; omega)])
  rw [nI_z] at p1
  refine ⟨a, m1, ?_, FrC.tr fr p2, fun m' h => ?_⟩
  · unfold X3_amountByLents
    rw [X2_at_s (by omega), ob_y rfl, X2_at_s (by omega), ob_y rfl, hM, nm_q, p1]
  · obtain ⟨m2, q1, q2, q3, q4⟩ := p3 m' h
    rw [nI_z, show zb0 w 0 = 0 from rfl, show pw (a33 - 1).toInt64 0 = 1 from rfl] at q1
    exact ⟨m2, q1, q2, q3, fun j hj => by rw [q4 j hj, tz_hi hj]⟩
theorem cl_s {S z : Nat → Int32} (hS : TI S) (hy : (S 1).toInt ≤ 999) {c n P : Nat} (hn : n ≤ 8) (hP : P = 2 ^ n) (hc : c < nT S) {v t a7 : Int32} (ht : 2 ≤ t.toInt ∧ t.toInt ≤ 20) {wq : Int64} {k4 : Int64 → Int32 → Mm → Option (Int64 × Mm)} : ∀ (k w fuel : Nat) (s : Int64) (m : Mm), k = P - w → w ≤ P → k < fuel → RC 1 m S → 0 ≤ s.toInt → s.toInt ≤ (w : Int) * 25600000000 →
    ∃ s' m1, X3_chance_L44 (nI c) v (nI n) t a7 fuel s (nI w) m = ob (X3_power t.toInt64 (nI n)) (fun y12 => ob (X3_partOf s' y12 a7) (fun y13 => some (y13, m1))) ∧ FrC 11 m m1 ∧ 0 ≤ s'.toInt ∧ ∀ m', m' 36 = S → Hi z m' → ∃ m2, X4_chance_L111 (nI c) v (nI n) t a7 wq k4 fuel s (nI w) m' = k4 s' (nI P) m2 ∧ FrM 37 m' m2 := by
  have n7 := hS.nT7
  have hc7 : c < 7 := by omega
  have hP8 : P ≤ 256 := by
    rw [hP]
    exact Nat.le_trans (Nat.pow_le_pow_right (by omega) hn) (by decide)
  have hsh : (1 : Int32) <<< (nI n &&& 31) = nI P := by rw [hP]; exact shl_s n (by omega)
  have hb : 0 ≤ ((t - 1).toInt64).toInt ∧ ((t - 1).toInt64).toInt ≤ 20 := by
    rw [l_of, z_sub (by rw [t1]; omega) (by rw [t1]; omega), t1]; omega
  intro k
  induction k with
  | zero =>
    intro w fuel s m hk hw hf hr h0 h1
    have : w = P := by omega
    subst this
    obtain ⟨fuel, rfl⟩ : ∃ q, fuel = q + 1 := ⟨fuel - 1, by omega⟩
    have q : nI w ≤ nI w := (nI_le_iff (by omega) (by omega)).mpr (Nat.le_refl _)
    refine ⟨s, m, ?_, FrC.rf, h0, fun m' h3 _ => ⟨m', ?_, FrM.rf⟩⟩
    · unfold X3_chance_L44; rw [hsh, if_pos q]
    · unfold X4_chance_L111; rw [hsh, if_pos q]
  | succ k ih =>
    intro w fuel s m hk hw hf hr h0 h1
    obtain ⟨fuel, rfl⟩ : ∃ q, fuel = q + 1 := ⟨fuel - 1, by omega⟩
    have q : ¬ nI P ≤ nI w := by rw [nI_le_iff (by omega) (by omega)]; omega
    obtain ⟨a, m1, p1, p2, p3⟩ := abl_s (z := z) hS hy (w := w) hn hc (by omega) (a30 := nI c) (a31 := v) (a33 := t) (a34 := a7) (a35 := wq) (wq := s) (k4 := fun v60 _ m62 => gd (vin (X4_at (nI c) 2) 47) (if (m62 37 ((X4_at (nI c) 2)).toNatClampNeg) < v then (nm (s + 0) (fun v65 => nm (nI w + 1) (fun v66 => X4_chance_L111 (nI c) v (nI n) t a7 wq k4 fuel v65 v66 m62))) else (nm (s + v60) (fun v67 => nm (nI w + 1) (fun v68 => X4_chance_L111 (nI c) v (nI n) t a7 wq k4 fuel v67 v68 m62))))) hr
    have hr1 : RC 1 m1 S := hr.cg (fun i h1 h2 => p2 i (by omega)) n7.1
    have zl := zb0_le w n
    obtain ⟨b1, b2⟩ := pw_in8 hb (k := zb0 w n) (by omega)
    have x4 : ∀ m', m' 36 = S → Hi z m' → ∃ m3, FrM 37 m' m3 ∧ m3 36 = S ∧ Hi z m3 ∧ X4_chance_L111 (nI c) v (nI n) t a7 wq k4 (fuel + 1) s (nI w) m' = if a < v then X4_chance_L111 (nI c) v (nI n) t a7 wq k4 fuel (s + 0) (nI (w + 1)) m3 else X4_chance_L111 (nI c) v (nI n) t a7 wq k4 fuel (s + pw (t - 1).toInt64 (zb0 w n)) (nI (w + 1)) m3 := fun m' h3 h4 => by
      obtain ⟨m2', l1, l2, l3⟩ := lay_s h3 h4
      obtain ⟨m3, w1, w2, w3, w4⟩ := p3 m2' l2
      have fr4 : FrM 37 m' m3 := FrM.tr ⟨fun i h1 h2 => l3 i h1, fun k h1 h2 => congrFun (l3 35 (by omega)) k⟩ w3
      refine ⟨m3, fr4, (fr4.1 36 (by omega) (by omega)).trans h3, w4, ?_⟩
      conv => lhs; unfold X4_chance_L111
      rw [hsh, if_neg q, ob_y l1, w1, gd_y (at_in2 hc7), at_cl2 hc7, w2, nm_q, nm_q, nm_q, nm_q, nI_1]
    by_cases g : a < v
    · obtain ⟨s', n1, e1, e2, e3, e4⟩ := ih (w + 1) fuel s m1 (by omega) (by omega) (by omega) hr1 h0 (by omega)
      refine ⟨s', n1, ?_, FrC.tr p2 e2, e3, fun m' h3 h4 => ?_⟩
      · conv => lhs; unfold X3_chance_L44
        rw [hsh, if_neg q, ob2_y p1, if_pos g, nm_q, nI_1, e1]
      · obtain ⟨m3, f3, h5, h6, h7⟩ := x4 m' h3 h4
        obtain ⟨n2, w1, w2⟩ := e4 m3 h5 h6
        exact ⟨n2, by rw [h7, if_pos g, Int64.add_zero, w1], FrM.tr f3 w2⟩
    · have es : (s + pw (t - 1).toInt64 (zb0 w n)).toInt = s.toInt + (pw (t - 1).toInt64 (zb0 w n)).toInt := l_add (by omega) (by omega)
      obtain ⟨s', n1, e1, e2, e3, e4⟩ := ih (w + 1) fuel (s + pw (t - 1).toInt64 (zb0 w n)) m1 (by omega) (by omega) (by omega) hr1 (by omega) (by omega)
      refine ⟨s', n1, ?_, FrC.tr p2 e2, e3, fun m' h3 h4 => ?_⟩
      · conv => lhs; unfold X3_chance_L44
        rw [hsh, if_neg q, ob2_y p1, if_neg g, bitc n (by omega) w (by omega) (by omega), power_s (by omega), ob_y rfl, nm_q, nm_q, nI_1, e1]
      · obtain ⟨m3, f3, h5, h6, h7⟩ := x4 m' h3 h4
        obtain ⟨n2, w1, w2⟩ := e4 m3 h5 h6
        exact ⟨n2, by rw [h7, if_neg g, w1], FrM.tr f3 w2⟩
theorem c88_s {a21 a22 t a25 : Int32} {n : Nat} (hn : n ≤ 8) (m : Mm) : X4_chance_L88 a21 a22 (nI n) t a25 m LF 1 0 = X4_chance_L111 a21 a22 (nI n) t a25 (pw t.toInt64 n) (fun v69 _ m71 => ob (X4_partOf v69 (pw t.toInt64 n) a25) (fun y72 => some (y72, m71))) LF 0 0 m := by
  have key : ∀ (k i fuel : Nat), k = n - i → i ≤ n → k < fuel → X4_chance_L88 a21 a22 (nI n) t a25 m fuel (pw t.toInt64 i) (nI i) = X4_chance_L111 a21 a22 (nI n) t a25 (pw t.toInt64 n) (fun v69 _ m71 => ob (X4_partOf v69 (pw t.toInt64 n) a25) (fun y72 => some (y72, m71))) LF 0 0 m := by
    intro k
    induction k with
    | zero =>
      intro i fuel hk hi hf
      have : i = n := by omega
      subst this
      obtain ⟨fuel, rfl⟩ : ∃ q, fuel = q + 1 := ⟨fuel - 1, by omega⟩
      conv => lhs; unfold X4_chance_L88
      rw [if_pos ((nI_le_iff (by omega) (by omega)).mpr (Nat.le_refl _))]
    | succ k ih =>
      intro i fuel hk hi hf
      obtain ⟨fuel, rfl⟩ : ∃ q, fuel = q + 1 := ⟨fuel - 1, by omega⟩
      conv => lhs; unfold X4_chance_L88
      rw [if_neg (by rw [nI_le_iff (by omega) (by omega)]; omega), nm_q, nm_q, nI_1]
      exact ih (i + 1) fuel (by omega) (by omega) (by omega)
  have := key n 0 LF (by omega) (by omega) (LF_big (by omega))
  rw [nI_z, show pw t.toInt64 0 = 1 from rfl] at this
  exact this
theorem op_chance (a1 a2 a3 a4 a5 : Int32) : Op (X3_chance 0 a1 a2 a3 a4 a5) (X4_chance 35 a1 a2 a3 a4 a5) := by
  intro m hm
  rcases cask_dec hm a1 with ⟨c, rfl, hc, hc7, f3, f4⟩ | ⟨f3, f4⟩
  · have ref : ∀ v, Ft v → ¬ v = 0 → X3_chanceFault a2 a3 a4 = v → (∀ m', m' 36 = m 36 → X4_chance 35 (nI c) a2 a3 a4 a5 m' = ob2 (X4_noWide 35 v m') (fun y m => some (y, m))) → ∃ v m1 m2, X3_chance 0 (nI c) a2 a3 a4 a5 m = some (v, m1) ∧ X4_chance 35 (nI c) a2 a3 a4 a5 m1 = some (v, m2) ∧ R m2 := by
      intro v hv v0 g3 g4
      refine ref_w hv hm ?_ (fun m' h => g4 m' (h 36 (by omega)))
      unfold X3_chance
      rw [f3, fo0, g3, if_neg v0, nm_q, if_neg v0]
    by_cases x1 : a2 < 0
    · exact ref (-4) Ft4 em4 (by unfold X3_chanceFault; rw [if_pos x1]) (fun m' h => by unfold X4_chance; rw [f4 m' h, if_neg e01, if_pos x1])
    by_cases x2 : a3 < 0
    · exact ref (-4) Ft4 em4 (by unfold X3_chanceFault; rw [if_neg x1, if_pos x2]) (fun m' h => by unfold X4_chance; rw [f4 m' h, if_neg e01, if_neg x1, if_pos x2])
    by_cases x3 : 2 ≤ a4
    rotate_left
    · exact ref (-4) Ft4 em4 (by unfold X3_chanceFault; rw [if_neg x1, if_neg x2, if_neg x3]) (fun m' h => by unfold X4_chance; rw [f4 m' h, if_neg e01, if_neg x1, if_neg x2, if_neg x3])
    by_cases x4 : 400 < a2
    · exact ref (-6) Ft6 em6 (by unfold X3_chanceFault; rw [if_neg x1, if_neg x2, if_pos x3, if_pos x4]) (fun m' h => by unfold X4_chance; rw [f4 m' h, if_neg e01, if_neg x1, if_neg x2, if_pos x3, if_pos x4])
    by_cases x5 : 8 < a3
    · exact ref (-6) Ft6 em6 (by unfold X3_chanceFault; rw [if_neg x1, if_neg x2, if_pos x3, if_neg x4, if_pos x5]) (fun m' h => by unfold X4_chance; rw [f4 m' h, if_neg e01, if_neg x1, if_neg x2, if_pos x3, if_neg x4, if_pos x5])
    by_cases x6 : a4 ≤ 20
    rotate_left
    · exact ref (-6) Ft6 em6 (by unfold X3_chanceFault; rw [if_neg x1, if_neg x2, if_pos x3, if_neg x4, if_neg x5, if_neg x6]) (fun m' h => by unfold X4_chance; rw [f4 m' h, if_neg e01, if_neg x1, if_neg x2, if_pos x3, if_neg x4, if_neg x5, if_neg x6])
    have g3 : X3_chanceFault a2 a3 a4 = 0 := by unfold X3_chanceFault; rw [if_neg x1, if_neg x2, if_pos x3, if_neg x4, if_neg x5, if_pos x6]
    rcases what_dec a5 1 with ⟨w1, w2, w3, w4⟩ | ⟨w3, w4⟩
    · have y2 := x2
      have y5 := x5
      rw [z_lt, t0] at y2
      rw [z_lt, show (8 : Int32).toInt = 8 from rfl] at y5
      obtain ⟨n, rfl, -, hn⟩ := z_of (x := a3) (by omega)
      have hn8 : n ≤ 8 := by omega
      have ht : 2 ≤ a4.toInt ∧ a4.toInt ≤ 20 := ⟨by rw [z_le, t2] at x3; exact x3, by rw [z_le, show (20 : Int32).toInt = 20 from rfl] at x6; exact x6⟩
      have hP8 : 2 ^ n ≤ 256 := Nat.le_trans (Nat.pow_le_pow_right (by omega) hn8) (by decide)
      obtain ⟨s', m1, e1, e2, e3, e4⟩ := cl_s (z := m 37) hm.1.2.1 hm.1.2.2 hn8 (P := 2 ^ n) rfl hc (v := a2) (t := a4) (a7 := a5) ht (wq := pw a4.toInt64 n) (k4 := fun v69 _ m71 => ob (X4_partOf v69 (pw a4.toInt64 n) a5) (fun y72 => some (y72, m71))) (2 ^ n) 0 LF 0 m rfl (Nat.zero_le _) (LF_big (by omega)) hm.1.1 (by rw [L0]; omega) (by rw [L0]; omega)
      obtain ⟨m2, q1, q2⟩ := e4 m1 (e2 36 (by omega)) (fun j _ => congrFun (e2 37 (by omega)) j)
      obtain ⟨b1, b2⟩ := pw_in8 (b := a4.toInt64) (by rw [l_of]; omega) hn8
      obtain ⟨v, u1, u2⟩ := part_s (x := s') (y := pw a4.toInt64 n) e3 b1 (by omega) a5
      rw [nI_z] at e1 q1
      refine fin_t (v := v) hm (m1 := m1) (m2 := m2) ?_ e2 ?_ q2.f4
      · unfold X3_chance
        rw [f3, fo0, g3, if_pos rfl, w3, nm_q, if_pos rfl, e1, power_s (by omega), ob_y rfl, u1, ob_y rfl]
      · unfold X4_chance
        rw [f4 m1 (e2 36 (by omega)), if_neg e01, if_neg x1, if_neg x2, if_pos x3, if_neg x4, if_neg x5, if_pos x6, w4, if_neg e01, c88_s hn8, q1, u2, ob_y rfl]
    · refine ref_w Ft2 hm ?_ (fun m' h => ?_)
      · unfold X3_chance; rw [f3, fo0, g3, if_pos rfl, w3, nm_q, if_neg em2]
      · unfold X4_chance; rw [f4 m' (h 36 (by omega)), if_neg e01, if_neg x1, if_neg x2, if_pos x3, if_neg x4, if_neg x5, if_pos x6, w4, if_pos rfl]
  · refine ref_w Ft1 hm ?_ (fun m' h => ?_)
    · unfold X3_chance; rw [f3, fo1 em1, nm_q, if_neg em1]
    · unfold X4_chance; rw [f4 m' (h 36 (by omega)), if_pos rfl]
