/-! the parts that go on year by year -/
theorem hum_s {c : Nat} (hc : c < 7) : ∀ (k i fuel : Nat) (m : Mm) (T : Nat → Int32), k = 201 - i → i ≤ 201 → k < fuel → TI T → c < nT T → (T 1).toInt + k ≤ 1300 → RC 11 m T →
    ∃ v m1, X3_hum_L32 (nI c) fuel (nI i) m = some (v, m1) ∧ FrC 11 m m1 ∧ ∀ m', m' 37 = T → ∃ m2, X4_hum_L27 (nI c) fuel (nI i) m' = some (v, m2) ∧ FrM 37 m' m2 := by
  intro k
  induction k with
  | zero =>
    intro i fuel m T hk hi hf h1 hcn hy h2
    have : i = 201 := by omega
    subst this
    obtain ⟨fuel, rfl⟩ : ∃ q, fuel = q + 1 := ⟨fuel - 1, by omega⟩
    have q : (200 : Int32) < nI 201 := (nI_lt_iff (a := 200) (by omega) (by omega)).mpr (by omega)
    refine ⟨-9, m, ?_, FrC.rf, fun m' h3 => ⟨m', ?_, FrM.rf⟩⟩
    · unfold X3_hum_L32; rw [if_pos q]
    · unfold X4_hum_L27; rw [if_pos q]
  | succ k ih =>
    intro i fuel m T hk hi hf h1 hcn hy h2
    obtain ⟨fuel, rfl⟩ : ∃ q, fuel = q + 1 := ⟨fuel - 1, by omega⟩
    have q : ¬ (200 : Int32) < nI i := fun z => by have := (nI_lt_iff (a := 200) (by omega) (by omega)).mp z; omega
    obtain ⟨y1, y2, y3, yc, ym⟩ := yr_s h1 (by omega)
    obtain ⟨m1, s1, s2, s3⟩ := yc m h2
    obtain ⟨v, n1, e1, e2, e3⟩ := ih (i + 1) fuel m1 (yA T) (by omega) (by omega) (by omega) y1 (by omega) (by omega) s2
    have d2 := h2.2 c 2 hcn (by omega)
    have d5 := h2.2 c 5 hcn (by omega)
    by_cases g : T (kx c 5) ≤ 0
    · refine ⟨v, n1, ?_, FrC.tr s3 e2, fun m' h3 => ?_⟩
      · unfold X3_hum_L32 X0_isHalfTheirs
        rw [if_neg q, X2_at_s hc, ob_y rfl, d2, d5, if_pos g, if_pos rfl, ob_y s1, nm_q, nI_1, e1]
      · obtain ⟨m2, v1, v2, -, -, v5⟩ := ym m' h3
        obtain ⟨n2, w1, w2⟩ := e3 m2 v2
        refine ⟨n2, ?_, FrM.tr v5 w2⟩
        unfold X4_hum_L27
        rw [if_neg q, gd_y (at_in5 hc), at_cl5 hc, h3, if_pos g, ob_y v1, nm_q, nI_1, w1]
    · by_cases g2 : T (kx c 5) < T (kx c 2)
      · refine ⟨v, n1, ?_, FrC.tr s3 e2, fun m' h3 => ?_⟩
        · unfold X3_hum_L32 X0_isHalfTheirs
          rw [if_neg q, X2_at_s hc, ob_y rfl, d2, d5, if_neg g, if_pos g2, if_pos rfl, ob_y s1, nm_q, nI_1, e1]
        · obtain ⟨m2, v1, v2, -, -, v5⟩ := ym m' h3
          obtain ⟨n2, w1, w2⟩ := e3 m2 v2
          refine ⟨n2, ?_, FrM.tr v5 w2⟩
          unfold X4_hum_L27
          rw [if_neg q, gd_y (at_in5 hc), gd_y (at_in2 hc), at_cl5 hc, at_cl2 hc, h3, if_neg g, if_pos g2, ob_y v1, nm_q, nI_1, w1]
      · refine ⟨nI i, m, ?_, FrC.rf, fun m' h3 => ⟨m', ?_, FrM.rf⟩⟩
        · unfold X3_hum_L32 X0_isHalfTheirs
          rw [if_neg q, X2_at_s hc, ob_y rfl, d2, d5, if_neg g, if_neg g2, if_neg e01]
        · unfold X4_hum_L27
          rw [if_neg q, gd_y (at_in5 hc), gd_y (at_in2 hc), at_cl5 hc, at_cl2 hc, h3, if_neg g, if_neg g2]
theorem op_hum (a1 : Int32) : Op (X3_hum 0 a1) (X4_hum 35 a1) := by
  intro m hm
  rcases cask_dec hm a1 with ⟨c, rfl, hc, hc7, f3, f4⟩ | ⟨f3, f4⟩
  · obtain ⟨T, T1, T2, T3, ⟨m1, p1, p2, p3⟩, p4⟩ := mind_s hm
    obtain ⟨v, n1, e1, e2, e3⟩ := hum_s hc7 201 0 LF m1 T (by omega) (by omega) (LF_big (by omega)) T1 (by unfold nT at hc ⊢; rw [T3 0 (by omega)]; exact hc) (by omega) p2
    have pf := FrC.tr p3 e2
    obtain ⟨m2, q1, q2, q3⟩ := p4 n1 (pf 36 (by omega)) (pf 37 (by omega))
    obtain ⟨n2, w1, w2⟩ := e3 m2 q2
    rw [nI_z] at e1 w1
    refine fin_t hm (m1 := n1) (m2 := n2) (v := v) ?_ pf ?_ (Fr4.tr (Fr37 q3) w2.f4)
    · unfold X3_hum
      rw [f3, nm_q, if_pos rfl, ob_y p1, e1]
    · unfold X4_hum
      rw [f4 n1 (pf 36 (by omega)), if_neg e01, ob_y q1, w1]
  · refine ref_t Ft1 hm ?_ (fun m' h => ?_)
    · unfold X3_hum; rw [f3, nm_q, if_neg em1]
    · unfold X4_hum; rw [f4 m' (h 36 (by omega)), if_pos rfl]
theorem exciseIn_s {a : Nat} (ha : a ≤ 200) : ∀ (k i fuel : Nat) (w : Int32) (m : Mm) (T : Nat → Int32), k = a - i → i ≤ a → k < fuel → TI T → (T 1).toInt + k ≤ 1300 → RC 11 m T →
    ∃ v m1, X3_exciseIn_L31 (nI a) fuel w (nI i) m = some (v, m1) ∧ FrC 11 m m1 ∧ ∀ m', m' 37 = T → ∃ m2, X4_exciseIn_L31 (nI a) fuel w (nI i) m' = some (v, m2) ∧ FrM 37 m' m2 := by
  intro k
  induction k with
  | zero =>
    intro i fuel w m T hk hi hf h1 hy h2
    have : i = a := by omega
    subst this
    obtain ⟨fuel, rfl⟩ : ∃ q, fuel = q + 1 := ⟨fuel - 1, by omega⟩
    have q : nI i ≤ nI i := (nI_le_iff (by omega) (by omega)).mpr (Nat.le_refl _)
    refine ⟨w, m, ?_, FrC.rf, fun m' h3 => ⟨m', ?_, FrM.rf⟩⟩
    · unfold X3_exciseIn_L31; rw [if_pos q]
    · unfold X4_exciseIn_L31; rw [if_pos q]
  | succ k ih =>
    intro i fuel w m T hk hi hf h1 hy h2
    obtain ⟨fuel, rfl⟩ : ∃ q, fuel = q + 1 := ⟨fuel - 1, by omega⟩
    have q : ¬ nI a ≤ nI i := by rw [nI_le_iff (by omega) (by omega)]; omega
    obtain ⟨y1, y2, y3, yc, ym⟩ := yr_s h1 (by omega)
    obtain ⟨m1, s1, s2, s3⟩ := yc m h2
    obtain ⟨v, n1, e1, e2, e3⟩ := ih (i + 1) fuel (w + sT (dT (yA T)) (nT (yA T))) m1 (yA T) (by omega) (by omega) (by omega) y1 (by omega) s2
    refine ⟨v, n1, ?_, FrC.tr s3 e2, fun m' h3 => ?_⟩
    · unfold X3_exciseIn_L31
      rw [if_neg q, ob_y s1, X2_dutyOfAll_s s2 y1.nT7, ob_y rfl, nm_q, nm_q, nI_1, e1]
    · obtain ⟨m2, v1, v2, -, -, v5⟩ := ym m' h3
      obtain ⟨n2, w1, w2⟩ := e3 m2 v2
      refine ⟨n2, ?_, FrM.tr v5 w2⟩
      unfold X4_exciseIn_L31
      rw [if_neg q, ob_y v1, X4_exciseAll_s v2 y1.nT7, ob_y rfl, nm_q, nm_q, nI_1, w1]
theorem op_exciseIn (a1 : Int32) : Op (X3_exciseIn 0 a1) (X4_exciseIn 35 a1) := by
  intro m hm
  rcases years_dec a1 with ⟨n, hn, rfl, g3, g4⟩ | ⟨v, hv, v0, g3, g4⟩
  · obtain ⟨T, T1, T2, T3, ⟨m1, p1, p2, p3⟩, p4⟩ := mind_s hm
    obtain ⟨v, n1, e1, e2, e3⟩ := exciseIn_s hn n 0 LF 0 m1 T (by omega) (by omega) (LF_big (by omega)) T1 (by omega) p2
    have pf := FrC.tr p3 e2
    obtain ⟨m2, q1, q2, q3⟩ := p4 n1 (pf 36 (by omega)) (pf 37 (by omega))
    obtain ⟨n2, w1, w2⟩ := e3 m2 q2
    rw [nI_z] at e1 w1
    refine fin_t hm (m1 := n1) (m2 := n2) (v := v) ?_ pf ?_ (Fr4.tr (Fr37 q3) w2.f4)
    · unfold X3_exciseIn
      rw [g3, nm_q, if_pos rfl, ob_y p1, e1]
    · unfold X4_exciseIn
      rw [g4, nm_q, if_pos rfl, ob_y q1, w1]
  · refine ref_t hv hm ?_ (fun m' h => ?_)
    · unfold X3_exciseIn; rw [g3, nm_q, if_neg v0]
    · unfold X4_exciseIn; rw [g4, nm_q, if_neg v0]
def zS (f : Nat → Int) : Nat → Int
  | 0 => 0
  | c + 1 => zS f c + f c
theorem sT_z {f : Nat → Int32} : ∀ n, n ≤ 7 → (∀ c, c < n → 0 ≤ (f c).toInt ∧ (f c).toInt ≤ 10000000) → (sT f n).toInt = zS (fun c => (f c).toInt) n ∧ 0 ≤ zS (fun c => (f c).toInt) n ∧ zS (fun c => (f c).toInt) n ≤ 10000000 * n := by
  intro n
  induction n with
  | zero => intro _ _; exact ⟨rfl, Int.le_refl 0, Int.le_refl 0⟩
  | succ n ih =>
    intro hn h
    obtain ⟨i1, i2, i3⟩ := ih (by omega) (fun c hc => h c (by omega))
    have hl := h n (by omega)
    have e : (sT f (n + 1)).toInt = (sT f n).toInt + (f n).toInt := by
      show (sT f n + f n).toInt = _
      rw [z_add] <;> omega
    show _ = zS _ n + (f n).toInt ∧ 0 ≤ zS _ n + (f n).toInt ∧ zS _ n + (f n).toInt ≤ _
    rw [e, i1]
    omega
theorem zS_eq {f g : Nat → Int} : ∀ n, (∀ c, c < n → f c = g c) → zS f n = zS g n := by
  intro n
  induction n with
  | zero => intro _; rfl
  | succ n ih => intro h; show zS f n + f n = zS g n + g n; rw [ih (fun c hc => h c (by omega)), h n (by omega)]
theorem zS_lin {f g h l : Nat → Int} : ∀ n, (∀ c, c < n → f c + l c = g c + h c) → zS f n + zS l n = zS g n + zS h n := by
  intro n
  induction n with
  | zero => intro _; rfl
  | succ n ih =>
    intro q
    have a := ih (fun c hc => q c (by omega))
    have b := q n (by omega)
    show zS f n + f n + (zS l n + l n) = zS g n + g n + (zS h n + h n)
    omega
/-- all that is taken, before and behind a year -/
theorem taken_s {T : Nat → Int32} (h : TI T) (hy : (T 1).toInt < 1300) : (sT (fun c => yA T (kx c 5)) (nT (yA T))).toInt + (bT T (rT T (lentT T))).toInt = (sT (fun c => T (kx c 5)) (nT T)).toInt + (tT T (rT T (lentT T))).toInt := by
  have hr := rT_in h (lentT T)
  have n7 := h.nT7.1
  have hY : 0 ≤ (T 1).toInt := by obtain ⟨n, -, -, -, -, h6, -⟩ := h; exact h6.1
  have en : nT (yA T) = nT T := y1_nT
  have ci : ∀ c, c < nT T → CI (ck T c) (400 * (T 1).toInt) := fun c hc => h.ci hc
  have a1 := sT_z (f := fun c => T (kx c 5)) (nT T) n7 (fun c hc => by have := (ci c hc).2.2.2.2.2; exact ⟨this.1, by have := this.2; show (T (kx c 5)).toInt ≤ _; unfold ck at this; omega⟩)
  have a2 := sT_z (f := fun c => s_n (ck (gT T) c) (rT T (lentT T))) (nT T) n7 (fun c hc => by
    have := s_n_in (ci c hc) hr
    have q := (ci c hc).2.2.1
    have q2 := (ci c hc).2.1
    simp only [ck_gT]; omega)
  have a3 := sT_z (f := fun c => s_b (ck (gT T) c) (rT T (lentT T)) (T 1 + 1)) (nT T) n7 (fun c hc => by
    have := s_b_in (year := T 1 + 1) (ci c hc) (by omega) hr
    have w := s_n_in (ci c hc) hr
    have q := (ci c hc).2.2.1
    have q2 := (ci c hc).2.1
    simp only [ck_gT]; omega)
  have a4 := sT_z (f := fun c => yA T (kx c 5)) (nT T) n7 (fun c hc => by
    have := s_cY_in (year := T 1 + 1) (ci c hc) (by omega) hr
    have q := this.1.2.2.2.2.2
    simp only [yA_c hc (show 5 < 6 by omega)]
    omega)
  rw [en, a4.1, a1.1]
  unfold tT bT
  rw [a2.1, a3.1]
  refine zS_lin _ (fun c hc => ?_)
  have := (s_cY_in (year := T 1 + 1) (ci c hc) (by omega) hr).2.2
  simp only [yA_c hc (show 5 < 6 by omega), ck_gT]
  rw [this]
  show (ck T c 5).toInt + _ - _ + _ = (ck T c 5).toInt + _
  omega
theorem turns_s : ∀ (k i fuel : Nat) (m : Mm) (T : Nat → Int32), k = 201 - i → i ≤ 201 → k < fuel → TI T → (T 1).toInt + k ≤ 1300 → RC 11 m T →
    ∃ v m1, X3_turns_L13 fuel (nI i) m = some (v, m1) ∧ FrC 11 m m1 ∧ ∀ m', m' 37 = T → ∃ m2, X4_turns_L13 fuel (nI i) m' = some (v, m2) ∧ FrM 37 m' m2 := by
  intro k
  induction k with
  | zero =>
    intro i fuel m T hk hi hf h1 hy h2
    have : i = 201 := by omega
    subst this
    obtain ⟨fuel, rfl⟩ : ∃ q, fuel = q + 1 := ⟨fuel - 1, by omega⟩
    have q : (200 : Int32) < nI 201 := (nI_lt_iff (a := 200) (by omega) (by omega)).mpr (by omega)
    refine ⟨-9, m, ?_, FrC.rf, fun m' h3 => ⟨m', ?_, FrM.rf⟩⟩
    · unfold X3_turns_L13; rw [if_pos q]
    · unfold X4_turns_L13; rw [if_pos q]
  | succ k ih =>
    intro i fuel m T hk hi hf h1 hy h2
    obtain ⟨fuel, rfl⟩ : ∃ q, fuel = q + 1 := ⟨fuel - 1, by omega⟩
    have q : ¬ (200 : Int32) < nI i := fun z => by have := (nI_lt_iff (a := 200) (by omega) (by omega)).mp z; omega
    obtain ⟨y1, y2, y3, yc, ym⟩ := yr_s h1 (by omega)
    obtain ⟨m1, s1, s2, s3⟩ := yc m h2
    obtain ⟨v, n1, e1, e2, e3⟩ := ih (i + 1) fuel m1 (yA T) (by omega) (by omega) (by omega) y1 (by omega) s2
    have tk := taken_s h1 (by omega)
    by_cases g : bT T (rT T (lentT T)) ≤ tT T (rT T (lentT T))
    · refine ⟨v, n1, ?_, FrC.tr s3 e2, fun m' h3 => ?_⟩
      · unfold X3_turns_L13
        rw [if_neg q, X2_allTaken_s h2 h1.nT7, ob_y rfl, ob_y s1, X2_allTaken_s s2 y1.nT7, ob_y rfl, if_pos (by rw [z_le] at g ⊢; omega), nm_q, nI_1, e1]
      · obtain ⟨m2, v1, v2, v3, v4, v5⟩ := ym m' h3
        obtain ⟨n2, w1, w2⟩ := e3 m2 v2
        refine ⟨n2, ?_, FrM.tr v5 w2⟩
        unfold X4_turns_L13
        rw [if_neg q, ob_y v1, v3, v4, if_pos g, nm_q, nI_1, w1]
    · refine ⟨nI i, m1, ?_, s3, fun m' h3 => ?_⟩
      · unfold X3_turns_L13
        rw [if_neg q, X2_allTaken_s h2 h1.nT7, ob_y rfl, ob_y s1, X2_allTaken_s s2 y1.nT7, ob_y rfl, if_neg (by rw [z_le] at g ⊢; omega)]
      · obtain ⟨m2, v1, v2, v3, v4, v5⟩ := ym m' h3
        refine ⟨m2, ?_, v5⟩
        unfold X4_turns_L13
        rw [if_neg q, ob_y v1, v3, v4, if_neg g]
theorem op_turns : Op (X3_turns 0) (X4_turns 35) := by
  intro m hm
  obtain ⟨T, T1, T2, T3, ⟨m1, p1, p2, p3⟩, p4⟩ := mind_s hm
  obtain ⟨v, n1, e1, e2, e3⟩ := turns_s 200 1 LF m1 T (by omega) (by omega) (LF_big (by omega)) T1 (by omega) p2
  have pf := FrC.tr p3 e2
  obtain ⟨m2, q1, q2, q3⟩ := p4 n1 (pf 36 (by omega)) (pf 37 (by omega))
  obtain ⟨n2, w1, w2⟩ := e3 m2 q2
  rw [show nI 1 = (1 : Int32) from rfl] at e1 w1
  refine fin_t hm (m1 := n1) (m2 := n2) (v := v) ?_ pf ?_ (Fr4.tr (Fr37 q3) w2.f4)
  · unfold X3_turns
    rw [ob_y p1, e1]
  · unfold X4_turns
    rw [ob_y q1, w1]
