/-! pourFor, blend -/
theorem pf_self {m : Mm} (hm : R m) {i : Nat} (hi : i < nT (m 36)) (a : Int32) : X2_pourFault 1 (nI i) (nI i) a m = some (-1) := by
  have n7 := hm.nT
  have cf : X2_caskFault 1 (nI i) m = 0 := by
    unfold X2_caskFault
    rw [if_neg (nI_pos (by omega)), hm.1.1.1.1, n7.2, if_pos ((nI_lt_iff (by omega) (by omega)).mpr hi)]
  unfold X2_pourFault
  rw [if_pos rfl, cf, fo0, if_pos rfl, nm_q, if_neg em1]
theorem pourFor_in {m : Mm} (hm : R m) {j : Nat} (hj : j < nT (m 36)) {t a : Int32} (ha : 1 ≤ a.toInt ∧ a.toInt ≤ 400) {k3 k4 : Int32 → Option (Int32 × Mm)} : ∀ (k c fuel : Nat), k = nT (m 36) - c → c ≤ nT (m 36) → k < fuel →
    (∃ v, X3_pourFor_L44 (nI j) t a m k3 fuel (nI c) = some (v, m) ∧ X4_pourFor_L50 (nI j) t a m k4 fuel (nI c) = some (v, m)) ∨ (X3_pourFor_L44 (nI j) t a m k3 fuel (nI c) = k3 (nI (nT (m 36))) ∧ X4_pourFor_L50 (nI j) t a m k4 fuel (nI c) = k4 (nI (nT (m 36)))) := by
  have n7 := hm.nT
  have hr := hm.1.1.1.1
  intro k
  induction k with
  | zero =>
    intro c fuel hk hc hf
    have hcn : c = nT (m 36) := by omega
    obtain ⟨fuel, rfl⟩ : ∃ q, fuel = q + 1 := ⟨fuel - 1, by omega⟩
    have q : nI (nT (m 36)) ≤ nI c := by rw [hcn]; exact (nI_le_iff (by omega) (by omega)).mpr (Nat.le_refl _)
    right
    constructor
    · unfold X3_pourFor_L44
      rw [hr, n7.2, if_pos q, hcn]
    · unfold X4_pourFor_L50
      rw [n7.2, if_pos q, hcn]
  | succ k ih =>
    intro c fuel hk hc hf
    obtain ⟨fuel, rfl⟩ : ∃ q, fuel = q + 1 := ⟨fuel - 1, by omega⟩
    have q : ¬ nI (nT (m 36)) ≤ nI c := by rw [nI_le_iff (by omega) (by omega)]; omega
    have hcn : c < nT (m 36) := by omega
    have i1 := ih (c + 1) fuel (by omega) (by omega) (by omega)
    unfold X3_pourFor_L44 X4_pourFor_L50
    rw [hr, n7.2, if_neg q, if_neg q]
    simp only [nm_q, nI_1]
    by_cases e : c = j
    · rw [e] at i1 ⊢
      rw [pf_self hm hj, ob_y rfl, if_neg em1, if_pos rfl]
      exact i1
    · rw [if_neg (show ¬ nI c = nI j by rw [z_eq, z_nI (by omega), z_nI (by omega)]; omega)]
      rcases pf_s hm hcn hj e ha with ⟨x1, x2, -, -⟩ | ⟨x1, x2⟩
      · rw [x1, ob_y rfl, if_pos rfl, x2 m rfl, ob_y rfl, if_neg e01]
        obtain ⟨v, -, -, v3, v4⟩ := mixed_s hm hcn hj ha
        rw [v3, v4 m rfl, ob_y rfl, ob_y rfl]
        by_cases g : v = t
        · rw [if_pos g, if_pos g]
          exact Or.inl ⟨_, rfl, rfl⟩
        · rw [if_neg g, if_neg g]
          exact i1
      · rw [x1, ob_y rfl, if_neg em3, x2 m rfl, ob_y rfl, if_pos rfl]
        exact i1
theorem pourFor_out {m : Mm} (hm : R m) {j : Nat} (hj : j < nT (m 36)) {t : Int32} : ∀ (k i fuel : Nat), k = 401 - i → i ≤ 401 → 1 ≤ i → k < fuel →
    ∃ v, X3_pourFor_L33 (nI j) t m fuel (nI i) = some (v, m) ∧ X4_pourFor_L40 (nI j) t m fuel (nI i) = some (v, m) := by
  intro k
  induction k with
  | zero =>
    intro i fuel hk hi h1 hf
    have : i = 401 := by omega
    subst this
    obtain ⟨fuel, rfl⟩ : ∃ q, fuel = q + 1 := ⟨fuel - 1, by omega⟩
    have q : (400 : Int32) < nI 401 := (nI_lt_iff (a := 400) (by omega) (by omega)).mpr (by omega)
    unfold X3_pourFor_L33 X4_pourFor_L40
    rw [if_pos q, if_pos q]
    exact ⟨-9, rfl, rfl⟩
  | succ k ih =>
    intro i fuel hk hi h1 hf
    obtain ⟨fuel, rfl⟩ : ∃ q, fuel = q + 1 := ⟨fuel - 1, by omega⟩
    have q : ¬ (400 : Int32) < nI i := fun z => by have := (nI_lt_iff (a := 400) (by omega) (by omega)).mp z; omega
    have i1 := ih (i + 1) fuel (by omega) (by omega) (by omega) (by omega)
    unfold X3_pourFor_L33 X4_pourFor_L40
    rw [if_neg q, if_neg q]
    have h := pourFor_in hm hj (t := t) (a := nI i) (by rw [z_nI (by omega)]; omega) (k3 := fun v20 => nm (nI i + 1) (fun v21 => X3_pourFor_L33 (nI j) t m fuel v21)) (k4 := fun v25 => nm (nI i + 1) (fun v26 => X4_pourFor_L40 (nI j) t m fuel v26)) (nT (m 36)) 0 LF (by omega) (by omega) (LF_big (by have := hm.nT.1; omega))
    rw [nI_z] at h
    rcases h with ⟨v, h3, h4⟩ | ⟨h3, h4⟩
    · exact ⟨v, h3, h4⟩
    · rw [h3, h4]
      simp only [nm_q, nI_1]
      exact i1
theorem op_pourFor (a1 a2 : Int32) : Op (X3_pourFor 0 a1 a2) (X4_pourFor 35 a1 a2) := by
  intro m hm
  rcases cask_dec hm a1 with ⟨c, rfl, hc, hc7, f3, f4⟩ | ⟨f3, f4⟩
  · rcases range_dec a2 0 99 with ⟨g1, g2, g3⟩ | ⟨g1, g3⟩ | ⟨g1, g2, g3⟩
    · obtain ⟨v, h3, h4⟩ := pourFor_out hm hc (t := a2) 400 1 LF (by omega) (by omega) (by omega) (LF_big (by omega))
      rw [show nI 1 = (1 : Int32) from rfl] at h3 h4
      refine same_t hm (v := v) ?_ ?_
      · unfold X3_pourFor
        rw [f3, fo0, g3, if_pos rfl, nm_q, if_pos rfl, h3]
      · unfold X4_pourFor
        rw [f4 m rfl, if_neg e01, if_pos g1, if_pos g2, h4]
    · refine ref_t Ft4 hm ?_ (fun m' h => ?_)
      · unfold X3_pourFor; rw [f3, fo0, g3, if_neg em4, nm_q, if_neg em4]
      · unfold X4_pourFor; rw [f4 m' (h 36 (by omega)), if_neg e01, if_neg g1]
    · refine ref_t Ft6 hm ?_ (fun m' h => ?_)
      · unfold X3_pourFor; rw [f3, fo0, g3, if_neg em6, nm_q, if_neg em6]
      · unfold X4_pourFor; rw [f4 m' (h 36 (by omega)), if_neg e01, if_pos g1, if_neg g2]
  · refine ref_t Ft1 hm ?_ (fun m' h => ?_)
    · unfold X3_pourFor; rw [f3, fo1 em1, nm_q, if_neg em1]
    · unfold X4_pourFor; rw [f4 m' (h 36 (by omega)), if_pos rfl]
theorem size_eq (x : Int32) : X4_size x = mabs x := by
  unfold X4_size mabs
  rw [Int32.zero_sub]
theorem z_abs {x : Int32} (h : -2147483648 < x.toInt) : (mabs x).toInt = if 0 ≤ x.toInt then x.toInt else -x.toInt := by
  unfold mabs
  by_cases g : 0 ≤ x
  · rw [if_pos g, if_pos (by rw [z_le, t0] at g; exact g)]
  · rw [if_neg g, if_neg (by rw [z_le, t0] at g; exact g), Int32.zero_sub, z_neg h]
/-- the best so far -/
def Bd (b3 b4 : Int32) : Prop := (b3 = 100 ∧ b4 = 1000000000) ∨ (b3 = b4 ∧ b4.toInt ≤ 99)
theorem blend_in {m : Mm} (hm : R m) {j : Nat} (hj : j < nT (m 36)) {t : Int32} (ht : 0 ≤ t.toInt ∧ t.toInt ≤ 99) {k3 k4 : Int32 → Int32 → Int32 → Option (Int32 × Mm)} : ∀ (k c fuel : Nat) (f b3 b4 : Int32), k = nT (m 36) - c → c ≤ nT (m 36) → k < fuel → Bd b3 b4 →
    ∃ f' c3 c4, Bd c3 c4 ∧ X3_blend_L46 t (nI j) m k3 fuel f b3 (nI c) = k3 f' c3 (nI (nT (m 36))) ∧ X4_blend_L50 t (nI j) m k4 fuel f b4 (nI c) = k4 f' c4 (nI (nT (m 36))) := by
  have n7 := hm.nT
  have hr := hm.1.1
  intro k
  induction k with
  | zero =>
    intro c fuel f b3 b4 hk hc hf hb
    have hcn : c = nT (m 36) := by omega
    obtain ⟨fuel, rfl⟩ : ∃ q, fuel = q + 1 := ⟨fuel - 1, by omega⟩
    have q : nI (nT (m 36)) ≤ nI c := by rw [hcn]; exact (nI_le_iff (by omega) (by omega)).mpr (Nat.le_refl _)
    refine ⟨f, b3, b4, hb, ?_, ?_⟩
    · unfold X3_blend_L46
      rw [hr.1.1, n7.2, if_pos q, hcn]
    · unfold X4_blend_L50
      rw [n7.2, if_pos q, hcn]
  | succ k ih =>
    intro c fuel f b3 b4 hk hc hf hb
    obtain ⟨fuel, rfl⟩ : ∃ q, fuel = q + 1 := ⟨fuel - 1, by omega⟩
    have q : ¬ nI (nT (m 36)) ≤ nI c := by rw [nI_le_iff (by omega) (by omega)]; omega
    have hcn : c < nT (m 36) := by omega
    obtain ⟨⟨p1, p2⟩, p3⟩ := R_am hm hcn
    obtain ⟨⟨q1, q2⟩, q3⟩ := R_am hm hj
    have hj7 : j < 7 := by omega
    have hc7 : c < 7 := by omega
    have wc : X0_worth (1 + 2 + c) m = wo (m 36) c := X0_worth_s hr hcn
    have wj : X0_worth (1 + 2 + j) m = wo (m 36) j := X0_worth_s hr hj
    have es : (m 36 (kx j 2) + m 36 (kx c 2)).toInt = (m 36 (kx j 2)).toInt + (m 36 (kx c 2)).toInt := by rw [z_add] <;> omega
    unfold X3_blend_L46 X4_blend_L50 X2_blended
    rw [hr.1.1, n7.2, if_neg q, if_neg q, X2_at_s (by omega), ob_y rfl, X2_at_s (by omega), ob_y rfl, nm_q, ob_y rfl, ob_y rfl, hm.ck hj (by omega), hm.ck hcn (by omega), wc, wj]
    simp only [nm_q, nI_1, gd_y (at_in2 hj7), gd_y (at_in2 hc7), gd_y (at_in3 hj7), gd_y (at_in3 hc7), at_cl2 hj7, at_cl2 hc7, at_cl3 hj7, at_cl3 hc7]
    by_cases g : m 36 (kx j 2) + m 36 (kx c 2) = 0
    · rw [if_pos g, if_pos (by rw [g]; decide), ob_y rfl, if_pos lt9]
      exact ih (c + 1) fuel f b3 b4 (by omega) (by omega) (by omega) hb
    · have g0 := g
      rw [z_eq, es, t0] at g0
      rw [if_neg g, if_neg (by rw [z_le, es, t0]; omega), gd_y g, ob_y rfl]
      have mz := mix_z (s1 := m 36 (kx j 3)) (s2 := m 36 (kx c 3)) (a1 := m 36 (kx j 2)) (a2 := m 36 (kx c 2)) q3 p3 ⟨q1, q2⟩ ⟨p1, p2⟩ (by omega)
      have ew : wo (m 36) j + wo (m 36) c = m 36 (kx j 3) * m 36 (kx j 2) + m 36 (kx c 3) * m 36 (kx c 2) := by
        unfold wo; rw [Int32.mul_comm (m 36 (kx j 2)), Int32.mul_comm (m 36 (kx c 2))]
      have ew2 : m 36 (kx j 2) * m 36 (kx j 3) + m 36 (kx c 2) * m 36 (kx c 3) = m 36 (kx j 3) * m 36 (kx j 2) + m 36 (kx c 3) * m 36 (kx c 2) := by
        rw [Int32.mul_comm (m 36 (kx j 2)), Int32.mul_comm (m 36 (kx c 2))]
      rw [ew, ew2, size_eq]
      generalize (m 36 (kx j 3) * m 36 (kx j 2) + m 36 (kx c 3) * m 36 (kx c 2)) / (m 36 (kx j 2) + m 36 (kx c 2)) = y at mz
      obtain ⟨-, y1, y2⟩ := mz
      rw [if_neg (by rw [z_lt, t0]; omega)]
      have ed : (y - t).toInt = y.toInt - t.toInt := by rw [z_sub] <;> omega
      have ea := z_abs (x := y - t) (by omega)
      rw [ed] at ea
      generalize mabs (y - t) = d at ea
      have d9 : d.toInt ≤ 99 := by rw [ea]; split <;> omega
      have t99' : (100 : Int32).toInt = 100 := rfl
      rcases hb with ⟨rfl, rfl⟩ | ⟨rfl, hb⟩
      · rw [if_neg (by rw [z_le, t99']; omega), if_pos (by rw [z_lt, tbig]; omega)]
        exact ih (c + 1) fuel _ _ _ (by omega) (by omega) (by omega) (Or.inr ⟨rfl, d9⟩)
      · by_cases g2 : b3 ≤ d
        · rw [if_pos g2, if_neg (by rw [z_lt]; rw [z_le] at g2; omega)]
          exact ih (c + 1) fuel _ _ _ (by omega) (by omega) (by omega) (Or.inr ⟨rfl, hb⟩)
        · rw [if_neg g2, if_pos (by rw [z_lt]; rw [z_le] at g2; omega)]
          exact ih (c + 1) fuel _ _ _ (by omega) (by omega) (by omega) (Or.inr ⟨rfl, d9⟩)
theorem blend_out {m : Mm} (hm : R m) {t : Int32} (ht : 0 ≤ t.toInt ∧ t.toInt ≤ 99) : ∀ (k c fuel : Nat) (f b3 b4 : Int32), k = nT (m 36) - c → c ≤ nT (m 36) → k < fuel → Bd b3 b4 →
    ∃ v, X3_blend_L28 t m fuel f b3 (nI c) = some (v, m) ∧ X4_blend_L33 t m fuel f b4 (nI c) = some (v, m) := by
  have n7 := hm.nT
  have hr := hm.1.1
  intro k
  induction k with
  | zero =>
    intro c fuel f b3 b4 hk hc hf hb
    have hcn : c = nT (m 36) := by omega
    obtain ⟨fuel, rfl⟩ : ∃ q, fuel = q + 1 := ⟨fuel - 1, by omega⟩
    have q : nI (nT (m 36)) ≤ nI c := by rw [hcn]; exact (nI_le_iff (by omega) (by omega)).mpr (Nat.le_refl _)
    unfold X3_blend_L28 X4_blend_L33
    rw [hr.1.1, n7.2, if_pos q, if_pos q]
    exact ⟨f, rfl, rfl⟩
  | succ k ih =>
    intro c fuel f b3 b4 hk hc hf hb
    obtain ⟨fuel, rfl⟩ : ∃ q, fuel = q + 1 := ⟨fuel - 1, by omega⟩
    have q : ¬ nI (nT (m 36)) ≤ nI c := by rw [nI_le_iff (by omega) (by omega)]; omega
    have hcn : c < nT (m 36) := by omega
    unfold X3_blend_L28 X4_blend_L33
    rw [hr.1.1, n7.2, if_neg q, if_neg q]
    simp only [nm_q, nI_1]
    obtain ⟨f', c3, c4, hb', h3, h4⟩ := blend_in hm hcn ht (k3 := fun v25 v26 v27 => X3_blend_L28 t m fuel v25 v26 (nI (c + 1))) (k4 := fun v25 v26 v27 => X4_blend_L33 t m fuel v25 v26 (nI (c + 1))) (nT (m 36) - (c + 1)) (c + 1) LF f b3 b4 (by omega) (by omega) (LF_big (by omega)) hb
    rw [h3, h4]
    exact ih (c + 1) fuel f' c3 c4 (by omega) (by omega) (by omega) hb'
theorem op_blend (a1 : Int32) : Op (X3_blend 0 a1) (X4_blend 35 a1) := by
  intro m hm
  rcases range_dec a1 0 99 with ⟨g1, g2, g3⟩ | ⟨g1, g3⟩ | ⟨g1, g2, g3⟩
  · obtain ⟨v, h3, h4⟩ := blend_out hm (t := a1) ⟨by rw [z_le, t0] at g1; exact g1, by rw [z_le, t99] at g2; exact g2⟩ (nT (m 36)) 0 LF (-9) 100 1000000000 (by omega) (by omega) (LF_big (by have := hm.nT.1; omega)) (Or.inl ⟨rfl, rfl⟩)
    rw [nI_z] at h3 h4
    refine same_t hm (v := v) ?_ ?_
    · unfold X3_blend
      rw [g3, nm_q, if_pos rfl, h3]
    · unfold X4_blend
      rw [if_pos g1, if_pos g2, h4]
  · refine ref_t Ft4 hm ?_ (fun m' h => ?_)
    · unfold X3_blend; rw [g3, nm_q, if_neg em4]
    · unfold X4_blend; rw [if_neg g1]
  · refine ref_t Ft6 hm ?_ (fun m' h => ?_)
    · unfold X3_blend; rw [g3, nm_q, if_neg em6]
    · unfold X4_blend; rw [if_pos g1, if_neg g2]
