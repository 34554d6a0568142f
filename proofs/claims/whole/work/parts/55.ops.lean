/-! the parts that only look, or change one thing -/
theorem cask_dec {m : Mm} (h : R m) (a : Int32) : (∃ c, a = nI c ∧ c < nT (m 36) ∧ c < 7 ∧ X2_caskFault 1 a m = 0 ∧ ∀ m', m' 36 = m 36 → X4_isCask 35 a m' = 1) ∨ (X2_caskFault 1 a m = -1 ∧ ∀ m', m' 36 = m 36 → X4_isCask 35 a m' = 0) := by
  obtain ⟨⟨⟨⟨r0, -⟩, -⟩, a2, -⟩, -⟩ := h
  obtain ⟨n1, n2⟩ := a2.nT7
  have e7 : (m 36 0).toInt = nT (m 36) := by
    have := z_nI (show nT (m 36) < 2147483648 by omega)
    rw [← n2] at this; exact this
  have e1 : (m 36 0 - 1).toInt = (nT (m 36) : Int) - 1 := by rw [z_sub (by rw [t1, e7]; omega) (by rw [t1, e7]; omega), t1, e7]
  unfold X2_caskFault X4_isCask X4_isIn
  rw [r0]
  by_cases g : a < 0
  · exact Or.inr ⟨by rw [if_pos g], fun m' _ => by rw [if_pos g]⟩
  · rw [if_neg g]
    have g0 := g
    rw [z_lt, t0] at g0
    by_cases q : a < m 36 0
    · left
      obtain ⟨c, c1, c2, c3⟩ := z_of (x := a) (by omega)
      have q' := q
      rw [z_lt, e7] at q'
      refine ⟨c, c1, by omega, by omega, by rw [if_pos q], fun m' hm => ?_⟩
      rw [if_neg g, hm, if_neg (by rw [z_lt, e1]; omega)]
    · right
      have q' := q
      rw [z_lt, e7] at q'
      refine ⟨by rw [if_neg q], fun m' hm => ?_⟩
      rw [if_neg g, hm, if_pos (by rw [z_lt, e1]; omega)]
theorem range_dec (a lo hi : Int32) : (lo ≤ a ∧ a ≤ hi ∧ X3_rangeFault a lo hi = 0) ∨ (¬ lo ≤ a ∧ X3_rangeFault a lo hi = -4) ∨ (lo ≤ a ∧ ¬ a ≤ hi ∧ X3_rangeFault a lo hi = -6) := by
  unfold X3_rangeFault
  by_cases h1 : lo ≤ a
  · by_cases h2 : a ≤ hi
    · exact Or.inl ⟨h1, h2, by rw [if_pos h1, if_pos h2]⟩
    · exact Or.inr (Or.inr ⟨h1, h2, by rw [if_pos h1, if_neg h2]⟩)
  · exact Or.inr (Or.inl ⟨h1, by rw [if_neg h1]⟩)
theorem what_dec (a hi : Int32) : (0 ≤ a ∧ a ≤ hi ∧ X3_whatFault a hi = 0 ∧ X4_isIn a 0 hi = 1) ∨ (X3_whatFault a hi = -2 ∧ X4_isIn a 0 hi = 0) := by
  unfold X3_whatFault X4_isIn
  by_cases h1 : a < 0
  · exact Or.inr ⟨by rw [if_pos h1], by rw [if_pos h1]⟩
  · rw [if_neg h1, if_neg h1]
    by_cases h2 : a ≤ hi
    · refine Or.inl ⟨by rw [z_le, t0]; rw [z_lt, t0] at h1; omega, h2, by rw [if_pos h2], ?_⟩
      rw [if_neg (by rw [z_lt]; rw [z_le] at h2; omega)]
    · refine Or.inr ⟨by rw [if_neg h2], ?_⟩
      rw [if_pos (by rw [z_lt]; rw [z_le] at h2; omega)]
theorem years_dec (a : Int32) : (∃ n, n ≤ 200 ∧ a = nI n ∧ X3_yearsFault a = 0 ∧ X4_wrongYears a = 0) ∨ (∃ v, Ft v ∧ ¬ v = 0 ∧ X3_yearsFault a = v ∧ X4_wrongYears a = v) := by
  unfold X3_yearsFault X4_wrongYears
  rcases range_dec a 0 200 with ⟨h1, h2, h3⟩ | ⟨h1, h3⟩ | ⟨h1, h2, h3⟩
  · left
    have h1' := h1
    have h2' := h2
    rw [z_le, t0] at h1'
    rw [z_le, show (200 : Int32).toInt = 200 from rfl] at h2'
    obtain ⟨c, c1, c2, c3⟩ := z_of (x := a) h1'
    exact ⟨c, by omega, c1, h3, by rw [if_pos h1, if_pos h2]⟩
  · exact Or.inr ⟨-4, Ft4, by decide, h3, by rw [if_neg h1]⟩
  · exact Or.inr ⟨-6, Ft6, by decide, h3, by rw [if_pos h1, if_neg h2]⟩
/-- both refuse -/
theorem ref_t {f g : Mm → Option (Int32 × Mm)} {v : Int32} {m : Mm} (hv : Ft v) (hm : R m) (h3 : f m = ob2 (X3_refuse 0 v m) (fun y m => some (y, m))) (h4 : ∀ m', (∀ i, i ≠ 34 → m' i = m i) → g m' = ob2 (X4_no 35 v m') (fun y m => some (y, m))) : ∃ v m1 m2, f m = some (v, m1) ∧ g m1 = some (v, m2) ∧ R m2 := by
  obtain ⟨k, hk, e1, e2⟩ := refuse_s hv m
  refine ⟨v, mset m 34 k (m 34 k + 1), mset (mset m 34 k (m 34 k + 1)) 42 k (m 42 k + 1), by rw [h3, ob2_y e1], ?_, R_ref hm hk⟩
  rw [h4 _ (fun i hi => by funext j; exact mset_oo hi), ob2_y (e2 _), show mset m 34 k (m 34 k + 1) 42 k = m 42 k by simp [mset]]
theorem ref_w {f g : Mm → Option (Int64 × Mm)} {v : Int32} {m : Mm} (hv : Ft v) (hm : R m) (h3 : f m = ob2 (X3_refuseLong 0 v m) (fun y m => some (y, m))) (h4 : ∀ m', (∀ i, i ≠ 34 → m' i = m i) → g m' = ob2 (X4_noWide 35 v m') (fun y m => some (y, m))) : ∃ v m1 m2, f m = some (v, m1) ∧ g m1 = some (v, m2) ∧ R m2 := by
  obtain ⟨k, hk, e1, e2⟩ := refuse_s hv m
  refine ⟨4000000000000000000 - v.toInt64, mset m 34 k (m 34 k + 1), mset (mset m 34 k (m 34 k + 1)) 42 k (m 42 k + 1), ?_, ?_, R_ref hm hk⟩
  · rw [h3]; unfold X3_refuseLong; rw [ob2_y e1]; rfl
  · rw [h4 _ (fun i hi => by funext j; exact mset_oo hi)]; unfold X4_noWide; rw [ob2_y (e2 _), show mset m 34 k (m 34 k + 1) 42 k = m 42 k by simp [mset]]; rfl
theorem fo0 {b c : Int32} : X3_firstOf 0 b c = if b = 0 then c else b := by unfold X3_firstOf; rw [if_pos rfl]
theorem fo1 {a b c : Int32} (h : ¬ a = 0) : X3_firstOf a b c = a := by unfold X3_firstOf; rw [if_neg h]
theorem e01 : ¬ (1 : Int32) = 0 := by decide
theorem em1 : ¬ (-1 : Int32) = 0 := by decide
theorem em2 : ¬ (-2 : Int32) = 0 := by decide
theorem em3 : ¬ (-3 : Int32) = 0 := by decide
theorem em4 : ¬ (-4 : Int32) = 0 := by decide
theorem em6 : ¬ (-6 : Int32) = 0 := by decide
theorem nI_le_of {a : Int32} {n : Nat} (h1 : 0 ≤ a) (h2 : a ≤ nI n) (hn : n < 2147483648) : ∃ c, a = nI c ∧ c ≤ n := by
  rw [z_le, t0] at h1
  rw [z_le, z_nI hn] at h2
  obtain ⟨c, c1, c2, c3⟩ := z_of h1
  exact ⟨c, c1, by omega⟩
theorem R.ck {m : Mm} (h : R m) {c k : Nat} (hc : c < nT (m 36)) (hk : k < 6) : m (1 + 2 + c) k = m 36 (kx c k) := h.1.1.2 c k hc hk
/-- nothing changed -/
theorem same_t {α : Type} {f g : Mm → Option (α × Mm)} {m : Mm} {v : α} (hm : R m) (h3 : f m = some (v, m)) (h4 : g m = some (v, m)) : ∃ v m1 m2, f m = some (v, m1) ∧ g m1 = some (v, m2) ∧ R m2 := ⟨v, m, m, h3, h4, hm⟩
theorem op_cask (a1 a2 : Int32) : Op (X3_cask 0 a1 a2) (X4_cask 35 a1 a2) := by
  intro m hm
  rcases cask_dec hm a1 with ⟨c, rfl, hc, hc7, f3, f4⟩ | ⟨f3, f4⟩
  · rcases what_dec a2 5 with ⟨w1, w2, w3, w4⟩ | ⟨w3, w4⟩
    · obtain ⟨k, rfl, hk⟩ := nI_le_of w1 (show a2 ≤ nI 5 from w2) (by omega)
      refine same_t hm (v := m 36 (kx c k)) ?_ ?_
      · unfold X3_cask
        rw [f3, w3, fo0, if_pos rfl, nm_q, if_pos rfl, X2_at_s hc7, ob_y rfl]
        have hd := hm.ck hc (k := k) (by omega)
        rcases (by omega : k = 0 ∨ k = 1 ∨ k = 2 ∨ k = 3 ∨ k = 4 ∨ k = 5) with rfl | rfl | rfl | rfl | rfl | rfl <;> rw [← hd] <;> rfl
      · unfold X4_cask
        rw [f4 m rfl, w4, if_neg e01, if_neg e01, gd_y (at_in hc7 (by omega)), at_cl hc7 (by omega)]
    · refine ref_t Ft2 hm ?_ (fun m' h => ?_)
      · unfold X3_cask
        rw [f3, w3, fo0, if_neg em2, nm_q, if_neg em2]
      · unfold X4_cask
        rw [f4 m' (h 36 (by omega)), w4, if_neg e01, if_pos rfl]
  · refine ref_t Ft1 hm ?_ (fun m' h => ?_)
    · unfold X3_cask
      rw [f3, fo1 em1, nm_q, if_neg em1]
    · unfold X4_cask
      rw [f4 m' (h 36 (by omega)), if_pos rfl]
theorem op_takes (a1 a2 a3 : Int32) : Op (X3_takes 0 a1 a2 a3) (X4_takes 35 a1 a2 a3) := by
  intro m hm
  rcases cask_dec hm a1 with ⟨c, rfl, hc, hc7, f3, f4⟩ | ⟨f3, f4⟩
  · by_cases g1 : a2 < 0
    · refine ref_t Ft4 hm ?_ (fun m' h => ?_)
      · unfold X3_takes; rw [f3, nm_q, if_pos rfl, if_pos g1]
      · unfold X4_takes; rw [f4 m' (h 36 (by omega)), if_neg e01, if_pos g1]
    · by_cases g2 : 0 ≤ a3
      · by_cases g3 : 400 < a2
        · refine ref_t Ft6 hm ?_ (fun m' h => ?_)
          · unfold X3_takes; rw [f3, nm_q, if_pos rfl, if_neg g1, if_pos g2, if_pos g3]
          · unfold X4_takes; rw [f4 m' (h 36 (by omega)), if_neg e01, if_neg g1, if_pos g2, if_pos g3]
        · by_cases g4 : a3 ≤ 80
          · refine same_t hm (v := X0_angelsPart (1 + 2 + c) a2 a3 m) ?_ ?_
            · unfold X3_takes; rw [f3, nm_q, if_pos rfl, if_neg g1, if_pos g2, if_neg g3, if_pos g4, X2_at_s hc7, ob_y rfl]
            · unfold X4_takes
              rw [f4 m rfl, if_neg e01, if_neg g1, if_pos g2, if_neg g3, if_pos g4, X4_takesOf_s hc7, ob_y rfl, X0_angelsPart_s, hm.ck hc (by omega), hm.ck hc (by omega), hm.ck hc (by omega)]
          · refine ref_t Ft6 hm ?_ (fun m' h => ?_)
            · unfold X3_takes; rw [f3, nm_q, if_pos rfl, if_neg g1, if_pos g2, if_neg g3, if_neg g4]
            · unfold X4_takes; rw [f4 m' (h 36 (by omega)), if_neg e01, if_neg g1, if_pos g2, if_neg g3, if_neg g4]
      · refine ref_t Ft4 hm ?_ (fun m' h => ?_)
        · unfold X3_takes; rw [f3, nm_q, if_pos rfl, if_neg g1, if_neg g2]
        · unfold X4_takes; rw [f4 m' (h 36 (by omega)), if_neg e01, if_neg g1, if_neg g2]
  · refine ref_t Ft1 hm ?_ (fun m' h => ?_)
    · unfold X3_takes; rw [f3, nm_q, if_neg em1]
    · unfold X4_takes; rw [f4 m' (h 36 (by omega)), if_pos rfl]
/-! sums over the casks -/
theorem X2_allAmounts_s {b : Nat} {m : Mm} {T : Nat → Int32} (h : RC b m T) (hT : nT T ≤ 7 ∧ T 0 = nI (nT T)) : X2_allAmounts b m = some (sT (fun c => T (kx c 2)) (nT T)) := by
  have key : ∀ (k c fuel : Nat), k = nT T - c → c ≤ nT T → k < fuel → X2_allAmounts_L4 b m fuel (sT (fun c => T (kx c 2)) c) (nI c) = some (sT (fun c => T (kx c 2)) (nT T)) := by
    intro k
    induction k with
    | zero =>
      intro c fuel hk hc hf
      have hcn : c = nT T := by omega
      obtain ⟨fuel, rfl⟩ : ∃ q, fuel = q + 1 := ⟨fuel - 1, by omega⟩
      unfold X2_allAmounts_L4
      rw [if_pos (by rw [h.1.1, hT.2, hcn]; exact (nI_le_iff (by omega) (by omega)).mpr (Nat.le_refl _)), hcn]
    | succ k ih =>
      intro c fuel hk hc hf
      obtain ⟨fuel, rfl⟩ : ∃ q, fuel = q + 1 := ⟨fuel - 1, by omega⟩
      unfold X2_allAmounts_L4
      rw [if_neg (by rw [h.1.1, hT.2, nI_le_iff (by omega) (by omega)]; omega), X2_at_s (by omega), ob_y rfl, nm_q, nm_q, h.2 c 2 (by omega) (by omega), show nI c + 1 = nI (c + 1) from nI_1 c]
      exact ih (c + 1) fuel (by omega) (by omega) (by omega)
  exact key (nT T) 0 LF (by omega) (by omega) (LF_big (by omega))
theorem X2_allTaken_s {b : Nat} {m : Mm} {T : Nat → Int32} (h : RC b m T) (hT : nT T ≤ 7 ∧ T 0 = nI (nT T)) : X2_allTaken b m = some (sT (fun c => T (kx c 5)) (nT T)) := by
  have key : ∀ (k c fuel : Nat), k = nT T - c → c ≤ nT T → k < fuel → X2_allTaken_L4 b m fuel (sT (fun c => T (kx c 5)) c) (nI c) = some (sT (fun c => T (kx c 5)) (nT T)) := by
    intro k
    induction k with
    | zero =>
      intro c fuel hk hc hf
      have hcn : c = nT T := by omega
      obtain ⟨fuel, rfl⟩ : ∃ q, fuel = q + 1 := ⟨fuel - 1, by omega⟩
      unfold X2_allTaken_L4
      rw [if_pos (by rw [h.1.1, hT.2, hcn]; exact (nI_le_iff (by omega) (by omega)).mpr (Nat.le_refl _)), hcn]
    | succ k ih =>
      intro c fuel hk hc hf
      obtain ⟨fuel, rfl⟩ : ∃ q, fuel = q + 1 := ⟨fuel - 1, by omega⟩
      unfold X2_allTaken_L4
      rw [if_neg (by rw [h.1.1, hT.2, nI_le_iff (by omega) (by omega)]; omega), X2_at_s (by omega), ob_y rfl, nm_q, nm_q, h.2 c 5 (by omega) (by omega), show nI c + 1 = nI (c + 1) from nI_1 c]
      exact ih (c + 1) fuel (by omega) (by omega) (by omega)
  exact key (nT T) 0 LF (by omega) (by omega) (LF_big (by omega))
theorem X4_sumOf_s {p j : Nat} {m : Mm} {T : Nat → Int32} (h : m p = T) (hj : j < 6) (hT : nT T ≤ 7 ∧ T 0 = nI (nT T)) : X4_sumOf p (nI j) m = some (sT (fun c => T (kx c j)) (nT T)) := by
  have key : ∀ (k c fuel : Nat), k = nT T - c → c ≤ nT T → k < fuel → X4_sumOf_L4 p (nI j) m fuel (sT (fun c => T (kx c j)) c) (nI c) = some (sT (fun c => T (kx c j)) (nT T)) := by
    intro k
    induction k with
    | zero =>
      intro c fuel hk hc hf
      have hcn : c = nT T := by omega
      obtain ⟨fuel, rfl⟩ : ∃ q, fuel = q + 1 := ⟨fuel - 1, by omega⟩
      unfold X4_sumOf_L4
      rw [if_pos (by rw [h, hT.2, hcn]; exact (nI_le_iff (by omega) (by omega)).mpr (Nat.le_refl _)), hcn]
    | succ k ih =>
      intro c fuel hk hc hf
      obtain ⟨fuel, rfl⟩ : ∃ q, fuel = q + 1 := ⟨fuel - 1, by omega⟩
      unfold X4_sumOf_L4
      rw [if_neg (by rw [h, hT.2, nI_le_iff (by omega) (by omega)]; omega), gd_y (at_in (by omega) hj), at_cl (by omega) hj, nm_q, nm_q, h, show nI c + 1 = nI (c + 1) from nI_1 c]
      exact ih (c + 1) fuel (by omega) (by omega) (by omega)
  exact key (nT T) 0 LF (by omega) (by omega) (LF_big (by omega))
theorem X4_sumOf_2 {p : Nat} {m : Mm} {T : Nat → Int32} (h : m p = T) (hT : nT T ≤ 7 ∧ T 0 = nI (nT T)) : X4_sumOf p 2 m = some (sT (fun c => T (kx c 2)) (nT T)) := X4_sumOf_s (j := 2) h (by omega) hT
theorem X4_sumOf_5 {p : Nat} {m : Mm} {T : Nat → Int32} (h : m p = T) (hT : nT T ≤ 7 ∧ T 0 = nI (nT T)) : X4_sumOf p 5 m = some (sT (fun c => T (kx c 5)) (nT T)) := X4_sumOf_s (j := 5) h (by omega) hT
def dT (T : Nat → Int32) (c : Nat) : Int32 := ((T (kx c 2) + T (kx c 5)) / 10) * T 4
theorem X2_dutyOf_s {b c : Nat} {m : Mm} {T : Nat → Int32} (h : RC b m T) (hn : nT T ≤ 7) (hc : c < nT T) : X2_dutyOf b (nI c) m = some (dT T c) := by
  unfold X2_dutyOf
  rw [X2_at_s (by omega), ob_y rfl, ob_y rfl, h.2 c 2 hc (by omega), h.2 c 5 hc (by omega), h.1.2.2.2.2]
  rfl
theorem X4_exciseOf_s {p c : Nat} {m : Mm} {T : Nat → Int32} (h : m p = T) (hc : c < 7) : X4_exciseOf p (nI c) m = some (dT T c) := by
  unfold X4_exciseOf
  rw [gd_y (at_in2 hc), gd_y (at_in5 hc), at_cl2 hc, at_cl5 hc, h]
  rfl
theorem X2_dutyOfAll_s {b : Nat} {m : Mm} {T : Nat → Int32} (h : RC b m T) (hT : nT T ≤ 7 ∧ T 0 = nI (nT T)) : X2_dutyOfAll b m = some (sT (dT T) (nT T)) := by
  have key : ∀ (k c fuel : Nat), k = nT T - c → c ≤ nT T → k < fuel → X2_dutyOfAll_L4 b m fuel (sT (dT T) c) (nI c) = some (sT (dT T) (nT T)) := by
    intro k
    induction k with
    | zero =>
      intro c fuel hk hc hf
      have hcn : c = nT T := by omega
      obtain ⟨fuel, rfl⟩ : ∃ q, fuel = q + 1 := ⟨fuel - 1, by omega⟩
      unfold X2_dutyOfAll_L4
      rw [if_pos (by rw [h.1.1, hT.2, hcn]; exact (nI_le_iff (by omega) (by omega)).mpr (Nat.le_refl _)), hcn]
    | succ k ih =>
      intro c fuel hk hc hf
      obtain ⟨fuel, rfl⟩ : ∃ q, fuel = q + 1 := ⟨fuel - 1, by omega⟩
      unfold X2_dutyOfAll_L4
      rw [if_neg (by rw [h.1.1, hT.2, nI_le_iff (by omega) (by omega)]; omega), X2_dutyOf_s h hT.1 (by omega), ob_y rfl, nm_q, nm_q, show nI c + 1 = nI (c + 1) from nI_1 c]
      exact ih (c + 1) fuel (by omega) (by omega) (by omega)
  exact key (nT T) 0 LF (by omega) (by omega) (LF_big (by omega))
theorem X4_exciseAll_s {p : Nat} {m : Mm} {T : Nat → Int32} (h : m p = T) (hT : nT T ≤ 7 ∧ T 0 = nI (nT T)) : X4_exciseAll p m = some (sT (dT T) (nT T)) := by
  have key : ∀ (k c fuel : Nat), k = nT T - c → c ≤ nT T → k < fuel → X4_exciseAll_L4 p m fuel (sT (dT T) c) (nI c) = some (sT (dT T) (nT T)) := by
    intro k
    induction k with
    | zero =>
      intro c fuel hk hc hf
      have hcn : c = nT T := by omega
      obtain ⟨fuel, rfl⟩ : ∃ q, fuel = q + 1 := ⟨fuel - 1, by omega⟩
      unfold X4_exciseAll_L4
      rw [if_pos (by rw [h, hT.2, hcn]; exact (nI_le_iff (by omega) (by omega)).mpr (Nat.le_refl _)), hcn]
    | succ k ih =>
      intro c fuel hk hc hf
      obtain ⟨fuel, rfl⟩ : ∃ q, fuel = q + 1 := ⟨fuel - 1, by omega⟩
      unfold X4_exciseAll_L4
      rw [if_neg (by rw [h, hT.2, nI_le_iff (by omega) (by omega)]; omega), X4_exciseOf_s h (by omega), ob_y rfl, nm_q, nm_q, show nI c + 1 = nI (c + 1) from nI_1 c]
      exact ih (c + 1) fuel (by omega) (by omega) (by omega)
  exact key (nT T) 0 LF (by omega) (by omega) (LF_big (by omega))
theorem R.nT {m : Mm} (h : R m) : nT (m 36) ≤ 7 ∧ m 36 0 = nI (nT (m 36)) := h.1.2.1.nT7
theorem op_excise (a1 : Int32) : Op (X3_excise 0 a1) (X4_excise 35 a1) := by
  intro m hm
  by_cases g : a1 = -1
  · subst g
    refine same_t hm (v := sT (dT (m 36)) (nT (m 36))) ?_ ?_
    · unfold X3_excise X3_caskOrAllFault
      rw [if_pos rfl, nm_q, if_pos rfl, if_neg (by decide), X2_dutyOfAll_s hm.1.1 hm.nT, ob_y rfl]
    · unfold X4_excise
      rw [if_pos rfl, X4_exciseAll_s rfl hm.nT, ob_y rfl]
  · rcases cask_dec hm a1 with ⟨c, rfl, hc, hc7, f3, f4⟩ | ⟨f3, f4⟩
    · refine same_t hm (v := dT (m 36) c) ?_ ?_
      · unfold X3_excise X3_caskOrAllFault
        rw [if_neg g, f3, nm_q, if_pos rfl, if_pos (by rw [z_le, t0, z_nI (by omega)]; omega), X2_dutyOf_s hm.1.1 hm.nT.1 hc, ob_y rfl]
      · unfold X4_excise
        rw [if_neg g, f4 m rfl, if_neg e01, X4_exciseOf_s rfl hc7, ob_y rfl]
    · refine ref_t Ft1 hm ?_ (fun m' h => ?_)
      · unfold X3_excise X3_caskOrAllFault; rw [if_neg g, f3, nm_q, if_neg em1]
      · unfold X4_excise; rw [if_neg g, f4 m' (h 36 (by omega)), if_pos rfl]
