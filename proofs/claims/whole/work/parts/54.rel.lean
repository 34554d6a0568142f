/-! what ties the class's memory to the reference's -/
def R (m : Mm) : Prop :=
  (RC 1 m (m 36) ∧ TI (m 36) ∧ (m 36 1).toInt ≤ 999) ∧
  (m 0 3 = m 35 4 ∧ (m 0 3 = 0 ∨ (m 0 3 = 1 ∧ RC 21 m (m 38) ∧ TI (m 38) ∧ (m 38 1).toInt ≤ 999))) ∧
  (∃ k, k ≤ 96 ∧ m 31 1 = nI k ∧ m 35 8 = nI k ∧ ∀ j, j < k → m 32 j = m 40 j ∧ 0 ≤ (m 32 j).toInt ∧ (m 32 j).toInt ≤ 255) ∧
  (∃ k, k ≤ 12 ∧ m 0 6 = nI k ∧ m 35 9 = nI k ∧ ∀ j, j < k → m 33 j = m 41 j ∧ 0 ≤ (m 33 j).toInt ∧ (m 33 j).toInt ≤ 99) ∧
  (∀ j, j < 7 → m 34 j = m 42 j)
/-- the reference's scratch -/
def Fr4 (m m' : Mm) : Prop := (∀ i, i ≠ 35 → i ≠ 37 → i ≠ 39 → i ≠ 43 → m' i = m i) ∧ ∀ k, k ≠ 10 → k ≠ 11 → k ≠ 12 → k ≠ 14 → m' 35 k = m 35 k
theorem Fr4.rf {m : Mm} : Fr4 m m := ⟨fun _ _ _ _ _ => rfl, fun _ _ _ _ _ => rfl⟩
theorem Fr4.tr {a b c : Mm} (h1 : Fr4 a b) (h2 : Fr4 b c) : Fr4 a c := ⟨fun i q1 q2 q3 q4 => (h2.1 i q1 q2 q3 q4).trans (h1.1 i q1 q2 q3 q4), fun k q1 q2 q3 q4 => (h2.2 k q1 q2 q3 q4).trans (h1.2 k q1 q2 q3 q4)⟩
theorem FrM.f4 {a b : Mm} (h : FrM 37 a b) : Fr4 a b := ⟨fun i q1 q2 _ _ => h.1 i q2 q1, fun k q1 q2 _ _ => h.2 k q1 q2⟩
theorem Fr37 {a b : Mm} (h : ∀ i, i ≠ 37 → b i = a i) : Fr4 a b := ⟨fun i _ q2 _ _ => h i q2, fun k _ _ _ _ => congrFun (h 35 (by omega)) k⟩
theorem Fr4.at36 {a b : Mm} (h : Fr4 a b) : b 36 = a 36 := h.1 36 (by omega) (by omega) (by omega) (by omega)
theorem RC.cg {b : Nat} {m m' : Mm} {T : Nat → Int32} (h : RC b m T) (e : ∀ i, b ≤ i → i < b + 9 → m' i = m i) (hn : nT T ≤ 7) : RC b m' T := by
  obtain ⟨h1, h2⟩ := h
  refine ⟨by rw [e b (by omega) (by omega)]; exact h1, fun c k hc hk => ?_⟩
  rw [e (b + 2 + c) (by omega) (by omega)]; exact h2 c k hc hk
theorem RC.ct {b : Nat} {m : Mm} {T T' : Nat → Int32} (h : RC b m T) (e : ∀ j, j < 47 → T' j = T j) (hn : nT T ≤ 7) : RC b m T' := by
  have en : nT T' = nT T := by unfold nT; rw [e 0 (by omega)]
  obtain ⟨⟨h0, h1, h2, h3, h4⟩, h5⟩ := h
  refine ⟨⟨by rw [e 0 (by omega)]; exact h0, by rw [e 1 (by omega)]; exact h1, by rw [e 2 (by omega)]; exact h2, by rw [e 3 (by omega)]; exact h3, by rw [e 4 (by omega)]; exact h4⟩, fun c k hc hk => ?_⟩
  rw [e (kx c k) (by unfold kx; omega)]; exact h5 c k (by omega) hk
theorem TI.ct {T T' : Nat → Int32} (h : TI T) (e : ∀ j, j < 47 → T' j = T j) : TI T' := by
  obtain ⟨n, ⟨h1, h2⟩, h3, h4, h5, h6, h7⟩ := h
  refine ⟨n, ⟨h1, by rw [e 0 (by omega)]; exact h2⟩, by rw [e 2 (by omega)]; exact h3, by rw [e 3 (by omega)]; exact h4, by rw [e 4 (by omega)]; exact h5, by rw [e 1 (by omega)]; exact h6, fun c hc => ?_⟩
  rw [e 1 (by omega)]
  exact (h7 c hc).cong (fun k hk => e (kx c k) (by unfold kx; omega))
theorem R_fr {m m1 m2 : Mm} (h : R m) (f3 : FrC 11 m m1) (f4 : Fr4 m1 m2) : R m2 := by
  have e : ∀ i, (i < 11 ∨ (21 ≤ i ∧ i < 35) ∨ i = 36 ∨ i = 38 ∨ i = 40 ∨ i = 41 ∨ i = 42) → m2 i = m i := fun i hi => (f4.1 i (by omega) (by omega) (by omega) (by omega)).trans (f3 i (by omega))
  have e35 : ∀ k, k = 4 ∨ k = 8 ∨ k = 9 → m2 35 k = m 35 k := fun k hk => (f4.2 k (by omega) (by omega) (by omega) (by omega)).trans (congrFun (f3 35 (by omega)) k)
  obtain ⟨⟨a1, a2, a3⟩, ⟨b1, b2⟩, ⟨k, c1, c2, c3, c4⟩, ⟨l, d1, d2, d3, d4⟩, e5⟩ := h
  unfold R
  rw [e 36 (by omega), e 0 (by omega), e35 4 (by omega), e 38 (by omega), e 31 (by omega), e35 8 (by omega), e 32 (by omega), e 40 (by omega), e35 9 (by omega), e 33 (by omega), e 41 (by omega), e 34 (by omega), e 42 (by omega)]
  refine ⟨⟨a1.cg (fun i h1 h2 => e i (by omega)) a2.nT7.1, a2, a3⟩, ⟨b1, ?_⟩, ⟨k, c1, c2, c3, c4⟩, ⟨l, d1, d2, d3, d4⟩, e5⟩
  rcases b2 with b2 | ⟨b2, b3, b4, b5⟩
  · exact Or.inl b2
  · exact Or.inr ⟨b2, b3.cg (fun i h1 h2 => e i (by omega)) b4.nT7.1, b4, b5⟩
/-- both codes, one behind the other, answer the same -/
def Op {α : Type} (f g : Mm → Option (α × Mm)) : Prop := ∀ m, R m → ∃ v m1 m2, f m = some (v, m1) ∧ g m1 = some (v, m2) ∧ R m2
/-- a fault -/
def Ft (v : Int32) : Prop := ∃ k, k < 7 ∧ v = -(nI k)
theorem Ft1 : Ft (-1) := ⟨1, by omega, rfl⟩
theorem Ft2 : Ft (-2) := ⟨2, by omega, rfl⟩
theorem Ft3 : Ft (-3) := ⟨3, by omega, rfl⟩
theorem Ft4 : Ft (-4) := ⟨4, by omega, rfl⟩
theorem Ft6 : Ft (-6) := ⟨6, by omega, rfl⟩
theorem nn {k : Nat} (h : k < 7) : -(-(nI k)) = nI k := by
  have a := z_nI (show k < 2147483648 by omega)
  rw [z_eq, z_neg (by rw [z_neg (by omega)]; omega), z_neg (by omega)]
  omega
theorem refuse_s {v : Int32} (hv : Ft v) (m : Mm) : ∃ k, k < 7 ∧ X3_refuse 0 v m = some (v, mset m 34 k (m 34 k + 1)) ∧ ∀ m', X4_no 35 v m' = some (v, mset m' 42 k (m' 42 k + 1)) := by
  obtain ⟨k, hk, rfl⟩ := hv
  refine ⟨k, hk, ?_, fun m' => ?_⟩
  · unfold X3_refuse
    rw [nm_q, nn hk, if_neg (nI_pos (by omega)), show (7 : Int32) = nI 7 from rfl, if_neg (nI_ge hk (by omega)), gd_y (show vin (nI k) 7 from vp_in_nI hk (by omega)), nI_clamp (by omega), nm_q]
  · unfold X4_no
    rw [nn hk, gd_y (show vin (nI k) 7 from vp_in_nI hk (by omega)), nI_clamp (by omega), nm_q]
theorem R_ref {m : Mm} (h : R m) {k : Nat} (hk : k < 7) : R (mset (mset m 34 k (m 34 k + 1)) 42 k (m 42 k + 1)) := by
  obtain ⟨⟨a1, a2, a3⟩, ⟨b1, b2⟩, c, d, e5⟩ := h
  have e : ∀ i, i ≠ 34 → i ≠ 42 → mset (mset m 34 k (m 34 k + 1)) 42 k (m 42 k + 1) i = m i := fun i h1 h2 => by funext j; rw [mset_oo h2, mset_oo h1]
  unfold R
  rw [e 36 (by omega) (by omega), e 0 (by omega) (by omega), e 35 (by omega) (by omega), e 38 (by omega) (by omega), e 31 (by omega) (by omega), e 32 (by omega) (by omega), e 40 (by omega) (by omega), e 33 (by omega) (by omega), e 41 (by omega) (by omega)]
  refine ⟨⟨a1.cg (fun i h1 h2 => e i (by omega) (by omega)) a2.nT7.1, a2, a3⟩, ⟨b1, ?_⟩, c, d, fun j hj => ?_⟩
  · rcases b2 with b2 | ⟨b2, b3, b4, b5⟩
    · exact Or.inl b2
    · exact Or.inr ⟨b2, b3.cg (fun i h1 h2 => e i (by omega) (by omega)) b4.nT7.1, b4, b5⟩
  · by_cases q : j = k
    · subst q
      simp [mset, e5 j hj]
    · simp [mset, q, e5 j hj]
/-- both refuse -/
theorem refuse_op {v : Int32} (hv : Ft v) {m : Mm} (h : R m) : ∃ m1 m2, X3_refuse 0 v m = some (v, m1) ∧ X4_no 35 v m1 = some (v, m2) ∧ R m2 := by
  obtain ⟨k, hk, e1, e2⟩ := refuse_s hv m
  refine ⟨_, _, e1, e2 _, ?_⟩
  have := R_ref h hk
  rw [show mset m 34 k (m 34 k + 1) 42 k = m 42 k by simp [mset]]
  exact this
theorem X0_become_s {o p : Nat} (h : o ≠ p) (m : Mm) : (∀ k, k < 6 → X0_become o p m o k = m p k) ∧ ∀ i, i ≠ o → X0_become o p m i = m i := by
  have hp : (p = o) = False := by simp; exact fun q => h q.symm
  unfold X0_become
  simp only [nm_q]
  refine ⟨fun k hk => ?_, fun i hi => by funext j; simp [mset, hi]⟩
  rcases (by omega : k = 0 ∨ k = 1 ∨ k = 2 ∨ k = 3 ∨ k = 4 ∨ k = 5) with rfl | rfl | rfl | rfl | rfl | rfl <;> simp [mset, hp]
set_option maxHeartbeats 4000000 in
theorem X2_become_L42_s {o p : Nat} (hop : o + 10 ≤ p ∨ p + 10 ≤ o) {T : Nat → Int32} {n : Nat} (hn : n ≤ 7) :
    ∀ (k c fuel : Nat) (m : Mm), k = n - c → c ≤ n → k < fuel → m o 2 = nI n → (∀ c' k, c' < n → k < 6 → m (p + 2 + c') k = T (kx c' k)) → (∀ c' k, c' < c → k < 6 → m (o + 2 + c') k = T (kx c' k)) →
    ∃ m', X2_become_L42 o p fuel (nI c) m = some m' ∧ m' o = m o ∧ (∀ c' k, c' < n → k < 6 → m' (o + 2 + c') k = T (kx c' k)) ∧ FrC o m m' := by
  intro k
  induction k with
  | zero =>
    intro c fuel m hk hc hf h1 h2 h3
    have hcn : c = n := by omega
    subst hcn
    obtain ⟨fuel, rfl⟩ : ∃ q, fuel = q + 1 := ⟨fuel - 1, by omega⟩
    refine ⟨m, ?_, rfl, h3, FrC.rf⟩
    unfold X2_become_L42
    rw [if_pos (by rw [h1]; exact (nI_le_iff (by omega) (by omega)).mpr (Nat.le_refl _))]
  | succ k ih =>
    intro c fuel m hk hc hf h1 h2 h3
    obtain ⟨fuel, rfl⟩ : ∃ q, fuel = q + 1 := ⟨fuel - 1, by omega⟩
    unfold X2_become_L42
    rw [if_neg (by rw [h1, nI_le_iff (by omega) (by omega)]; omega), X2_at_s (by omega), ob_y rfl, X2_at_s (by omega), ob_y rfl]
    simp only [nm_q]
    rw [show nI c + 1 = nI (c + 1) from nI_1 c]
    obtain ⟨g1, g2⟩ := X0_become_s (o := o + 2 + c) (p := p + 2 + c) (by omega) m
    generalize hm : X0_become (o + 2 + c) (p + 2 + c) m = m1 at g1 g2
    have hb : m1 o = m o := g2 o (by omega)
    obtain ⟨m', p1, p2, p3, p4⟩ := ih (c + 1) fuel m1 (by omega) (by omega) (by omega) (by rw [hb]; exact h1) (fun c' k6 hc' hk6 => by rw [g2 _ (by omega)]; exact h2 c' k6 hc' hk6) (fun c' k6 hc' hk6 => by
      by_cases e : c' = c
      · rw [e, g1 k6 hk6, h2 c k6 (by omega) hk6]
      · rw [g2 _ (by omega)]; exact h3 c' k6 (by omega) hk6)
    exact ⟨m', p1, p2.trans hb, p3, FrC.tr (fun i hi => g2 i (by omega)) p4⟩
theorem X2_become_s {o p : Nat} (hop : o + 10 ≤ p ∨ p + 10 ≤ o) {T : Nat → Int32} (hT : TI T) {m : Mm} (h : RC p m T) : ∃ m', X2_become o p m = some m' ∧ RC o m' T ∧ FrC o m m' := by
  obtain ⟨⟨r0, r1, r2, r3, r4⟩, r5⟩ := h
  have hp : (p = o) = False := by simp only [eq_iff_iff, iff_false]; omega
  obtain ⟨n1, n2⟩ := hT.nT7
  unfold X2_become
  simp only [nm_q]
  generalize hm : mset (mset (mset (mset (mset m o 2 (m p 2)) o 3 _) o 4 _) o 5 _) o 6 _ = m1
  have e1 : ∀ i, i ≠ o → m1 i = m i := fun i hi => by subst hm; funext j; simp [mset, hi]
  have e2 : m1 o 2 = T 0 ∧ m1 o 6 = T 1 ∧ m1 o 3 = T 2 ∧ m1 o 4 = T 3 ∧ m1 o 5 = T 4 := by subst hm; simp [mset, hp, r0, r1, r2, r3, r4]
  obtain ⟨m', p1, p2, p3, p4⟩ := X2_become_L42_s hop (T := T) n1 (nT T) 0 LF m1 (by omega) (by omega) (LF_big (by omega)) (by rw [e2.1]; exact n2) (fun c' k hc hk => by rw [e1 _ (by omega)]; exact r5 c' k hc hk) (fun c' k hc hk => absurd hc (by omega))
  refine ⟨m', p1, ⟨by rw [p2]; exact e2, p3⟩, FrC.tr (fun i hi => e1 i (by omega)) p4⟩
theorem X4_lays_L2_s {p q : Nat} (hpq : p ≠ q) : ∀ (k c fuel : Nat) (m : Mm), k = 47 - c → c ≤ 47 → k < fuel → 
    ∃ m', X4_lays_L2 p q fuel (nI c) m = some m' ∧ (∀ i, i ≠ q → m' i = m i) ∧ m' q = fun j => if c ≤ j ∧ j < 47 then m p j else m q j := by
  intro k
  induction k with
  | zero =>
    intro c fuel m hk hc hf
    have hcn : c = 47 := by omega
    subst hcn
    obtain ⟨fuel, rfl⟩ : ∃ q, fuel = q + 1 := ⟨fuel - 1, by omega⟩
    refine ⟨m, ?_, fun _ _ => rfl, by funext j; rw [if_neg (by omega)]⟩
    unfold X4_lays_L2
    rw [show (47 : Int32) = nI 47 from rfl, if_pos ((nI_le_iff (by omega) (by omega)).mpr (Nat.le_refl _))]
  | succ k ih =>
    intro c fuel m hk hc hf
    obtain ⟨fuel, rfl⟩ : ∃ q, fuel = q + 1 := ⟨fuel - 1, by omega⟩
    unfold X4_lays_L2
    rw [show (47 : Int32) = nI 47 from rfl, if_neg (by rw [nI_le_iff (by omega) (by omega)]; omega), gd_y (show vin (nI c) 47 from vp_in_nI (by omega) (by omega)), nI_clamp (by omega)]
    simp only [nm_q]
    rw [show nI c + 1 = nI (c + 1) from nI_1 c]
    obtain ⟨m', p1, p2, p3⟩ := ih (c + 1) fuel (mset m q c (m p c)) (by omega) (by omega) (by omega)
    refine ⟨m', p1, fun i hi => (p2 i hi).trans (by funext j; exact mset_oo hi), ?_⟩
    rw [p3]
    funext j
    by_cases e : j = c
    · rw [if_neg (by omega), if_pos (by omega), e]; simp [mset]
    · by_cases l : c ≤ j ∧ j < 47
      · rw [if_pos (by omega), if_pos l, mset_oo hpq]
      · rw [if_neg (by omega), if_neg l, mset_so e]
theorem X4_lays_s {p q : Nat} (hpq : p ≠ q) (m : Mm) : ∃ m', X4_lays p q m = some m' ∧ (∀ i, i ≠ q → m' i = m i) ∧ m' q = fun j => if j < 47 then m p j else m q j := by
  obtain ⟨m', p1, p2, p3⟩ := X4_lays_L2_s hpq 47 0 LF m (by omega) (by omega) (LF_big (by omega))
  refine ⟨m', p1, p2, ?_⟩
  rw [p3]; funext j
  by_cases l : j < 47
  · rw [if_pos l, if_pos (by omega)]
  · rw [if_neg l, if_neg (by omega)]
/-- what lies in mind -/
theorem mind_s {m : Mm} (h : R m) : ∃ T, TI T ∧ (T 1).toInt ≤ 999 ∧ (∀ j, j < 47 → T j = m 36 j) ∧ (∃ m1, X2_become 11 1 m = some m1 ∧ RC 11 m1 T ∧ FrC 11 m m1) ∧ ∀ m', m' 36 = m 36 → m' 37 = m 37 → ∃ m2, X4_lays 36 37 m' = some m2 ∧ m2 37 = T ∧ ∀ i, i ≠ 37 → m2 i = m' i := by
  obtain ⟨⟨a1, a2, a3⟩, -⟩ := h
  have e : ∀ j, j < 47 → (fun j => if j < 47 then m 36 j else m 37 j) j = m 36 j := fun j hj => if_pos hj
  refine ⟨fun j => if j < 47 then m 36 j else m 37 j, a2.ct e, by rw [e 1 (by omega)]; exact a3, e, ?_, fun m' h1 h2 => ?_⟩
  · obtain ⟨m1, p1, p2, p3⟩ := X2_become_s (o := 11) (p := 1) (by omega) a2 a1
    exact ⟨m1, p1, p2.ct e a2.nT7.1, p3⟩
  · obtain ⟨m2, p1, p2, p3⟩ := X4_lays_s (p := 36) (q := 37) (by omega) m'
    exact ⟨m2, p1, by rw [p3, h1, h2], p2⟩
