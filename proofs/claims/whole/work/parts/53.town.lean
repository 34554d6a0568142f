/-! years: the class's town -/
/-- not by rfl: simp then leaves no unfolding to the kernel -/
theorem nm_q {α β : Type} (x : α) (k : α → β) : nm x k = k x := (nm_y x k).trans (Eq.refl (k x))
theorem mmin_comm (x y : Int32) : mmin x y = mmin y x := by
  unfold mmin
  by_cases h : y < x
  · rw [if_pos h, if_neg (by rw [z_lt] at h ⊢; omega)]
  · rw [if_neg h]
    by_cases h2 : x < y
    · rw [if_pos h2]
    · rw [if_neg h2, z_eq]
      rw [z_lt] at h h2
      omega
set_option maxHeartbeats 4000000 in
theorem X0_goOn_s {o : Nat} {mem : Mm} {rate year : Int32} {B : Int} (h : CI (mem o) B) (hB : B ≤ 1000000) (hr : 0 ≤ rate.toInt ∧ rate.toInt ≤ 80) :
    (∀ k, k < 6 → X0_goOn o rate year mem o k = s_cY (mem o) rate year k) ∧ (∀ i, i ≠ o → X0_goOn o rate year mem i = mem i) := by
  have hn := s_n_in h hr
  have hcy := s_cY_in (year := year) h hB hr
  obtain ⟨⟨k1, k2⟩, ⟨s1, s2⟩, ⟨a1, a2⟩, ⟨st1, st2⟩, ⟨f1, f2⟩, g1, g2⟩ := h
  have hnm : X0_angelsPart o (mem o 2) rate mem = s_n (mem o) rate := by rw [X0_angelsPart_s]; rfl
  have e2 : (mem o 2 - s_n (mem o) rate).toInt = (mem o 2).toInt - (s_n (mem o) rate).toInt := by rw [z_sub] <;> omega
  have e3 : (mem o 1 - (mem o 2 - s_n (mem o) rate)).toInt = (mem o 1).toInt - ((mem o 2).toInt - (s_n (mem o) rate).toInt) := by rw [z_sub, e2] <;> omega
  have hbb : mmin (if airem year 7 = 0 then s_back (mem o 0) (mem o 4) (mem o 5 + s_n (mem o) rate) else 0) (mem o 1 - (mem o 2 - s_n (mem o) rate)) = s_b (mem o) rate year := by
    unfold s_b
    by_cases h7 : airem year 7 = 0
    · rw [if_pos h7, if_pos h7, least_eq, mmin_comm]
    · rw [if_neg h7, if_neg h7]
      unfold mmin
      rw [if_neg (by rw [z_lt, e3, t0]; omega)]
  have hgo : X0_goOn o rate year mem = mset (mset (mset (mset (mset mem o 5 (mem o 5 + s_n (mem o) rate)) o 2 (mem o 2 - s_n (mem o) rate)) o 3 (s_str (mem o 0) (mem o 3) year)) o 5 (mem o 5 + s_n (mem o) rate - s_b (mem o) rate year)) o 2 (mem o 2 - s_n (mem o) rate + s_b (mem o) rate year) := by
    unfold X0_goOn
    simp only [nm_y, hnm]
    rw [X0_strengthIn_s (by simp only [mset, reduceIte, Nat.reduceEqDiff]; exact ⟨st1, st2⟩), X0_sentBackIn_s (by simp only [mset, reduceIte, Nat.reduceEqDiff]; exact ⟨k1, k2⟩)]
    simp only [mset, reduceIte, Nat.reduceEqDiff, hbb]
  rw [hgo]
  refine ⟨fun k hk => ?_, fun i hi => by funext j; simp [mset, hi]⟩
  rcases (by omega : k = 0 ∨ k = 1 ∨ k = 2 ∨ k = 3 ∨ k = 4 ∨ k = 5) with rfl | rfl | rfl | rfl | rfl | rfl <;> simp [mset, s_cY]
/-- a town of the class, as the row T tells it -/
def RC (b : Nat) (mem : Mm) (T : Nat → Int32) : Prop := (mem b 2 = T 0 ∧ mem b 6 = T 1 ∧ mem b 3 = T 2 ∧ mem b 4 = T 3 ∧ mem b 5 = T 4) ∧ ∀ c k, c < nT T → k < 6 → mem (b + 2 + c) k = T (kx c k)
def TI (T : Nat → Int32) : Prop := ∃ n, (n ≤ 7 ∧ T 0 = nI n) ∧ (0 ≤ (T 2).toInt ∧ (T 2).toInt ≤ 40) ∧ (1 ≤ (T 3).toInt ∧ (T 3).toInt ≤ 9) ∧ (0 ≤ (T 4).toInt ∧ (T 4).toInt ≤ 9) ∧ (0 ≤ (T 1).toInt ∧ (T 1).toInt ≤ 1300) ∧ ∀ c, c < n → CI (ck T c) (400 * (T 1).toInt)
def FrC (b : Nat) (mem mem' : Mm) : Prop := ∀ i, (i < b ∨ b + 10 ≤ i) → mem' i = mem i
theorem FrC.rf {b : Nat} {mem : Mm} : FrC b mem mem := fun _ _ => rfl
theorem FrC.tr {b : Nat} {m1 m2 m3 : Mm} (h1 : FrC b m1 m2) (h2 : FrC b m2 m3) : FrC b m1 m3 := fun i h => (h2 i h).trans (h1 i h)
theorem TI.nT7 {T : Nat → Int32} (h : TI T) : nT T ≤ 7 ∧ T 0 = nI (nT T) := by
  obtain ⟨n, ⟨h1, h2⟩, -⟩ := h
  rw [nT_eq h1 h2]; exact ⟨h1, h2⟩
theorem TI.ci {T : Nat → Int32} (h : TI T) {c : Nat} (hc : c < nT T) : CI (ck T c) (400 * (T 1).toInt) := by
  obtain ⟨n, ⟨h1, h2⟩, -, -, -, -, h7⟩ := h
  rw [nT_eq h1 h2] at hc; exact h7 c hc
theorem rT_in {T : Nat → Int32} (h : TI T) (p : Prop) [Decidable p] : 0 ≤ (rT T p).toInt ∧ (rT T p).toInt ≤ 80 := by
  obtain ⟨n, -, ⟨h1, h2⟩, -⟩ := h
  have t80 : (80 : Int32).toInt = 80 := rfl
  unfold rT
  split
  · have e : (2 * T 2).toInt = 2 * (T 2).toInt := by rw [z_mul (by rw [t2]; omega) (by rw [t2]; omega), t2]
    rw [z_least, e, t80]; split <;> omega
  · omega
theorem yA_c {T : Nat → Int32} {c k : Nat} (hc : c < nT T) (hk : k < 6) : yA T (kx c k) = s_cY (ck T c) (rT T (lentT T)) (T 1 + 1) k := y1_c hc hk
theorem CI.mono {K : Nat → Int32} {B B' : Int} (h : CI K B) (hb : B ≤ B') : CI K B' := by
  obtain ⟨h1, h2, h3, h4, h5, h6, h7⟩ := h
  exact ⟨h1, h2, h3, h4, h5, h6, by omega⟩
theorem CI.cong {K K' : Nat → Int32} {B : Int} (h : CI K B) (e : ∀ k, k < 6 → K' k = K k) : CI K' B := by
  unfold CI at h ⊢
  rw [e 0 (by omega), e 1 (by omega), e 2 (by omega), e 3 (by omega), e 4 (by omega), e 5 (by omega)]
  exact h
theorem y1_TI {T : Nat → Int32} (h : TI T) (hy : (T 1).toInt < 1300) {rate : Int32} (hr : 0 ≤ rate.toInt ∧ rate.toInt ≤ 80) : TI (y1 T rate) := by
  have hci := @TI.ci T h
  have hn := h.nT7
  obtain ⟨n, ⟨h1, h2⟩, h3, h4, h5, h6, h7⟩ := h
  have e1 : (T 1 + 1).toInt = (T 1).toInt + 1 := by rw [z_add (by rw [t1]; omega) (by rw [t1]; omega), t1]
  refine ⟨nT T, ⟨hn.1, by rw [y1_g (by omega) (by omega)]; exact hn.2⟩, by rw [y1_g (by omega) (by omega)]; exact h3, by rw [y1_g (by omega) (by omega)]; exact h4, by rw [y1_g (by omega) (by omega)]; exact h5, by rw [y1_1, e1]; omega, fun c hc => ?_⟩
  have q := (s_cY_in (year := T 1 + 1) (hci hc) (by omega) hr).1
  rw [y1_1, e1]
  refine (CI.cong q (fun k hk => y1_c hc hk)).mono (by omega)
theorem yA_TI {T : Nat → Int32} (h : TI T) (hy : (T 1).toInt < 1300) : TI (yA T) := y1_TI h hy (rT_in h _)
theorem yT_1 {T : Nat → Int32} (h : TI T) : ∀ k : Nat, (T 1).toInt + k ≤ 1300 → TI (yT k T) ∧ (yT k T 1).toInt = (T 1).toInt + k ∧ nT (yT k T) = nT T := by
  intro k
  induction k with
  | zero => intro _; exact ⟨h, by simp [yT], rfl⟩
  | succ k ih =>
    intro hk
    obtain ⟨i1, i2, i3⟩ := ih (by omega)
    refine ⟨yA_TI i1 (by omega), ?_, by rw [yT]; unfold yA; rw [y1_nT, i3]⟩
    rw [yT, yA_1]
    have b := h
    obtain ⟨n, -, -, -, -, h6, -⟩ := b
    rw [z_add (by rw [t1]; omega) (by rw [t1]; omega), t1]
    omega
theorem X2_at_s {b c : Nat} (hc : c < 7) : X2_at b (nI c) = some (b + 2 + c) := by
  unfold X2_at
  rw [if_neg (nI_pos (by omega)), show (7 : Int32) = nI 7 from rfl, if_neg (nI_ge hc (by omega)), gd_y (show vin (nI c) 7 from vp_in_nI hc (by omega)), nI_clamp (by omega), show b + 1 + 1 + c = b + 2 + c by omega]
set_option maxHeartbeats 4000000 in
theorem X2_goOn_L49_s {b : Nat} {T : Nat → Int32} {rate a8 a9 : Int32} {n : Nat} (hn : n ≤ 7) {B : Int} (hB : B ≤ 1000000) (hci : ∀ c, c < n → CI (ck T c) B) (hr : 0 ≤ rate.toInt ∧ rate.toInt ≤ 80) {kf : Int32 → Mm → Option Mm} :
    ∀ (k c fuel : Nat) (mem : Mm), k = n - c → c ≤ n → k < fuel → mem b 2 = nI n → mem b 6 = T 1 → (∀ c' k, c' < n → k < 6 → mem (b + 2 + c') k = pY T rate c (kx c' k)) →
    ∃ m', X2_goOn_L49 b a8 a9 rate kf fuel (nI c) mem = kf (nI n) m' ∧ m' b = mem b ∧ (∀ c' k, c' < n → k < 6 → m' (b + 2 + c') k = pY T rate n (kx c' k)) ∧ FrC b mem m' := by
  intro k
  induction k with
  | zero =>
    intro c fuel mem hk hc hf h1 h2 h3
    have hcn : c = n := by omega
    subst hcn
    obtain ⟨fuel, rfl⟩ : ∃ q, fuel = q + 1 := ⟨fuel - 1, by omega⟩
    refine ⟨mem, ?_, rfl, h3, FrC.rf⟩
    unfold X2_goOn_L49
    rw [if_pos (by rw [h1]; exact (nI_le_iff (by omega) (by omega)).mpr (Nat.le_refl _))]
  | succ k ih =>
    intro c fuel mem hk hc hf h1 h2 h3
    obtain ⟨fuel, rfl⟩ : ∃ q, fuel = q + 1 := ⟨fuel - 1, by omega⟩
    have hcn : c < n := by omega
    unfold X2_goOn_L49
    rw [if_neg (by rw [h1, nI_le_iff (by omega) (by omega)]; omega), X2_at_s (by omega), ob_y rfl]
    simp only [nm_q]
    rw [show nI c + 1 = nI (c + 1) from nI_1 c]
    have hK : ∀ k, k < 6 → mem (b + 2 + c) k = ck T c k := fun k hk => by rw [h3 c k hcn hk, pY_hi (Nat.le_refl c)]; rfl
    obtain ⟨g1, g2⟩ := X0_goOn_s (year := mem b 6) (CI.cong (hci c hcn) hK) hB hr
    have scong : ∀ k, k < 6 → s_cY (mem (b + 2 + c)) rate (mem b 6) k = s_cY (ck T c) rate (T 1) k := by
      intro k hk
      unfold s_cY s_n s_b s_n
      rw [hK 0 (by omega), hK 1 (by omega), hK 2 (by omega), hK 3 (by omega), hK 4 (by omega), hK 5 (by omega), hK k hk, h2]
    generalize hm : X0_goOn (b + 2 + c) rate (mem b 6) mem = m1 at g1 g2
    have hbb : m1 b = mem b := g2 b (by omega)
    obtain ⟨m', p1, p2, p3, p4⟩ := ih (c + 1) fuel m1 (by omega) (by omega) (by omega) (by rw [hbb]; exact h1) (by rw [hbb]; exact h2) (fun c' k6 hc' hk6 => by
      by_cases e : c' = c
      · rw [e, g1 k6 hk6, scong k6 hk6, pY_lo (Nat.lt_succ_self _) hk6]
      · rw [g2 (b + 2 + c') (by omega), h3 c' k6 hc' hk6]
        by_cases l : c' < c
        · rw [pY_lo l hk6, pY_lo (by omega) hk6]
        · rw [pY_hi (by omega), pY_hi (by omega)])
    exact ⟨m', p1, p2.trans hbb, p3, FrC.tr (fun i hi => g2 i (by omega)) p4⟩
theorem X2_rateBy_s {b : Nat} {mem : Mm} {T : Nat → Int32} (h : mem b 3 = T 2) (p : Prop) [Decidable p] (v : Int32) (hv : v = if p then 1 else 0) : X2_rateBy b v mem = rT T p := by
  unfold X2_rateBy rT
  subst hv
  by_cases hp : p
  · rw [if_pos hp, if_neg (by decide), if_pos hp, h, least_eq]
  · rw [if_neg hp, if_pos rfl, if_neg hp, h]
/-- one year of the class's town: the loop over its casks, whatever the rate's name -/
theorem X2_goOn_y {b : Nat} {U : Nat → Int32} (u1 : TI U) (u2 : (U 1).toInt < 1300) {mem : Mm} (h1 : RC b mem U) {a8 a9 : Int32} (p : Prop) [Decidable p] {v : Int32} (hv : v = if p then 1 else 0) (hp : lentT U ↔ p) {kf : Int32 → Mm → Option Mm} :
    ∃ m1, X2_goOn_L49 b a8 a9 (X2_rateBy b v (mset mem b 6 (mem b 6 + 1))) kf LF 0 (mset mem b 6 (mem b 6 + 1)) = kf (nI (nT U)) m1 ∧ RC b m1 (yA U) ∧ FrC b mem m1 := by
  obtain ⟨⟨r1, r2, r3, r4, r5⟩, r6⟩ := h1
  have un := u1.nT7
  have uci := @TI.ci U u1
  have er : rT U p = rT U (lentT U) := by
    unfold rT
    by_cases q : p
    · rw [if_pos q, if_pos (hp.mpr q)]
    · rw [if_neg q, if_neg (fun z => q (hp.mp z))]
  have u1' := u1
  obtain ⟨n, -, w2, w3, w4, w5, -⟩ := u1'
  have g6 : mset mem b 6 (mem b 6 + 1) b 6 = U 1 + 1 := by simp [mset, r2]
  rw [X2_rateBy_s (T := U) (by simp [mset, r3]) p v hv, er]
  obtain ⟨m1, p1, p2, p3, p4⟩ := X2_goOn_L49_s (b := b) (T := gT U) (rate := rT U (lentT U)) (a8 := a8) (a9 := a9) (n := nT U) un.1 (B := 400 * (U 1).toInt) (by omega) (fun c hc => by rw [ck_gT]; exact uci hc) (rT_in u1 _) (kf := kf) (nT U) 0 LF (mset mem b 6 (mem b 6 + 1)) (by omega) (by omega) (LF_big (by omega)) (by simp [mset, r1]; exact un.2) (by rw [g6, gT_1]) (fun c' k hc' hk => by
    rw [mset_oo (by omega), pY_0, gT_o (by unfold kx; omega)]
    exact r6 c' k hc' hk)
  refine ⟨m1, p1, ⟨⟨?_, ?_, ?_, ?_, ?_⟩, fun c k hc hk => ?_⟩, FrC.tr (fun j hj => by funext k; exact mset_oo (by omega)) p4⟩
  · rw [p2, yA_0]; simp [mset, r1]
  · rw [p2, g6, yA_1]
  · rw [p2, yA_g (by omega) (by omega)]; simp [mset, r3]
  · rw [p2, yA_g (by omega) (by omega)]; simp [mset, r4]
  · rw [p2, yA_g (by omega) (by omega)]; simp [mset, r5]
  · have hc2 : c < nT U := by unfold yA at hc; rw [y1_nT] at hc; exact hc
    rw [p3 c k hc2 hk]
    unfold yA y1
    rfl
set_option maxHeartbeats 4000000 in
theorem X2_goOn_L2_s {b : Nat} {T : Nat → Int32} (hT : TI T) {a : Nat} (ha : (T 1).toInt + a ≤ 1300) (hY : 0 ≤ (T 1).toInt) : ∀ (k i fuel : Nat) (mem : Mm), k = a - i → i ≤ a → k < fuel → RC b mem (yT i T) →
    ∃ m', X2_goOn_L2 b (nI a) fuel (nI i) mem = some m' ∧ RC b m' (yT a T) ∧ FrC b mem m' := by
  intro k
  induction k with
  | zero =>
    intro i fuel mem hk hi hf h1
    have : i = a := by omega
    subst this
    obtain ⟨fuel, rfl⟩ : ∃ q, fuel = q + 1 := ⟨fuel - 1, by omega⟩
    refine ⟨mem, ?_, h1, FrC.rf⟩
    unfold X2_goOn_L2
    rw [if_pos ((nI_le_iff (by omega) (by omega)).mpr (Nat.le_refl _))]
  | succ k ih =>
    intro i fuel mem hk hi hf h1
    obtain ⟨fuel, rfl⟩ : ∃ q, fuel = q + 1 := ⟨fuel - 1, by omega⟩
    obtain ⟨u1, u2, u3⟩ := yT_1 hT i (by omega)
    have hS : ∀ m1, RC b m1 (yA (yT i T)) → FrC b mem m1 → ∃ m', X2_goOn_L2 b (nI a) fuel (nI i + 1) m1 = some m' ∧ RC b m' (yT a T) ∧ FrC b mem m' := by
      intro m1 hRC hF
      obtain ⟨m', s1, s2, s3⟩ := ih (i + 1) fuel m1 (by omega) (by omega) (by omega) hRC
      exact ⟨m', (congrArg (fun z => X2_goOn_L2 b (nI a) fuel z m1) (nI_1 i)).trans s1, s2, FrC.tr hF s3⟩
    clear ih hf
    generalize hU : yT i T = U at h1 u1 u2 u3 hS
    have h1' := h1
    obtain ⟨⟨r1, r2, r3, r4, r5⟩, -⟩ := h1'
    have u1' := u1
    obtain ⟨n, -, w2, w3, w4, w5, -⟩ := u1'
    unfold X2_goOn_L2
    rw [if_neg (by rw [nI_le_iff (by omega) (by omega)]; omega)]
    simp only [nm_q]
    have g4 : mset mem b 6 (mem b 6 + 1) b 4 = U 3 := by simp [mset, r4]
    have g6 : mset mem b 6 (mem b 6 + 1) b 6 = U 1 + 1 := by simp [mset, r2]
    rw [g4, g6, if_neg (by rw [z_le, t0]; omega), gd_y (by intro z; rw [z, t0] at w3; omega)]
    by_cases hl : airem (U 1 + 1) (U 3) = 0
    · rw [if_pos hl]
      obtain ⟨m1, p1, p2, p3⟩ := X2_goOn_y u1 (by omega) h1 (a8 := nI a) (a9 := nI i) True (v := 1) (if_pos trivial).symm ⟨fun _ => trivial, fun _ => hl⟩ (kf := fun v17 m18 => X2_goOn_L2 b (nI a) fuel (nI i + 1) m18)
      rw [p1]
      exact hS m1 p2 p3
    · rw [if_neg hl]
      obtain ⟨m1, p1, p2, p3⟩ := X2_goOn_y u1 (by omega) h1 (a8 := nI a) (a9 := nI i) False (v := 0) (if_neg id).symm ⟨fun q => hl q, fun q => q.elim⟩ (kf := fun v17 m18 => X2_goOn_L2 b (nI a) fuel (nI i + 1) m18)
      rw [p1]
      exact hS m1 p2 p3
theorem X2_goOn_s {b : Nat} {T : Nat → Int32} (hT : TI T) {a : Nat} (ha : (T 1).toInt + a ≤ 1300) {mem : Mm} (h : RC b mem T) : ∃ m', X2_goOn b (nI a) mem = some m' ∧ RC b m' (yT a T) ∧ FrC b mem m' := by
  have hY : 0 ≤ (T 1).toInt := by obtain ⟨n, -, -, -, -, h6, -⟩ := hT; exact h6.1
  unfold X2_goOn
  exact X2_goOn_L2_s hT ha hY a 0 LF mem (by omega) (by omega) (LF_big (by omega)) h
