/-! years: the reference's row, the class's town -/
theorem kx_eq {c a b : Nat} : (kx c a = kx c b) = (a = b) := by simp only [kx, eq_iff_iff]; omega
theorem kx_1 {c k : Nat} : (1 = kx c k) = False := by simp only [kx, eq_iff_iff, iff_false]; omega
theorem kx_1' {c k : Nat} : (kx c k = 1) = False := by simp only [kx, eq_iff_iff, iff_false]; omega
/-- how many casks -/
def nT (T : Nat → Int32) : Nat := (T 0).toNatClampNeg
def sT (f : Nat → Int32) : Nat → Int32
  | 0 => 0
  | c + 1 => sT f c + f c
/-- behind the first m casks of a year (the year itself is told already) -/
def pY (T : Nat → Int32) (rate : Int32) (m : Nat) : Nat → Int32 := fun j => if 5 ≤ j ∧ j < 5 + 6 * m then s_cY (ck T ((j - 5) / 6)) rate (T 1) ((j - 5) % 6) else T j
theorem pY_0 (T : Nat → Int32) (rate : Int32) : pY T rate 0 = T := by funext j; unfold pY; rw [if_neg (by omega)]
theorem pY_hi {T : Nat → Int32} {rate : Int32} {m c k : Nat} (h : m ≤ c) : pY T rate m (kx c k) = T (kx c k) := by unfold pY kx; rw [if_neg (by omega)]
theorem pY_lo {T : Nat → Int32} {rate : Int32} {m c k : Nat} (h : c < m) (hk : k < 6) : pY T rate m (kx c k) = s_cY (ck T c) rate (T 1) k := by
  unfold pY kx
  rw [if_pos (by omega), show (5 + 6 * c + k - 5) / 6 = c by omega, show (5 + 6 * c + k - 5) % 6 = k by omega]
theorem pY_g {T : Nat → Int32} {rate : Int32} {m j : Nat} (h : j < 5) : pY T rate m j = T j := by unfold pY; rw [if_neg (by omega)]
theorem pY_step {T f : Nat → Int32} {rate : Int32} {m : Nat} (hk : ∀ k, k < 6 → f (kx m k) = s_cY (ck T m) rate (T 1) k) (ho : ∀ j, (∀ k, k < 6 → j ≠ kx m k) → f j = pY T rate m j) : f = pY T rate (m + 1) := by
  funext j
  by_cases h : 5 + 6 * m ≤ j ∧ j < 5 + 6 * (m + 1)
  · obtain ⟨k, hk6, rfl⟩ : ∃ k, k < 6 ∧ j = kx m k := ⟨j - (5 + 6 * m), by omega, by unfold kx; omega⟩
    rw [hk k hk6, pY_lo (Nat.lt_succ_self m) hk6]
  · rw [ho j (fun k hk6 e => h (by rw [e]; unfold kx; omega))]
    unfold pY
    by_cases h2 : 5 ≤ j ∧ j < 5 + 6 * m
    · rw [if_pos h2, if_pos (by omega)]
    · rw [if_neg h2, if_neg (by omega)]
def FrM (r : Nat) (mem mem' : Mm) : Prop := (∀ i, i ≠ r → i ≠ 35 → mem' i = mem i) ∧ ∀ k, k ≠ 10 → k ≠ 11 → mem' 35 k = mem 35 k
theorem FrM.rf {r : Nat} {mem : Mm} : FrM r mem mem := ⟨fun _ _ _ => rfl, fun _ _ _ => rfl⟩
theorem FrM.tr {r : Nat} {a b c : Mm} (h1 : FrM r a b) (h2 : FrM r b c) : FrM r a c := ⟨fun i q1 q2 => (h2.1 i q1 q2).trans (h1.1 i q1 q2), fun k q1 q2 => (h2.2 k q1 q2).trans (h1.2 k q1 q2)⟩
theorem nI_lt_iff {a b : Nat} (ha : a < 2147483648) (hb : b < 2147483648) : nI a < nI b ↔ a < b := nI_ltI ha hb
theorem nI_le_iff {a b : Nat} (ha : a < 2147483648) (hb : b < 2147483648) : nI a ≤ nI b ↔ a ≤ b := nI_leI ha hb
set_option maxHeartbeats 4000000 in
theorem X4_yearBy_L41_s {r : Nat} (hr : r ≠ 35) {T : Nat → Int32} {rate : Int32} {n : Nat} (hn : n ≤ 7) (hT : T 0 = nI n) : ∀ (k c fuel : Nat) (mem : Mm), k = n - c → c ≤ n → k < fuel → mem r = pY T rate c → mem 35 10 = sT (fun c => s_n (ck T c) rate) c → mem 35 11 = sT (fun c => s_b (ck T c) rate (T 1)) c →
    ∃ m', X4_yearBy_L41 r rate fuel (nI c) mem = some m' ∧ m' r = pY T rate n ∧ m' 35 10 = sT (fun c => s_n (ck T c) rate) n ∧ m' 35 11 = sT (fun c => s_b (ck T c) rate (T 1)) n ∧ FrM r mem m' := by
  intro k
  induction k with
  | zero =>
    intro c fuel mem hk hc hf h1 h2 h3
    have hcn : c = n := by omega
    subst hcn
    obtain ⟨fuel, rfl⟩ : ∃ q, fuel = q + 1 := ⟨fuel - 1, by omega⟩
    refine ⟨mem, ?_, h1, h2, h3, FrM.rf⟩
    unfold X4_yearBy_L41
    have e0 : mem r 0 = nI c := by rw [h1, pY_g (by omega), hT]
    rw [if_pos (by rw [e0]; exact (nI_le_iff (by omega) (by omega)).mpr (Nat.le_refl _))]
  | succ k ih =>
    intro c fuel mem hk hc hf h1 h2 h3
    obtain ⟨fuel, rfl⟩ : ∃ q, fuel = q + 1 := ⟨fuel - 1, by omega⟩
    have hcn : c < n := by omega
    have hc7 : c < 7 := by omega
    have e0 : mem r 0 = nI n := by rw [h1, pY_g (by omega), hT]
    have ey : mem r 1 = T 1 := by rw [h1, pY_g (by omega)]
    have ec : ∀ k, mem r (kx c k) = T (kx c k) := fun k => by rw [h1, pY_hi (Nat.le_refl c)]
    have e35 : (35 = r) = False := by simp; exact fun q => hr q.symm
    have er35 : (r = 35) = False := by simp; exact hr
    unfold X4_yearBy_L41
    rw [if_neg (by rw [e0, nI_le_iff (by omega) (by omega)]; omega)]
    simp only [nm_y, gd_y (at_in2 hc7), gd_y (at_in5 hc7), gd_y (at_in3 hc7), gd_y (at_in1 hc7), at_cl1 hc7, at_cl2 hc7, at_cl3 hc7, at_cl5 hc7, X4_takesOf_s hc7, X4_strengthOf_s hc7, X4_backOf_s hc7, ob_y rfl]
    have hstep : nI c + 1 = nI (c + 1) := nI_1 c
    have hn0 : s_takes (mem r (kx c 0)) (mem r (kx c 4)) (mem r (kx c 5)) (mem r (kx c 2)) rate = s_n (ck T c) rate := by
      rw [ec, ec, ec, ec]; rfl
    simp only [hn0]
    simp only [mset, if_true, e35, er35, if_false, kx_eq, kx_1, kx_1', ec, ey, h2, h3, reduceIte, Nat.reduceEqDiff]
    by_cases h7 : airem (T 1) 7 = 0
    · rw [if_pos h7, hstep]
      have hb : X4_least (s_back (T (kx c 0)) (T (kx c 4)) (T (kx c 5) + s_n (ck T c) rate)) (T (kx c 1) - (T (kx c 2) - s_n (ck T c) rate)) = s_b (ck T c) rate (T 1) := by
        unfold s_b; rw [if_pos h7]; rfl
      simp only [hb]
      refine (ih (c + 1) fuel _ (by omega) (by omega) (by omega) ?_ ?_ ?_).imp fun m' q => ⟨q.1, q.2.1, q.2.2.1, q.2.2.2.1, FrM.tr ?_ q.2.2.2.2⟩
      · refine pY_step (fun k hk6 => ?_) (fun j hj => ?_)
        · rcases (by omega : k = 0 ∨ k = 1 ∨ k = 2 ∨ k = 3 ∨ k = 4 ∨ k = 5) with rfl | rfl | rfl | rfl | rfl | rfl <;> simp [mset, kx_eq, er35, ec, s_cY, ck]
        · have j2 := hj 2 (by omega)
          have j3 := hj 3 (by omega)
          have j5 := hj 5 (by omega)
          simp [mset, er35, j2, j3, j5, h1]
      · simp [mset, sT, e35]
      · simp [mset, sT, e35]
      · exact ⟨fun i q1 q2 => by funext j; simp [mset, q1, q2], fun k q1 q2 => by simp [mset, e35, q1, q2]⟩
    · rw [if_neg h7, hstep]
      have hb0 : s_b (ck T c) rate (T 1) = 0 := if_neg h7
      refine (ih (c + 1) fuel _ (by omega) (by omega) (by omega) ?_ ?_ ?_).imp fun m' q => ⟨q.1, q.2.1, q.2.2.1, q.2.2.2.1, FrM.tr ?_ q.2.2.2.2⟩
      · refine pY_step (fun k hk6 => ?_) (fun j hj => ?_)
        · rcases (by omega : k = 0 ∨ k = 1 ∨ k = 2 ∨ k = 3 ∨ k = 4 ∨ k = 5) with rfl | rfl | rfl | rfl | rfl | rfl <;> simp [mset, kx_eq, er35, ec, s_cY, ck, hb0]
        · have j2 := hj 2 (by omega)
          have j3 := hj 3 (by omega)
          have j5 := hj 5 (by omega)
          simp [mset, er35, j2, j3, j5, h1]
      · simp [mset, sT, h2, e35]
      · simp [mset, sT, h3, hb0, e35]
      · exact ⟨fun i q1 q2 => by funext j; simp [mset, q1, q2], fun k q1 q2 => by simp [mset, e35, q1, q2]⟩
theorem LF_big {k : Nat} (h : k < 4000) : k < LF := h
/-- the year as told, the rate as it is then -/
def gT (T : Nat → Int32) : Nat → Int32 := fun j => if j = 1 then T 1 + 1 else T j
def rT (T : Nat → Int32) (isL : Prop) [Decidable isL] : Int32 := if isL then X4_least 80 (2 * T 2) else T 2
def y1 (T : Nat → Int32) (rate : Int32) : Nat → Int32 := pY (gT T) rate (nT T)
def bT (T : Nat → Int32) (rate : Int32) : Int32 := sT (fun c => s_b (ck (gT T) c) rate (T 1 + 1)) (nT T)
def tT (T : Nat → Int32) (rate : Int32) : Int32 := sT (fun c => s_n (ck (gT T) c) rate) (nT T)
abbrev lentT (T : Nat → Int32) : Prop := airem (T 1 + 1) (T 3) = 0
def yA (T : Nat → Int32) : Nat → Int32 := y1 T (rT T (lentT T))
def yT : Nat → (Nat → Int32) → (Nat → Int32)
  | 0, T => T
  | k + 1, T => yA (yT k T)
theorem gT_1 (T : Nat → Int32) : gT T 1 = T 1 + 1 := rfl
theorem gT_o {T : Nat → Int32} {j : Nat} (h : j ≠ 1) : gT T j = T j := if_neg h
theorem ck_gT (T : Nat → Int32) (c : Nat) : ck (gT T) c = ck T c := by funext k; exact gT_o (by unfold kx; omega)
theorem y1_g {T : Nat → Int32} {rate : Int32} {j : Nat} (h : j < 5) (h1 : j ≠ 1) : y1 T rate j = T j := by unfold y1; rw [pY_g h, gT_o h1]
theorem y1_1 {T : Nat → Int32} {rate : Int32} : y1 T rate 1 = T 1 + 1 := by unfold y1; rw [pY_g (by omega), gT_1]
theorem y1_c {T : Nat → Int32} {rate : Int32} {c k : Nat} (hc : c < nT T) (hk : k < 6) : y1 T rate (kx c k) = s_cY (ck T c) rate (T 1 + 1) k := by unfold y1; rw [pY_lo hc hk, ck_gT, gT_1]
theorem nT_eq {T : Nat → Int32} {n : Nat} (hn : n ≤ 7) (hT : T 0 = nI n) : nT T = n := by unfold nT; rw [hT]; exact nI_clamp (by omega)
theorem y1_nT {T : Nat → Int32} {rate : Int32} : nT (y1 T rate) = nT T := by unfold nT; rw [y1_g (by omega) (by omega)]
theorem X4_yearBy_s {r : Nat} (hr : r ≠ 35) {mem : Mm} {n : Nat} (hn : n ≤ 7) (hT : mem r 0 = nI n) (b : Int32) :
    ∃ m', X4_yearBy 35 r b mem = some m' ∧ m' r = y1 (mem r) (rT (mem r) (¬ b = 0)) ∧ m' 35 10 = tT (mem r) (rT (mem r) (¬ b = 0)) ∧ m' 35 11 = bT (mem r) (rT (mem r) (¬ b = 0)) ∧ FrM r mem m' := by
  have e35 : (35 = r) = False := by simp; exact fun q => hr q.symm
  have er35 : (r = 35) = False := by simp; exact hr
  have hnT := nT_eq hn hT
  unfold X4_yearBy
  simp only [nm_y]
  by_cases hb : b = 0
  · rw [if_pos hb]
    have key := X4_yearBy_L41_s hr (T := gT (mem r)) (rate := mem r 2) hn (by rw [gT_o (by omega)]; exact hT) n 0 LF (mset (mset (mset mem r 1 (mem r 1 + 1)) 35 10 0) 35 11 0) (by omega) (by omega) (LF_big (by omega)) (by rw [pY_0]; funext j; simp [mset, er35, gT]) (by simp [mset, sT]) (by simp [mset, sT])
    have e2 : mset mem r 1 (mem r 1 + 1) r 2 = mem r 2 := by simp [mset]
    rw [e2]
    have er : rT (mem r) (¬ b = 0) = mem r 2 := by unfold rT; rw [if_neg (by simp [hb])]
    rw [er]
    unfold y1 tT bT
    rw [hnT]
    refine key.imp fun m' q => ⟨q.1, q.2.1, q.2.2.1, q.2.2.2.1, FrM.tr ?_ q.2.2.2.2⟩
    exact ⟨fun i q1 q2 => by funext j; simp [mset, q1, q2], fun k q1 q2 => by simp [mset, e35, q1, q2]⟩
  · rw [if_neg hb]
    have key := X4_yearBy_L41_s hr (T := gT (mem r)) (rate := X4_least 80 (2 * mem r 2)) hn (by rw [gT_o (by omega)]; exact hT) n 0 LF (mset (mset (mset mem r 1 (mem r 1 + 1)) 35 10 0) 35 11 0) (by omega) (by omega) (LF_big (by omega)) (by rw [pY_0]; funext j; simp [mset, er35, gT]) (by simp [mset, sT]) (by simp [mset, sT])
    have e2 : mset mem r 1 (mem r 1 + 1) r 2 = mem r 2 := by simp [mset]
    rw [e2]
    have er : rT (mem r) (¬ b = 0) = X4_least 80 (2 * mem r 2) := by unfold rT; rw [if_pos (by simp [hb])]
    rw [er]
    unfold y1 tT bT
    rw [hnT]
    refine key.imp fun m' q => ⟨q.1, q.2.1, q.2.2.1, q.2.2.2.1, FrM.tr ?_ q.2.2.2.2⟩
    exact ⟨fun i q1 q2 => by funext j; simp [mset, q1, q2], fun k q1 q2 => by simp [mset, e35, q1, q2]⟩
theorem X4_year_s {r : Nat} (hr : r ≠ 35) {mem : Mm} {n : Nat} (hn : n ≤ 7) (hT : mem r 0 = nI n) (h3 : ¬ mem r 3 = 0) :
    ∃ m', X4_year 35 r mem = some m' ∧ m' r = yA (mem r) ∧ m' 35 10 = tT (mem r) (rT (mem r) (lentT (mem r))) ∧ m' 35 11 = bT (mem r) (rT (mem r) (lentT (mem r))) ∧ FrM r mem m' := by
  unfold X4_year yA
  rw [gd_y h3]
  by_cases hl : lentT (mem r)
  · have hl' : airem (mem r 1 + 1) (mem r 3) = 0 := hl
    rw [if_pos hl']
    obtain ⟨m', q1, q⟩ := X4_yearBy_s hr hn hT 1
    refine ⟨m', by rw [q1]; rfl, ?_⟩
    have e : rT (mem r) (lentT (mem r)) = rT (mem r) (¬ (1 : Int32) = 0) := by unfold rT; rw [if_pos hl, if_pos (by decide)]
    rw [e]; exact q
  · have hl' : ¬ airem (mem r 1 + 1) (mem r 3) = 0 := hl
    rw [if_neg hl']
    obtain ⟨m', q1, q⟩ := X4_yearBy_s hr hn hT 0
    refine ⟨m', by rw [q1]; rfl, ?_⟩
    have e : rT (mem r) (lentT (mem r)) = rT (mem r) (¬ (0 : Int32) = 0) := by unfold rT; rw [if_neg hl, if_neg (by decide)]
    rw [e]; exact q
theorem yA_0 (T : Nat → Int32) : yA T 0 = T 0 := y1_g (by omega) (by omega)
theorem yA_g {T : Nat → Int32} {j : Nat} (h : j < 5) (h1 : j ≠ 1) : yA T j = T j := y1_g h h1
theorem yA_1 (T : Nat → Int32) : yA T 1 = T 1 + 1 := y1_1
theorem yT_g {T : Nat → Int32} {j : Nat} (h : j < 5) (h1 : j ≠ 1) (k : Nat) : yT k T j = T j := by
  induction k with
  | zero => rfl
  | succ k ih => rw [yT, yA_g h h1, ih]
theorem X4_yearsOn_L2_s {r : Nat} (hr : r ≠ 35) {T : Nat → Int32} {n a : Nat} (hn : n ≤ 7) (hT : T 0 = nI n) (h3 : ¬ T 3 = 0) (ha : a < 100000) : ∀ (k i fuel : Nat) (mem : Mm), k = a - i → i ≤ a → k < fuel → mem r = yT i T →
    ∃ m', X4_yearsOn_L2 r (nI a) fuel (nI i) mem = some m' ∧ m' r = yT a T ∧ FrM r mem m' := by
  intro k
  induction k with
  | zero =>
    intro i fuel mem hk hi hf h1
    have : i = a := by omega
    subst this
    obtain ⟨fuel, rfl⟩ : ∃ q, fuel = q + 1 := ⟨fuel - 1, by omega⟩
    refine ⟨mem, ?_, h1, FrM.rf⟩
    unfold X4_yearsOn_L2
    rw [if_pos ((nI_le_iff (by omega) (by omega)).mpr (Nat.le_refl _))]
  | succ k ih =>
    intro i fuel mem hk hi hf h1
    obtain ⟨fuel, rfl⟩ : ∃ q, fuel = q + 1 := ⟨fuel - 1, by omega⟩
    unfold X4_yearsOn_L2
    rw [if_neg (by rw [nI_le_iff (by omega) (by omega)]; omega)]
    obtain ⟨m1, q1, q2, -, -, q5⟩ := X4_year_s hr (mem := mem) hn (by rw [h1, yT_g (by omega) (by omega)]; exact hT) (by rw [h1, yT_g (by omega) (by omega)]; exact h3)
    rw [ob_y q1]
    simp only [nm_y]
    rw [show nI i + 1 = nI (i + 1) from nI_1 i]
    obtain ⟨m', p1, p2, p3⟩ := ih (i + 1) fuel m1 (by omega) (by omega) (by omega) (by rw [q2, h1]; rfl)
    exact ⟨m', p1, p2, FrM.tr q5 p3⟩
theorem X4_yearsOn_s {r : Nat} (hr : r ≠ 35) {mem : Mm} {n a : Nat} (hn : n ≤ 7) (hT : mem r 0 = nI n) (h3 : ¬ mem r 3 = 0) (ha : a < 3900) : ∃ m', X4_yearsOn 35 r (nI a) mem = some m' ∧ m' r = yT a (mem r) ∧ FrM r mem m' := by
  unfold X4_yearsOn
  exact X4_yearsOn_L2_s hr hn hT h3 (by omega) a 0 LF mem (by omega) (by omega) (LF_big (by omega)) rfl
