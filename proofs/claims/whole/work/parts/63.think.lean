/-! thinking with something changed -/
def tz (S z : Nat → Int32) : Nat → Int32 := fun j => if j < 47 then S j else z j
def Hi (z : Nat → Int32) (m : Mm) : Prop := ∀ j, 47 ≤ j → m 37 j = z j
theorem tz_lo {S z : Nat → Int32} {j : Nat} (h : j < 47) : tz S z j = S j := if_pos h
theorem tz_hi {S z : Nat → Int32} {j : Nat} (h : 47 ≤ j) : tz S z j = z j := if_neg (by omega)
theorem tz_nT {S z : Nat → Int32} : nT (tz S z) = nT S := by unfold nT; rw [tz_lo (by omega)]
theorem tz_TI {S z : Nat → Int32} (h : TI S) : TI (tz S z) := h.ct (fun j hj => tz_lo hj)
theorem yT_hi {T : Nat → Int32} (hn : nT T ≤ 7) {j : Nat} (hj : 47 ≤ j) : ∀ n, yT n T j = T j := by
  have key : ∀ U : Nat → Int32, nT U ≤ 7 → yA U j = U j := fun U hU => by
    unfold yA y1 pY
    rw [if_neg (by omega), gT_o (by omega)]
  have kn : ∀ n, nT (yT n T) = nT T := by
    intro n
    induction n with
    | zero => rfl
    | succ n ih => rw [yT]; unfold yA; rw [y1_nT, ih]
  intro n
  induction n with
  | zero => rfl
  | succ n ih => rw [yT, key _ (by rw [kn]; exact hn), ih]
theorem bec_s {S z : Nat → Int32} (h : TI S) {m : Mm} (hr : RC 1 m S) : ∃ m1, X2_become 11 1 m = some m1 ∧ RC 11 m1 (tz S z) ∧ FrC 11 m m1 := by
  obtain ⟨m1, p1, p2, p3⟩ := X2_become_s (o := 11) (p := 1) (by omega) h hr
  exact ⟨m1, p1, p2.ct (fun j hj => tz_lo hj) h.nT7.1, p3⟩
theorem lay_s {S z : Nat → Int32} {m : Mm} (h1 : m 36 = S) (h2 : Hi z m) : ∃ m2, X4_lays 36 37 m = some m2 ∧ m2 37 = tz S z ∧ ∀ i, i ≠ 37 → m2 i = m i := by
  obtain ⟨m2, p1, p2, p3⟩ := X4_lays_s (p := 36) (q := 37) (by omega) m
  refine ⟨m2, p1, ?_, p2⟩
  rw [p3, h1]; funext j
  unfold tz
  by_cases l : j < 47
  · rw [if_pos l, if_pos l]
  · rw [if_neg l, if_neg l, h2 j (by omega)]
theorem go_s {T : Nat → Int32} (h : TI T) (hy : (T 1).toInt ≤ 999) {n : Nat} (hn : n ≤ 200) : TI (yT n T) ∧ nT (yT n T) = nT T ∧ (∀ m, RC 11 m T → ∃ m1, X2_goOn 11 (nI n) m = some m1 ∧ RC 11 m1 (yT n T) ∧ FrC 11 m m1) ∧ ∀ m, m 37 = T → ∃ m2, X4_yearsOn 35 37 (nI n) m = some m2 ∧ m2 37 = yT n T ∧ FrM 37 m m2 := by
  obtain ⟨u1, u2, u3⟩ := yT_1 h n (by omega)
  have n7 := h.nT7
  refine ⟨u1, u3, fun m hm => X2_goOn_s h (a := n) (by omega) hm, fun m hm => ?_⟩
  obtain ⟨m3, v1, v2, v3⟩ := X4_yearsOn_s (r := 37) (by omega) (mem := m) (n := nT T) (a := n) n7.1 (by rw [hm]; exact n7.2) (by rw [hm]; intro z; obtain ⟨_, -, -, q, -⟩ := h; rw [z, t0] at q; omega) (by omega)
  exact ⟨m3, v1, by rw [v2, hm], v3⟩
/-- a cask made of iron -/
def irT (T : Nat → Int32) (c : Nat) : Nat → Int32 := fun j => if j = kx c 0 then 3 else T j
theorem irT_k {T : Nat → Int32} {c k : Nat} (hk : k ≠ 0) : irT T c (kx c k) = T (kx c k) := if_neg (by unfold kx; omega)
theorem irT_o {T : Nat → Int32} {c j : Nat} (h : ∀ k, k < 6 → j ≠ kx c k) : irT T c j = T j := if_neg (h 0 (by omega))
theorem irT_TI {T : Nat → Int32} (h : TI T) {c : Nat} (hc : c < nT T) : TI (irT T c) := by
  refine TI_cask h hc (fun j hj => irT_o hj) ?_
  obtain ⟨-, q2, q3, q4, q5, q6⟩ := h.ci hc
  have e0 : ck (irT T c) c 0 = 3 := if_pos rfl
  have ek : ∀ k, k ≠ 0 → ck (irT T c) c k = ck T c k := fun k hk => irT_k hk
  unfold CI
  rw [e0, ek 1 (by omega), ek 2 (by omega), ek 3 (by omega), ek 4 (by omega), ek 5 (by omega), t3]
  exact ⟨by omega, q2, q3, q4, q5, q6⟩
theorem irT_nT {T : Nat → Int32} {c : Nat} : nT (irT T c) = nT T := by unfold nT irT; rw [if_neg (by unfold kx; omega)]
theorem iron_s {S z : Nat → Int32} (hS : TI S) (hy : (S 1).toInt ≤ 999) {a : Nat} (ha : a ≤ 200) : ∀ (k c fuel : Nat) (f b : Int32) (m : Mm), k = nT S - c → c ≤ nT S → k < fuel → RC 1 m S →
    ∃ v m1, X3_iron_L35 (nI a) fuel f b (nI c) m = some (v, m1) ∧ FrC 11 m m1 ∧ ∀ m', m' 36 = S → Hi z m' → ∃ m2, X4_iron_L36 (nI a) fuel b f (nI c) m' = some (v, m2) ∧ FrM 37 m' m2 := by
  have n7 := hS.nT7
  intro k
  induction k with
  | zero =>
    intro c fuel f b m hk hc hf hr
    have hcn : c = nT S := by omega
    obtain ⟨fuel, rfl⟩ : ∃ q, fuel = q + 1 := ⟨fuel - 1, by omega⟩
    have q : nI (nT S) ≤ nI c := by rw [hcn]; exact (nI_le_iff (by omega) (by omega)).mpr (Nat.le_refl _)
    refine ⟨f, m, ?_, FrC.rf, fun m' h3 _ => ⟨m', ?_, FrM.rf⟩⟩
    · unfold X3_iron_L35; rw [hr.1.1, n7.2, if_pos q]
    · unfold X4_iron_L36; rw [h3, n7.2, if_pos q]
  | succ k ih =>
    intro c fuel f b m hk hc hf hr
    obtain ⟨fuel, rfl⟩ : ∃ q, fuel = q + 1 := ⟨fuel - 1, by omega⟩
    have q : ¬ nI (nT S) ≤ nI c := by rw [nI_le_iff (by omega) (by omega)]; omega
    have hcn : c < nT S := by omega
    have hc7 : c < 7 := by omega
    have hT : TI (irT (tz S z) c) := irT_TI (tz_TI hS) (by rw [tz_nT]; exact hcn)
    have hTy : (irT (tz S z) c 1).toInt ≤ 999 := by unfold irT; rw [if_neg (by unfold kx; omega), tz_lo (by omega)]; exact hy
    obtain ⟨g1, g2, g3, g4⟩ := go_s hT hTy ha
    obtain ⟨m1, p1, p2, p3⟩ := bec_s (z := z) hS hr
    have hr2 : RC 11 (mset m1 (11 + 2 + c) 0 3) (irT (tz S z) c) := by
      refine RC_cask p2 (c := c) (by funext j; exact mset_oo (by omega)) (by rw [tz_nT]; exact n7.1) (fun c' q q7 => by funext j; exact mset_oo (by omega)) (fun k hk => ?_) (fun j hj => irT_o hj)
      by_cases z0 : k = 0
      · subst z0; rw [mset_ss]; exact (if_pos rfl).symm
      · rw [mset_so z0, irT_k z0, p2.2 c k (by rw [tz_nT]; exact hcn) hk]
    obtain ⟨m2, s1, s2, s3⟩ := g3 _ hr2
    have fr : FrC 11 m m2 := FrC.tr p3 (FrC.tr (fun i hi => by funext j; exact mset_oo (by omega)) s3)
    have am := X2_allAmounts_s s2 g1.nT7
    have hr3 : RC 1 m2 S := hr.cg (fun i h1 h2 => fr i (by omega)) n7.1
    generalize hy2 : sT (fun c_1 => yT a (irT (tz S z) c) (kx c_1 2)) (nT (yT a (irT (tz S z) c))) = y at am
    have x4 : ∀ m', m' 36 = S → Hi z m' → ∃ m3, FrM 37 m' m3 ∧ m3 36 = S ∧ Hi z m3 ∧ X4_iron_L36 (nI a) (fuel + 1) b f (nI c) m' = if b < y then X4_iron_L36 (nI a) fuel y (nI c) (nI (c + 1)) m3 else X4_iron_L36 (nI a) fuel b f (nI (c + 1)) m3 := fun m' h3 h4 => by
      obtain ⟨m2', l1, l2, l3⟩ := lay_s h3 h4
      obtain ⟨m3, w1, w2, w3⟩ := g4 (mset m2' 37 (kx c 0) 3) (by
        funext j
        unfold irT
        by_cases e : j = kx c 0
        · rw [e, mset_ss, if_pos rfl]
        · rw [mset_so e, if_neg e, l2])
      have fr4 : FrM 37 m' m3 := FrM.tr ⟨fun i h1 h2 => l3 i h1, fun k h1 h2 => congrFun (l3 35 (by omega)) k⟩ (FrM.tr ⟨fun i h1 h2 => by funext j; exact mset_oo h1, fun k h1 h2 => mset_oo (by omega)⟩ w3)
      refine ⟨m3, fr4, (fr4.1 36 (by omega) (by omega)).trans h3, fun j hj => ?_, ?_⟩
      · rw [w2, yT_hi hT.nT7.1 hj]
        unfold irT; rw [if_neg (by unfold kx; omega), tz_hi hj]
      · have su := X4_sumOf_2 w2 g1.nT7
        rw [hy2] at su
        conv => lhs; unfold X4_iron_L36
        rw [h3, n7.2, if_neg q, ob_y l1, gd_y (at_in0 hc7), at_cl0 hc7, nm_q, ob_y w1, ob_y su, nm_q, nm_q, nI_1]
    have x3 : X3_iron_L35 (nI a) (fuel + 1) f b (nI c) m = if y ≤ b then X3_iron_L35 (nI a) fuel f b (nI (c + 1)) m2 else X3_iron_L35 (nI a) fuel (nI c) y (nI (c + 1)) m2 := by
      conv => lhs; unfold X3_iron_L35
      rw [hr.1.1, n7.2, if_neg q, ob_y p1, X2_at_s hc7, ob_y rfl, nm_q, ob_y s1, am, ob_y rfl, ob_y rfl, nm_q, nm_q, nI_1]
    by_cases g : b < y
    · obtain ⟨v, n1, e1, e2, e3⟩ := ih (c + 1) fuel (nI c) y m2 (by omega) (by omega) (by omega) hr3
      refine ⟨v, n1, ?_, FrC.tr fr e2, fun m' h3 h4 => ?_⟩
      · rw [x3, if_neg (by rw [z_le]; rw [z_lt] at g; omega), e1]
      · obtain ⟨m3, f3, h5, h6, h7⟩ := x4 m' h3 h4
        obtain ⟨n2, w1, w2⟩ := e3 m3 h5 h6
        exact ⟨n2, by rw [h7, if_pos g, w1], FrM.tr f3 w2⟩
    · obtain ⟨v, n1, e1, e2, e3⟩ := ih (c + 1) fuel f b m2 (by omega) (by omega) (by omega) hr3
      refine ⟨v, n1, ?_, FrC.tr fr e2, fun m' h3 h4 => ?_⟩
      · rw [x3, if_pos (by rw [z_le]; rw [z_lt] at g; omega), e1]
      · obtain ⟨m3, f3, h5, h6, h7⟩ := x4 m' h3 h4
        obtain ⟨n2, w1, w2⟩ := e3 m3 h5 h6
        exact ⟨n2, by rw [h7, if_neg g, w1], FrM.tr f3 w2⟩
theorem op_iron (a1 : Int32) : Op (X3_iron 0 a1) (X4_iron 35 a1) := by
  intro m hm
  rcases years_dec a1 with ⟨n, hn, rfl, g3, g4⟩ | ⟨v, hv, v0, g3, g4⟩
  · obtain ⟨T, T1, T2, ⟨m1, p1, p2, p3⟩, p4⟩ := think_s hm hn
    have hr1 : RC 1 m1 (m 36) := hm.1.1.cg (fun i h1 h2 => p3 i (by omega)) hm.nT.1
    obtain ⟨v, n1, e1, e2, e3⟩ := iron_s (z := T) hm.1.2.1 hm.1.2.2 hn (nT (m 36)) 0 LF (-9) (sT (fun c => T (kx c 2)) (nT T)) m1 (by omega) (by omega) (LF_big (by have := hm.nT.1; omega)) hr1
    have pf := FrC.tr p3 e2
    obtain ⟨m2, q1, q2, q3⟩ := p4 n1 (pf 36 (by omega)) (pf 37 (by omega))
    obtain ⟨n2, w1, w2⟩ := e3 m2 ((q3.1 36 (by omega) (by omega)).trans (pf 36 (by omega))) (fun j _ => by rw [q2])
    rw [nI_z] at e1 w1
    refine fin_t (v := v) hm (m1 := n1) (m2 := n2) ?_ pf ?_ (Fr4.tr q3.f4 w2.f4)
    · unfold X3_iron
      rw [g3, nm_q, if_pos rfl, ob_y p1, X2_allAmounts_s p2 T1.nT7, ob_y rfl, e1]
    · unfold X4_iron
      rw [g4, nm_q, if_pos rfl, ob_y q1, X4_sumOf_2 q2 T1.nT7, ob_y rfl, w1]
  · refine ref_t hv hm ?_ (fun m' h => ?_)
    · unfold X3_iron; rw [g3, nm_q, if_neg v0]
    · unfold X4_iron; rw [g4, nm_q, if_neg v0]
