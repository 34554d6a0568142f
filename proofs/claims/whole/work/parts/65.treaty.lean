/-! the treaty -/
def lnt (p : Int32) : Int32 := if p = 0 then 2 else 8
def rte (S : Nat → Int32) (q : Int32) : Int32 := if q = 0 then S 2 else S 2 / 2
def trT (S z : Nat → Int32) (p q : Int32) : Nat → Int32 := setT (setT (tz S z) 3 (lnt p)) 2 (rte S q)
def trR (S z : Nat → Int32) (a : Nat) (p q : Int32) : Nat → Int32 := yT a (trT S z p q)
theorem rte_in {S : Nat → Int32} (h : TI S) (q : Int32) : 0 ≤ (rte S q).toInt ∧ (rte S q).toInt ≤ 40 := by
  obtain ⟨_, -, h1, -⟩ := h
  unfold rte
  by_cases g : q = 0
  · rw [if_pos g]; exact h1
  · rw [if_neg g, z_div h1.1 (by rw [t2]; omega), t2]; omega
theorem lnt_in (p : Int32) : 1 ≤ (lnt p).toInt ∧ (lnt p).toInt ≤ 9 := by
  unfold lnt
  by_cases g : p = 0
  · rw [if_pos g]; decide
  · rw [if_neg g]; decide
theorem trT_TI {S z : Nat → Int32} (h : TI S) (p q : Int32) : TI (trT S z p q) := setT_TI (setT_TI (tz_TI h) (Or.inr ⟨rfl, lnt_in p⟩)) (Or.inl ⟨rfl, rte_in h q⟩)
theorem trT_y {S z : Nat → Int32} (p q : Int32) : trT S z p q 1 = S 1 := by unfold trT; rw [setT_o (by omega), setT_o (by omega), tz_lo (by omega)]
theorem rg_ok {a lo hi : Int32} (h : lo.toInt ≤ a.toInt ∧ a.toInt ≤ hi.toInt) : X3_rangeFault a lo hi = 0 := by
  unfold X3_rangeFault
  rw [if_pos (z_le.mpr h.1), if_pos (z_le.mpr h.2)]
theorem thinkTreaty_s {S z : Nat → Int32} (hS : TI S) (hy : (S 1).toInt ≤ 999) {a : Nat} (ha : a ≤ 200) (p q : Int32) {m : Mm} (hr : RC 1 m S) : ∃ m1, X3_thinkTreaty 0 (nI a) p q m = some m1 ∧ RC 11 m1 (trR S z a p q) ∧ FrC 11 m m1 := by
  obtain ⟨m1, p1, p2, p3⟩ := bec_s (z := z) hS hr
  obtain ⟨g1, g2, g3, -⟩ := go_s (trT_TI (z := z) hS p q) (by rw [trT_y]; exact hy) ha
  have r1 : ∀ v, mset m1 11 4 v 1 3 = S 2 := fun v => by rw [mset_oo (by omega), p3 1 (by omega)]; exact hr.1.2.2.1
  have hr2 : RC 11 (mset (mset m1 11 4 (lnt p)) 11 3 (rte S q)) (trT S z p q) := RC_head (RC_head p2 (Or.inr ⟨rfl, rfl⟩)) (Or.inl ⟨rfl, rfl⟩)
  obtain ⟨m2, s1, s2, s3⟩ := g3 _ hr2
  refine ⟨m2, ?_, s2, FrC.tr p3 (FrC.tr (fun i hi => by funext j; rw [mset_oo (by omega), mset_oo (by omega)]) s3)⟩
  have rg3 : X3_rangeFault (rte S q) 0 40 = 0 := rg_ok (rte_in hS q)
  have rgl : X3_rangeFault (lnt p) 1 9 = 0 := rg_ok (lnt_in p)
  unfold X3_thinkTreaty
  rw [ob_y p1]
  by_cases hp : p = 0
  · have el : lnt p = 2 := if_pos hp
    rw [el] at rgl s1
    rw [if_pos hp, ch1, rgl, if_pos rfl, nm2_q]
    simp only [r1]
    by_cases hq : q = 0
    · have er : rte S q = S 2 := if_pos hq
      rw [er] at rg3 s1
      rw [if_pos hq, ch0, rg3, if_pos rfl, nm2_q, ob_y s1]
    · have er : rte S q = S 2 / 2 := if_neg hq
      rw [er] at rg3 s1
      rw [if_neg hq, ch0, rg3, if_pos rfl, nm2_q, ob_y s1]
  · have el : lnt p = 8 := if_neg hp
    rw [el] at rgl s1
    rw [if_neg hp, ch1, rgl, if_pos rfl, nm2_q]
    simp only [r1]
    by_cases hq : q = 0
    · have er : rte S q = S 2 := if_pos hq
      rw [er] at rg3 s1
      rw [if_pos hq, ch0, rg3, if_pos rfl, nm2_q, ob_y s1]
    · have er : rte S q = S 2 / 2 := if_neg hq
      rw [er] at rg3 s1
      rw [if_neg hq, ch0, rg3, if_pos rfl, nm2_q, ob_y s1]
/-- the sum behind the years, by the treaty's two choices -/
def trS (S z : Nat → Int32) (a : Nat) (p q : Int32) (k : Nat) : Int32 := sT (fun c => trR S z a p q (kx c k)) (nT (trR S z a p q))
theorem byTreaty_s {S z : Nat → Int32} (hS : TI S) (hy : (S 1).toInt ≤ 999) {a : Nat} (ha : a ≤ 200) (p q : Int32) {k : Nat} (hk : k < 6) {m : Mm} (h1 : m 36 = S) (h2 : Hi z m) : ∃ m1, X4_byTreaty 35 (nI a) p q (nI k) m = some (trS S z a p q k, m1) ∧ FrM 37 m m1 ∧ m1 36 = S ∧ Hi z m1 := by
  obtain ⟨m1, p1, p2, p3⟩ := lay_s h1 h2
  obtain ⟨g1, g2, -, g4⟩ := go_s (trT_TI (z := z) hS p q) (by rw [trT_y]; exact hy) ha
  obtain ⟨m2, s1, s2, s3⟩ := g4 (mset (mset m1 37 3 (lnt p)) 37 2 (rte S q)) (mset_setT (mset_setT p2))
  have su := X4_sumOf_s (j := k) s2 hk g1.nT7
  have r1 : ∀ v, mset m1 37 3 v 36 2 = S 2 := fun v => by rw [mset_oo (by omega), p3 36 (by omega), h1]
  have fr : FrM 37 m m2 := FrM.tr ⟨fun i i1 _ => p3 i i1, fun k _ _ => congrFun (p3 35 (by omega)) k⟩ (FrM.tr ⟨fun i i1 _ => by funext j; rw [mset_oo i1, mset_oo i1], fun k _ _ => by rw [mset_oo (by omega), mset_oo (by omega)]⟩ s3)
  refine ⟨m2, ?_, fr, (fr.1 36 (by omega) (by omega)).trans h1, fun j hj => ?_⟩
  · have e : (sT (fun c => yT a (trT S z p q) (kx c k)) (nT (yT a (trT S z p q)))) = trS S z a p q k := rfl
    rw [e] at su
    unfold X4_byTreaty
    rw [ob_y p1]
    by_cases hp : p = 0
    · have el : lnt p = 2 := if_pos hp
      rw [el] at s1
      rw [if_pos hp, nm_q]
      simp only [r1]
      by_cases hq : q = 0
      · have er : rte S q = S 2 := if_pos hq
        rw [er] at s1
        rw [if_pos hq, nm_q, ob_y s1, ob_y su]
      · have er : rte S q = S 2 / 2 := if_neg hq
        rw [er] at s1
        rw [if_neg hq, nm_q, ob_y s1, ob_y su]
    · have el : lnt p = 8 := if_neg hp
      rw [el] at s1
      rw [if_neg hp, nm_q]
      simp only [r1]
      by_cases hq : q = 0
      · have er : rte S q = S 2 := if_pos hq
        rw [er] at s1
        rw [if_pos hq, nm_q, ob_y s1, ob_y su]
      · have er : rte S q = S 2 / 2 := if_neg hq
        rw [er] at s1
        rw [if_neg hq, nm_q, ob_y s1, ob_y su]
  · rw [s2, yT_hi (trT_TI hS p q).nT7.1 hj]
    unfold trT
    rw [setT_o (by omega), setT_o (by omega), tz_hi hj]
/-- both keep it -/
def trG (S z : Nat → Int32) (a : Nat) (p q : Int32) : Prop := ¬ trS S z a p q 2 < trS S z a (1 - p) q 2 ∧ ¬ trS S z a p q 5 < trS S z a p (1 - q) 5
theorem bothKeep_s {S z : Nat → Int32} (hS : TI S) (hy : (S 1).toInt ≤ 999) {a : Nat} (ha : a ≤ 200) (p q : Int32) {m : Mm} (hr : RC 1 m S) : ∃ v m1, X3_bothKeep 0 (nI a) p q m = some (v, m1) ∧ FrC 11 m m1 ∧ RC 1 m1 S ∧ ((trG S z a p q ∧ v = 1) ∨ (¬ trG S z a p q ∧ v = 0)) := by
  have n7 := hS.nT7.1
  have nt : ∀ p q, TI (trR S z a p q) := fun p q => (go_s (trT_TI (z := z) hS p q) (by rw [trT_y]; exact hy) ha).1
  obtain ⟨m1, p1, p2, p3⟩ := thinkTreaty_s (z := z) hS hy ha p q hr
  have hr1 : RC 1 m1 S := hr.cg (fun i h1 h2 => p3 i (by omega)) n7
  obtain ⟨m2, q1, q2, q3⟩ := thinkTreaty_s (z := z) hS hy ha (1 - p) q hr1
  have hr2 : RC 1 m2 S := hr1.cg (fun i h1 h2 => q3 i (by omega)) n7
  obtain ⟨m3, s1, s2, s3⟩ := thinkTreaty_s (z := z) hS hy ha p (1 - q) hr2
  have hr3 : RC 1 m3 S := hr2.cg (fun i h1 h2 => s3 i (by omega)) n7
  have a1 : X2_allAmounts 11 m1 = some (trS S z a p q 2) := X2_allAmounts_s p2 (nt p q).nT7
  have a2 : X2_allTaken 11 m1 = some (trS S z a p q 5) := X2_allTaken_s p2 (nt p q).nT7
  have a3 : X2_allAmounts 11 m2 = some (trS S z a (1 - p) q 2) := X2_allAmounts_s q2 (nt _ q).nT7
  have a4 : X2_allTaken 11 m3 = some (trS S z a p (1 - q) 5) := X2_allTaken_s s2 (nt p _).nT7
  unfold X3_bothKeep
  rw [ob_y p1, a1, ob_y rfl, a2, ob_y rfl, ob_y q1, a3, ob_y rfl, ob_y s1, a4, ob_y rfl]
  by_cases g : trS S z a p q 2 < trS S z a (1 - p) q 2
  · rw [if_neg (by rw [z_le]; rw [z_lt] at g; omega)]
    exact ⟨0, m2, rfl, FrC.tr p3 q3, hr2, Or.inr ⟨fun w => w.1 g, rfl⟩⟩
  · rw [if_pos (by rw [z_le]; rw [z_lt] at g; omega)]
    by_cases g2 : trS S z a p q 5 < trS S z a p (1 - q) 5
    · rw [if_pos g2]
      exact ⟨0, m3, rfl, FrC.tr p3 (FrC.tr q3 s3), hr3, Or.inr ⟨fun w => w.2 g2, rfl⟩⟩
    · rw [if_neg g2]
      exact ⟨1, m3, rfl, FrC.tr p3 (FrC.tr q3 s3), hr3, Or.inl ⟨⟨g, g2⟩, rfl⟩⟩
/-- one try of the reference -/
theorem try4_s {S z : Nat → Int32} (hS : TI S) (hy : (S 1).toInt ≤ 999) {a : Nat} (ha : a ≤ 200) {w p q : Int32} (h4 : ¬ 4 ≤ w) (hp : w / 2 = p) (hq : airem w 2 = q) {fuel : Nat} {m : Mm} (h1 : m 36 = S) (h2 : Hi z m) :
    (trG S z a p q → ∃ m1, X4_treaty_L17 (nI a) (fuel + 1) w m = some (10 * p + q, m1) ∧ FrM 37 m m1) ∧ (¬ trG S z a p q → ∃ m1, X4_treaty_L17 (nI a) (fuel + 1) w m = X4_treaty_L17 (nI a) fuel (w + 1) m1 ∧ FrM 37 m m1 ∧ m1 36 = S ∧ Hi z m1) := by
  obtain ⟨m1, a1, a2, a3, a4⟩ := byTreaty_s (z := z) hS hy ha p q (k := 2) (by omega) h1 h2
  obtain ⟨m2, b1, b2, b3, b4⟩ := byTreaty_s (z := z) hS hy ha (1 - p) q (k := 2) (by omega) a3 a4
  obtain ⟨m3, c1, c2, c3, c4⟩ := byTreaty_s (z := z) hS hy ha p q (k := 5) (by omega) b3 b4
  obtain ⟨m4, d1, d2, d3, d4⟩ := byTreaty_s (z := z) hS hy ha p (1 - q) (k := 5) (by omega) c3 c4
  rw [show nI 2 = (2 : Int32) from rfl] at a1 b1
  rw [show nI 5 = (5 : Int32) from rfl] at c1 d1
  have e : X4_treaty_L17 (nI a) (fuel + 1) w m = if trS S z a p q 2 < trS S z a (1 - p) q 2 then X4_treaty_L17 (nI a) fuel (w + 1) m2 else if trS S z a p q 5 < trS S z a p (1 - q) 5 then X4_treaty_L17 (nI a) fuel (w + 1) m4 else some (10 * p + q, m4) := by
    conv => lhs; unfold X4_treaty_L17
    rw [if_neg h4, hp, hq, nm_q, nm_q, ob2_y a1, ob2_y b1, ob2_y c1, ob2_y d1, nm_q, nm_q]
  refine ⟨fun g => ⟨m4, by rw [e, if_neg g.1, if_neg g.2], FrM.tr a2 (FrM.tr b2 (FrM.tr c2 d2))⟩, fun g => ?_⟩
  by_cases g1 : trS S z a p q 2 < trS S z a (1 - p) q 2
  · exact ⟨m2, by rw [e, if_pos g1], FrM.tr a2 b2, b3, b4⟩
  · by_cases g2 : trS S z a p q 5 < trS S z a p (1 - q) 5
    · exact ⟨m4, by rw [e, if_neg g1, if_pos g2], FrM.tr a2 (FrM.tr b2 (FrM.tr c2 d2)), d3, d4⟩
    · exact absurd ⟨g1, g2⟩ g
/-- one try of the class -/
theorem try3_s {S z : Nat → Int32} (hS : TI S) (hy : (S 1).toInt ≤ 999) {a : Nat} (ha : a ≤ 200) {p q : Int32} (h2 : ¬ 2 ≤ q) {k : Int32 → Mm → Option (Int32 × Mm)} {fuel : Nat} {m : Mm} (hr : RC 1 m S) : ∃ m1, FrC 11 m m1 ∧ RC 1 m1 S ∧
    ((trG S z a p q ∧ X3_treaty_L25 (nI a) p k (fuel + 1) q m = some (10 * p + q, m1)) ∨ (¬ trG S z a p q ∧ X3_treaty_L25 (nI a) p k (fuel + 1) q m = X3_treaty_L25 (nI a) p k fuel (q + 1) m1)) := by
  obtain ⟨v, m1, p1, p2, p3, p4⟩ := bothKeep_s (z := z) hS hy ha p q hr
  refine ⟨m1, p2, p3, ?_⟩
  rcases p4 with ⟨g, rfl⟩ | ⟨g, rfl⟩
  · left
    refine ⟨g, ?_⟩
    unfold X3_treaty_L25
    rw [if_neg h2, ob2_y p1, if_neg e01]
  · right
    refine ⟨g, ?_⟩
    conv => lhs; unfold X3_treaty_L25
    rw [if_neg h2, ob2_y p1, if_pos rfl, nm_q]
theorem LF_3 : LF = 3997 + 1 + 1 + 1 := rfl
theorem LF_5 : LF = 3995 + 1 + 1 + 1 + 1 + 1 := rfl
theorem i01 : (0 : Int32) + 1 = 1 := by decide
theorem i11 : (1 : Int32) + 1 = 2 := by decide
theorem i21 : (2 : Int32) + 1 = 3 := by decide
theorem i31 : (3 : Int32) + 1 = 4 := by decide
theorem row3_s {S z : Nat → Int32} (hS : TI S) (hy : (S 1).toInt ≤ 999) {a : Nat} (ha : a ≤ 200) (p : Int32) {k : Int32 → Mm → Option (Int32 × Mm)} {m : Mm} (hr : RC 1 m S) : ∃ m1, FrC 11 m m1 ∧ RC 1 m1 S ∧
    ((trG S z a p 0 ∧ X3_treaty_L25 (nI a) p k LF 0 m = some (10 * p + 0, m1)) ∨ (¬ trG S z a p 0 ∧ trG S z a p 1 ∧ X3_treaty_L25 (nI a) p k LF 0 m = some (10 * p + 1, m1)) ∨ (¬ trG S z a p 0 ∧ ¬ trG S z a p 1 ∧ X3_treaty_L25 (nI a) p k LF 0 m = k 2 m1)) := by
  rw [LF_3]
  generalize 3997 = f
  obtain ⟨m1, p1, p2, p3⟩ := try3_s (z := z) hS hy ha (p := p) (q := 0) (by decide) (k := k) (fuel := f + 1 + 1) hr
  rcases p3 with ⟨g, e⟩ | ⟨g, e⟩
  · exact ⟨m1, p1, p2, Or.inl ⟨g, e⟩⟩
  · obtain ⟨m2, q1, q2, q3⟩ := try3_s (z := z) hS hy ha (p := p) (q := 1) (by decide) (k := k) (fuel := f + 1) p2
    rw [i01] at e
    rcases q3 with ⟨g2, e2⟩ | ⟨g2, e2⟩
    · exact ⟨m2, FrC.tr p1 q1, q2, Or.inr (Or.inl ⟨g, g2, e.trans e2⟩)⟩
    · rw [i11] at e2
      refine ⟨m2, FrC.tr p1 q1, q2, Or.inr (Or.inr ⟨g, g2, e.trans (e2.trans ?_)⟩)⟩
      unfold X3_treaty_L25
      rw [if_pos (by decide)]
theorem treaty_s {S z : Nat → Int32} (hS : TI S) (hy : (S 1).toInt ≤ 999) {a : Nat} (ha : a ≤ 200) {m : Mm} (hr : RC 1 m S) : ∃ v m1, X3_treaty_L17 (nI a) LF 0 m = some (v, m1) ∧ FrC 11 m m1 ∧ ∀ m', m' 36 = S → Hi z m' → ∃ m2, X4_treaty_L17 (nI a) LF 0 m' = some (v, m2) ∧ FrM 37 m' m2 := by
  have X : ∀ (f : Nat) (w : Int32) (m : Mm), ¬ 2 ≤ w → X3_treaty_L17 (nI a) (f + 1) w m = X3_treaty_L25 (nI a) w (fun v16 m17 => X3_treaty_L17 (nI a) f (w + 1) m17) LF 0 m := fun f w m h => by
    conv => lhs; unfold X3_treaty_L17
    rw [if_neg h]
    simp only [nm_q]
  rw [LF_5]
  generalize 3995 = f
  obtain ⟨m1, a1, a2, a3⟩ := row3_s (z := z) hS hy ha 0 (k := fun v16 m17 => X3_treaty_L17 (nI a) (f + 1 + 1 + 1 + 1) (0 + 1) m17) hr
  obtain ⟨m2, b1, b2, b3⟩ := row3_s (z := z) hS hy ha 1 (k := fun v16 m17 => X3_treaty_L17 (nI a) (f + 1 + 1 + 1) (1 + 1) m17) a2
  rw [X _ 0 m (by decide)]
  have S0 := fun m' h1 h2 => @try4_s S z hS hy a ha 0 0 0 (by decide) (by decide) (by decide) (f + 1 + 1 + 1 + 1) m' h1 h2
  have S1 := fun m' h1 h2 => @try4_s S z hS hy a ha 1 0 1 (by decide) (by decide) (by decide) (f + 1 + 1 + 1) m' h1 h2
  have S2 := fun m' h1 h2 => @try4_s S z hS hy a ha 2 1 0 (by decide) (by decide) (by decide) (f + 1 + 1) m' h1 h2
  have S3 := fun m' h1 h2 => @try4_s S z hS hy a ha 3 1 1 (by decide) (by decide) (by decide) (f + 1) m' h1 h2
  rcases a3 with ⟨g, e⟩ | ⟨g, g2, e⟩ | ⟨g, g2, e⟩
  · refine ⟨_, m1, e, a1, fun m' h1 h2 => ?_⟩
    obtain ⟨n1, e1, e2⟩ := (S0 m' h1 h2).1 g
    exact ⟨n1, e1, e2⟩
  · refine ⟨_, m1, e, a1, fun m' h1 h2 => ?_⟩
    obtain ⟨n1, e1, e2, e3, e4⟩ := (S0 m' h1 h2).2 g
    rw [i01] at e1
    obtain ⟨n2, c1, c2⟩ := (S1 n1 e3 e4).1 g2
    exact ⟨n2, e1.trans c1, FrM.tr e2 c2⟩
  · rw [e, i01, X _ 1 m1 (by decide)]
    rcases b3 with ⟨u, e'⟩ | ⟨u, u2, e'⟩ | ⟨u, u2, e'⟩
    · refine ⟨_, m2, e', FrC.tr a1 b1, fun m' h1 h2 => ?_⟩
      obtain ⟨n1, e1, e2, e3, e4⟩ := (S0 m' h1 h2).2 g
      obtain ⟨n2, c1, c2, c3, c4⟩ := (S1 n1 e3 e4).2 g2
      obtain ⟨n3, d1, d2⟩ := (S2 n2 c3 c4).1 u
      rw [i01] at e1
      rw [i11] at c1
      exact ⟨n3, e1.trans (c1.trans d1), FrM.tr e2 (FrM.tr c2 d2)⟩
    · refine ⟨_, m2, e', FrC.tr a1 b1, fun m' h1 h2 => ?_⟩
      obtain ⟨n1, e1, e2, e3, e4⟩ := (S0 m' h1 h2).2 g
      obtain ⟨n2, c1, c2, c3, c4⟩ := (S1 n1 e3 e4).2 g2
      obtain ⟨n3, d1, d2, d3, d4⟩ := (S2 n2 c3 c4).2 u
      obtain ⟨n4, f1, f2⟩ := (S3 n3 d3 d4).1 u2
      rw [i01] at e1
      rw [i11] at c1
      rw [i21] at d1
      exact ⟨n4, e1.trans (c1.trans (d1.trans f1)), FrM.tr e2 (FrM.tr c2 (FrM.tr d2 f2))⟩
    · refine ⟨-9, m2, e'.trans ?_, FrC.tr a1 b1, fun m' h1 h2 => ?_⟩
      · show X3_treaty_L17 (nI a) (f + 1 + 1 + 1) (1 + 1) m2 = _
        unfold X3_treaty_L17
        rw [if_pos (by decide)]
      · obtain ⟨n1, e1, e2, e3, e4⟩ := (S0 m' h1 h2).2 g
        obtain ⟨n2, c1, c2, c3, c4⟩ := (S1 n1 e3 e4).2 g2
        obtain ⟨n3, d1, d2, d3, d4⟩ := (S2 n2 c3 c4).2 u
        obtain ⟨n4, f1, f2, f3, f4⟩ := (S3 n3 d3 d4).2 u2
        rw [i01] at e1
        rw [i11] at c1
        rw [i21] at d1
        rw [i31] at f1
        refine ⟨n4, e1.trans (c1.trans (d1.trans (f1.trans ?_))), FrM.tr e2 (FrM.tr c2 (FrM.tr d2 f2))⟩
        unfold X4_treaty_L17
        rw [if_pos (by decide)]
theorem op_treaty (a1 : Int32) : Op (X3_treaty 0 a1) (X4_treaty 35 a1) := by
  intro m hm
  rcases years_dec a1 with ⟨n, hn, rfl, g3, g4⟩ | ⟨v, hv, v0, g3, g4⟩
  · obtain ⟨v, n1, e1, e2, e3⟩ := treaty_s (z := m 37) hm.1.2.1 hm.1.2.2 hn hm.1.1
    obtain ⟨n2, w1, w2⟩ := e3 n1 (e2 36 (by omega)) (fun j _ => by rw [e2 37 (by omega)])
    refine fin_t (v := v) hm (m1 := n1) (m2 := n2) ?_ e2 ?_ w2.f4
    · unfold X3_treaty
      rw [g3, nm_q, if_pos rfl, e1]
    · unfold X4_treaty
      rw [g4, nm_q, if_pos rfl, w1]
  · refine ref_t hv hm ?_ (fun m' h => ?_)
    · unfold X3_treaty; rw [g3, nm_q, if_neg v0]
    · unfold X4_treaty; rw [g4, nm_q, if_neg v0]
