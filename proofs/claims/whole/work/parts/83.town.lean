/-! town: statement by statement; the whole -/
theorem st_all {L : Nat → Int32} {k : Nat} {m : Mm} (hk : LB L k) (h : LR L k m) {p sh : Nat} (hp : p ≤ 96) (hs : 52 ≤ sh ∧ sh < 58) (hc : lt L k p = pf1 sh) (G : Gd L k p sh) {T : Nat → Int32} (hT : TI T) (hy : (T 1).toInt ≤ 999) (hr : RC 11 m T) : St L k p sh T m := by
  rcases (by omega : sh = 52 ∨ (sh = 53 ∨ sh = 54 ∨ sh = 55) ∨ sh = 56 ∨ sh = 57) with rfl | z | rfl | rfl
  · exact st_c hk h hp hc G hT hy hr
  · exact st_rle hk h hp z hc G hT hy hr
  · exact st_p hk h hp hc G hT hy hr
  · exact st_y hk h hp hc G hT hy hr
theorem rl_skip {L : Nat → Int32} {k : Nat} {m : Mm} (hk : LB L k) (h : LR L k m) {p sh : Nat} (hs : 52 ≤ sh ∧ sh < 58) (G : Gd L k p sh) {w4 w5 : Int32} : ∀ d i fuel, d = pl sh - 1 - i → i + 1 ≤ pl sh → X3_readLetters_L36 (fuel + d) w4 w5 (nI (p + i)) m = X3_readLetters_L36 fuel w4 w5 (nI (p + (pl sh - 1))) m := by
  have hpl := pl_in hs
  have hgk := gd_k hk hs G
  have hk96 := hk.1
  intro d
  induction d with
  | zero =>
    intro i fuel hd hi
    have : i = pl sh - 1 := by omega
    rw [this]; rfl
  | succ d ih =>
    intro i fuel hd hi
    have hn := (pc_dec sh hs.2 i (by omega) hs.1).2.1 (by omega)
    have f := G i (by omega)
    have hne : ¬ lt L k (p + i) = 59 := fun z => by rw [z] at f; exact hn f
    have := ih (i + 1) fuel (by omega) (by omega)
    rw [show fuel + (d + 1) = fuel + d + 1 from rfl]
    conv => lhs; unfold X3_readLetters_L36
    rw [h.1, if_neg (nI_nl2 (by omega) (by omega) (by omega)), x1at hk h (by omega), ob_y rfl, if_neg hne, nm_q, nI_1]
    exact this
theorem rl_st {L : Nat → Int32} {k : Nat} {m : Mm} (hk : LB L k) (h : LR L k m) {p sh : Nat} (hs : 52 ≤ sh ∧ sh < 58) (G : Gd L k p sh) {w4 : Int32} (fuel : Nat) : X3_readLetters_L36 (fuel + pl sh) w4 (nI p) (nI p) m = ob2 (X3_statementFault 0 (nI p) m) (fun y m' => if y = 0 then X3_readLetters_L36 fuel (w4 + 1) (nI (p + pl sh)) (nI (p + pl sh)) m' else some (-2000 - nI p, m')) := by
  have hpl := pl_in hs
  have hgk := gd_k hk hs G
  have hk96 := hk.1
  have e := rl_skip hk h hs G (w4 := w4) (w5 := nI p) (pl sh - 1) 0 (fuel + 1) (by omega) (by omega)
  rw [show fuel + 1 + (pl sh - 1) = fuel + pl sh by omega, Nat.add_zero] at e
  have f := G (pl sh - 1) (by omega)
  have hpc := (pc_dec sh hs.2 (pl sh - 1) (by omega) hs.1).2.2.2 (by omega)
  rw [hpc] at f
  have h59 : lt L k (p + (pl sh - 1)) = 59 := by
    unfold fit at f
    rw [if_neg (by decide), if_neg (by decide)] at f
    exact f
  rw [e]
  conv => lhs; unfold X3_readLetters_L36
  rw [h.1, if_neg (nI_nl2 (by omega) (by omega) (by omega)), x1at hk h (by omega), ob_y rfl, if_pos h59, nI_1, show p + (pl sh - 1) + 1 = p + pl sh by omega]
  rfl
def Fdd (m m' : Mm) : Prop := (∀ i, i ≠ 35 → i ≠ 36 → i ≠ 43 → m' i = m i) ∧ ∀ j, j ≠ 10 → j ≠ 11 → j ≠ 12 → m' 35 j = m 35 j
theorem Fdd.rf {m : Mm} : Fdd m m := ⟨fun _ _ _ _ => rfl, fun _ _ _ _ => rfl⟩
theorem Fdd.tr {a b c : Mm} (h1 : Fdd a b) (h2 : Fdd b c) : Fdd a c := ⟨fun i q1 q2 q3 => (h2.1 i q1 q2 q3).trans (h1.1 i q1 q2 q3), fun j q1 q2 q3 => (h2.2 j q1 q2 q3).trans (h1.2 j q1 q2 q3)⟩
theorem Fp.fdd {a b : Mm} (h : Fp a b) : Fdd a b := ⟨fun i q1 _ q3 => h.1 i q1 q3, fun j _ _ q => h.2 j q⟩
theorem FrM.fdd {a b : Mm} (h : FrM 36 a b) : Fdd a b := ⟨fun i q1 q2 _ => h.1 i q2 q1, fun j q1 q2 _ => h.2 j q1 q2⟩
theorem LQ.fdd {L : Nat → Int32} {k : Nat} {m m' : Mm} (h : LQ L k m) (f : Fdd m m') : LQ L k m' := ⟨(f.2 8 (by omega) (by omega) (by omega)).trans h.1, fun j hj => (congrFun (f.1 40 (by omega) (by omega) (by omega)) j).trans (h.2 j hj)⟩
theorem LR.fc {L : Nat → Int32} {k : Nat} {m m' : Mm} (h : LR L k m) (f : FrC 11 m m') : LR L k m' := ⟨(congrFun (f 31 (by omega)) 1).trans h.1, fun j hj => (congrFun (f 32 (by omega)) j).trans (h.2 j hj)⟩
theorem m2000 {q : Nat} (hq : q ≤ 96) : ¬ (-2000 : Int32) - nI q = -9 := by
  have e1 : (-2000 : Int32).toInt = -2000 := rfl
  have e2 : (-9 : Int32).toInt = -9 := rfl
  have e3 := z_nI (show q < 2147483648 by omega)
  rw [z_eq, z_sub (by omega) (by omega)]
  omega
theorem rd_s {L : Nat → Int32} {k : Nat} (hk : LB L k) {v : Int32} {K : Int32 → Mm → Option (Int32 × Mm)} : ∀ n p fuel (w4 : Int32) (T : Nat → Int32) (m : Mm), Txt L k n p → k - p < fuel → TI T → (T 1).toInt ≤ 999 → RC 11 m T → LR L k m →
    (∃ T' m1, X3_readLetters_L36 fuel w4 (nI p) (nI p) m = ob (X2_become 1 11 m1) (fun m9 => some (w4 + nI n, m9)) ∧ RC 11 m1 T' ∧ TI T' ∧ (T' 1).toInt ≤ 999 ∧ FrC 11 m m1 ∧ ∀ fuel2 m', n + 1 < fuel2 → LQ L k m' → m' 35 12 = nI p → m' 36 = T → ∃ m2, X4_town_L62 v K fuel2 (-9) m' = K (-9) m2 ∧ m2 36 = T' ∧ Fdd m' m2) ∨
    (∃ q m1, q ≤ 96 ∧ X3_readLetters_L36 fuel w4 (nI p) (nI p) m = some (-2000 - nI q, m1) ∧ FrC 11 m m1 ∧ ∀ fuel2 m', n + 1 < fuel2 → LQ L k m' → m' 35 12 = nI p → m' 36 = T → ∃ m2 m3, X4_town_L62 v K fuel2 (-9) m' = K (-2000 - nI q) m3 ∧ Fdd m' m2 ∧ (∀ i, i ≠ 36 → m3 i = m2 i) ∧ m3 36 = fun j => if j < 47 then m2 39 j else m2 36 j) := by
  have hk96 := hk.1
  intro n
  induction n with
  | zero =>
    intro p fuel w4 T m ht hf hT hy hr hL
    have hpk : p = k := ht
    subst hpk
    obtain ⟨fuel, rfl⟩ : ∃ q, fuel = q + 1 := ⟨fuel - 1, by omega⟩
    refine Or.inl ⟨T, m, ?_, hr, hT, hy, FrC.rf, fun fuel2 m' hf2 hQ h12 h36 => ⟨m', ?_, h36, Fdd.rf⟩⟩
    · conv => lhs; unfold X3_readLetters_L36
      rw [hL.1, if_pos (nI_yle (by omega) (by omega) (Nat.le_refl _)), nI_z, Int32.add_zero]
    · obtain ⟨fuel2, rfl⟩ : ∃ q, fuel2 = q + 1 := ⟨fuel2 - 1, by omega⟩
      conv => lhs; unfold X4_town_L62
      rw [if_pos rfl, hQ.1, h12, if_pos (nI_yle (by omega) (by omega) (Nat.le_refl _))]
  | succ n ih =>
    intro p fuel w4 T m ⟨t1, s, G, t4⟩ hf hT hy hr hL
    have hpl := pl_in s
    have hgk := gd_k hk s G
    have hc : lt L k p = pf1 (sp L k p) := by
      rcases sh_dec (lt L k p) with ⟨e, -⟩ | ⟨-, e⟩
      · unfold sp at s; omega
      · exact e
    obtain ⟨fuel, rfl⟩ : ∃ q, fuel = q + pl (sp L k p) := ⟨fuel - pl (sp L k p), by omega⟩
    have u := rl_st hk hL s G (w4 := w4) fuel
    have rd : ∀ fuel2 m', LQ L k m' → m' 35 12 = nI p → ∃ m2, Fp m' m2 ∧ m2 35 12 = nI (p + pl (sp L k p)) ∧ NN L k p (sp L k p) m2 ∧ X4_town_L62 v K (fuel2 + 1) (-9) m' = ob2 (X4_isDone 35 (pf1 (sp L k p)) m2) (fun y m24 => if y = 0 then (nm ((-2000) - nI p) (fun v26 => ob (X4_lays 39 36 m24) (fun m27 => X4_town_L62 v K fuel2 v26 m27))) else (X4_town_L62 v K fuel2 (-9) m24)) := fun fuel2 m' hQ h12 => by
      rcases rst_1 hk (show p ≤ 96 by omega) hQ h12 s with ⟨i, m2, B, -⟩ | ⟨-, m2, e, h2, f, N⟩
      · exact absurd (G i B.2.1) B.2.2.2
      · refine ⟨m2, f, h2, N, ?_⟩
        conv => lhs; unfold X4_town_L62
        rw [if_pos rfl, hQ.1, h12, if_neg (nI_nl2 (by omega) (by omega) t1), nm_q, x4here hk hQ (by omega) h12, ob_y rfl, e, ob2_y rfl, hc]
    rcases st_all hk hL (show p ≤ 96 by omega) s hc G hT hy hr with ⟨T1, m1, e1, r1, i1, y1, f1, g1⟩ | ⟨vv, m1, e1, v0, f1, g1⟩
    · rw [e1, ob2_y rfl, if_pos rfl] at u
      rcases ih (p + pl (sp L k p)) fuel (w4 + 1) T1 m1 t4 (by omega) i1 y1 r1 (hL.fc f1) with ⟨T', m9, x1, x2, x3, x4, x5, x6⟩ | ⟨q, m9, x0, x1, x2, x3⟩
      · refine Or.inl ⟨T', m9, ?_, x2, x3, x4, FrC.tr f1 x5, fun fuel2 m' hf2 hQ h12 h36 => ?_⟩
        · rw [u, x1, Int32.add_assoc, Int32.add_comm 1, nI_1]
        · obtain ⟨fuel2, rfl⟩ : ∃ q, fuel2 = q + 1 := ⟨fuel2 - 1, by omega⟩
          obtain ⟨m2, d1, d2, d3, d4⟩ := rd fuel2 m' hQ h12
          obtain ⟨m3, d5, d6, d7⟩ := g1 m2 ((d1.1 36 (by omega) (by omega)).trans h36) d3
          have fd := Fdd.tr d1.fdd d7.fdd
          obtain ⟨m4, z1, z2, z3⟩ := x6 fuel2 m3 (by omega) (hQ.fdd fd) ((d7.2 12 (by omega) (by omega)).trans d2) d6
          exact ⟨m4, by rw [d4, d5, ob2_y rfl, if_neg e01, z1], z2, Fdd.tr fd z3⟩
      · refine Or.inr ⟨q, m9, x0, by rw [u, x1], FrC.tr f1 x2, fun fuel2 m' hf2 hQ h12 h36 => ?_⟩
        obtain ⟨fuel2, rfl⟩ : ∃ q, fuel2 = q + 1 := ⟨fuel2 - 1, by omega⟩
        obtain ⟨m2, d1, d2, d3, d4⟩ := rd fuel2 m' hQ h12
        obtain ⟨m3, d5, d6, d7⟩ := g1 m2 ((d1.1 36 (by omega) (by omega)).trans h36) d3
        have fd := Fdd.tr d1.fdd d7.fdd
        obtain ⟨m4, m5, z1, z2, z3⟩ := x3 fuel2 m3 (by omega) (hQ.fdd fd) ((d7.2 12 (by omega) (by omega)).trans d2) d6
        exact ⟨m4, m5, by rw [d4, d5, ob2_y rfl, if_neg e01, z1], Fdd.tr fd z2, z3⟩
    · rw [e1, ob2_y rfl, if_neg v0] at u
      refine Or.inr ⟨p, m1, by omega, u, f1, fun fuel2 m' hf2 hQ h12 h36 => ?_⟩
      obtain ⟨fuel2, rfl⟩ : ∃ q, fuel2 = q + 1 + 1 := ⟨fuel2 - 2, by omega⟩
      obtain ⟨m2, d1, d2, d3, d4⟩ := rd (fuel2 + 1) m' hQ h12
      obtain ⟨m3, d5, d6⟩ := g1 m2 ((d1.1 36 (by omega) (by omega)).trans h36) d3
      obtain ⟨m4, z1, z2, z3⟩ := X4_lays_s (p := 39) (q := 36) (by omega) m3
      refine ⟨m3, m4, ?_, Fdd.tr d1.fdd d6.fdd, z2, z3⟩
      rw [d4, d5, ob2_y rfl, if_pos rfl, nm_q, z1, ob_y rfl]
      unfold X4_town_L62
      rw [if_neg (m2000 (by omega))]
/-- R when the letters are no more -/
theorem R_told {m m' : Mm} (hm : R m) (h1 : RC 1 m' (m' 36)) (h2 : TI (m' 36)) (h3 : (m' 36 1).toInt ≤ 999) (e : ∀ i, i = 0 ∨ (21 ≤ i ∧ i < 31) ∨ i = 33 ∨ i = 34 ∨ i = 38 ∨ i = 41 ∨ i = 42 → m' i = m i) (e4 : m' 35 4 = m 35 4) (e9 : m' 35 9 = m 35 9) (z1 : m' 31 1 = 0) (z2 : m' 35 8 = 0) : R m' := by
  obtain ⟨-, ⟨b1, b2⟩, -, ⟨l, d1, d2, d3, d4⟩, e5⟩ := hm
  refine ⟨⟨h1, h2, h3⟩, ?_, ⟨0, by omega, z1, z2, fun j hj => absurd hj (by omega)⟩, ⟨l, d1, ?_, ?_, ?_⟩, ?_⟩
  · rw [e 0 (by omega), e4, e 38 (by omega)]
    refine ⟨b1, ?_⟩
    rcases b2 with b2 | ⟨b2, b3, b4, b5⟩
    · exact Or.inl b2
    · exact Or.inr ⟨b2, b3.cg (fun i h1 h2 => e i (by omega)) b4.nT7.1, b4, b5⟩
  · rw [e 0 (by omega)]; exact d2
  · rw [e9]; exact d3
  · rw [e 33 (by omega), e 41 (by omega)]; exact d4
  · rw [e 34 (by omega), e 42 (by omega)]; exact e5
theorem op_town : Op (X3_town 0) (X4_town 35) := by
  intro m hm
  obtain ⟨k, hk, l1, l2, l3⟩ := hm.2.2.1
  have hn7 := hm.nT
  have hLB : LB (m 32) k := ⟨hk, fun j hj => by
    obtain ⟨-, h2, h3⟩ := l3 j hj
    obtain ⟨v, v1, v2, v3⟩ := z_of h2
    exact ⟨v, by omega, v1⟩⟩
  have hLR : LR (m 32) k m := ⟨l1, fun j hj => rfl⟩
  have hLQ : LQ (m 32) k m := ⟨l2, fun j hj => (l3 j hj).1.symm⟩
  -- the first reading goes wrong
  have wrong : ∀ q, q ≤ 96 → X1_firstWrong 31 m = some (nI q) → (∀ m', LQ (m 32) k m' → m' 35 12 = nI 0 → ∃ v m2, Fp m' m2 ∧ X4_town_L10 LF 0 (-9) m' = rEnd v (-1000 - nI q) m2) → ∃ v m1 m2, X3_town 0 m = some (v, m1) ∧ X4_town 35 m1 = some (v, m2) ∧ R m2 := by
    intro q hq hw hx
    have e0 : ∀ i, i ≠ 31 → mset m 31 1 0 i = m i := fun i hi => by funext y; exact mset_oo hi
    have hL2 : LQ (m 32) k (mset (mset m 31 1 0) 35 12 0) := ⟨by rw [mset_so (by omega), e0 35 (by omega)]; exact hLQ.1, fun j hj => by rw [mset_oo (by omega), e0 40 (by omega)]; exact hLQ.2 j hj⟩
    obtain ⟨v, m2, f2, x2⟩ := hx _ hL2 mset_ss
    obtain ⟨m3, y1, y2, y3⟩ := X4_lays_s (p := 36) (q := 39) (by omega) m2
    refine ⟨-1000 - nI q, mset m 31 1 0, mset (mset m3 35 12 0) 35 8 0, ?_, ?_, ?_⟩
    · unfold X3_town X3_readLetters X1_forget
      rw [hw, ob_y rfl, if_neg (nI_pos (by omega)), ob2_y rfl, nm_q, nm_q]
    · unfold X4_town
      rw [nm_q, x2]
      unfold rEnd
      obtain ⟨lf, hlf⟩ : ∃ f, LF = f + 1 := ⟨LF - 1, by have := LF_big (show 0 < 4000 by omega); omega⟩
      rw [y1, ob_y rfl, nm_q, hlf]
      unfold X4_town_L62
      rw [if_neg (m1000 hq), nm_q, if_neg (m1000 hq)]
    · have e : ∀ i, i ≠ 31 → i ≠ 35 → i ≠ 43 → i ≠ 39 → mset (mset m3 35 12 0) 35 8 0 i = m i := fun i h1 h2 h3 h4 => by
        have a := y2 i h4
        have b := f2.1 i h2 h3
        have c : mset (mset m 31 1 0) 35 12 0 i = m i := by funext y; rw [mset_oo h2, mset_oo h1]
        funext y
        rw [mset_oo h2, mset_oo h2, a, b, c]
      have e35 : ∀ j, j ≠ 12 → j ≠ 8 → mset (mset m3 35 12 0) 35 8 0 35 j = m 35 j := fun j h1 h2 => by
        rw [mset_so h2, mset_so h1, y2 35 (by omega), f2.2 j h1, mset_so h1, e0 35 (by omega)]
      have e36 := e 36 (by omega) (by omega) (by omega) (by omega)
      refine R_told hm ?_ ?_ ?_ (fun i hi => e i (by omega) (by omega) (by omega) (by omega)) (e35 4 (by omega) (by omega)) (e35 9 (by omega) (by omega)) ?_ mset_ss
      · rw [e36]; exact hm.1.1.cg (fun i h1 h2 => e i (by omega) (by omega) (by omega) (by omega)) hn7.1
      · rw [e36]; exact hm.1.2.1
      · rw [e36]; exact hm.1.2.2
      · rw [mset_oo (by omega), mset_oo (by omega), y2 31 (by omega), f2.1 31 (by omega) (by omega), mset_oo (by omega), mset_ss]
  by_cases hk0 : k = 0
  · subst hk0
    refine wrong 0 (by omega) (fw_0 hLR) (fun m' hQ h12 => ?_)
    obtain ⟨lf, hlf⟩ : ∃ f, LF = f + 1 := ⟨LF - 1, by have := LF_big (show 0 < 4000 by omega); omega⟩
    obtain ⟨m2, e, h, f⟩ := rst_0 hLB (by omega) hQ h12 (show sp (m 32) 0 0 = 51 from rfl)
    exact ⟨_, m2, f, by rw [hlf]; exact rp_bad (by omega) e h⟩
  · rcases text_dec hLB k 0 (by omega) (by omega) with ⟨n, ht⟩ | ⟨n, q, ht⟩
    · obtain ⟨n, rfl⟩ : ∃ q, n = q + 1 := by
        cases n with
        | zero => exact absurd (show (0 : Nat) = k from ht) (fun z => hk0 z.symm)
        | succ n => exact ⟨n, rfl⟩
      have hw := fw_t hLB hLR ht
      -- no more statements than letters
      have cnt : ∀ n p, Txt (m 32) k n p → p ≤ k → n ≤ k - p := by
        intro n
        induction n with
        | zero => intro p _ _; omega
        | succ n ih =>
          intro p ⟨t1, t2, t3, t4⟩ hp
          have := pl_in t2
          have := gd_k hLB t2 t3
          have := ih _ t4 this
          omega
      have hn96 := cnt _ _ ht (by omega)
      obtain ⟨m3, b1, b2, b3⟩ := X2_become_s (o := 11) (p := 1) (by omega) hm.1.2.1 hm.1.1
      have rl : X3_readLetters 0 m = X3_readLetters_L36 LF 0 (nI 0) (nI 0) m3 := by
        unfold X3_readLetters
        rw [hw, ob_y rfl, if_pos (by decide), b1, ob_y rfl]
        rfl
      -- the reference's first reading, from what the class leaves
      have first : ∀ M, (∀ i, i = 35 ∨ i = 36 ∨ i = 40 → M i = m i) → ∃ m', Fp M m' ∧ LQ (m 32) k m' ∧ m' 36 = m 36 ∧ X4_town 35 M = rEnd (nI (n + 1)) (-9) m' := fun M hM => by
        have f0 : Fp M (mset M 35 12 0) := Fp12
        have hQM : LQ (m 32) k M := ⟨by rw [hM 35 (by omega)]; exact hLQ.1, fun j hj => by rw [hM 40 (by omega)]; exact hLQ.2 j hj⟩
        obtain ⟨m', x1, x2⟩ := rp_txt hLB n 0 LF 0 (mset M 35 12 0) ht (LF_big (by omega)) (hQM.fp f0) mset_ss
        refine ⟨m', Fp.tr f0 x1, hQM.fp (Fp.tr f0 x1), ((Fp.tr f0 x1).1 36 (by omega) (by omega)).trans (hM 36 (by omega)), ?_⟩
        unfold X4_town
        rw [nm_q, x2, Int32.zero_add]
      rcases rd_s hLB (v := nI (n + 1)) (K := fun u m3 => nm (mset m3 35 8 0) (fun m4 => if u = (-9) then (some (nI (n + 1), m4)) else (some (u, m4)))) (n + 1) 0 LF 0 (m 36) m3 ht (LF_big (by omega)) hm.1.2.1 hm.1.2.2 b2 (hLR.fc b3) with ⟨T', m4, x1, x2, x3, x4, x5, x6⟩ | ⟨q, m4, x0, x1, x2, x3⟩
      · obtain ⟨m5, c1, c2, c3⟩ := X2_become_s (o := 1) (p := 11) (by omega) x3 x2
        have eM : ∀ i, (i = 0 ∨ 21 ≤ i) → i ≠ 31 → mset m5 31 1 0 i = m i := fun i hi h31 => by
          funext y
          rw [mset_oo h31, c3 i (by omega), x5 i (by omega), b3 i (by omega)]
        have rM : RC 1 (mset m5 31 1 0) T' := c2.cg (fun i h1 h2 => by funext y; exact mset_oo (by omega)) x3.nT7.1
        have zM : mset m5 31 1 0 31 1 = 0 := mset_ss
        have e3 : X3_town 0 m = some (nI (n + 1), mset m5 31 1 0) := by
          unfold X3_town X1_forget
          rw [rl, x1, c1, ob_y rfl, ob2_y rfl, nm_q, nm_q, Int32.zero_add]
        generalize mset m5 31 1 0 = M at *
        obtain ⟨m6, f6, q6, h6, t6⟩ := first M (fun i hi => eM i (by omega) (by omega))
        obtain ⟨m7, y1, y2, y3⟩ := X4_lays_s (p := 36) (q := 39) (by omega) m6
        obtain ⟨m8, z1, z2, z3⟩ := x6 LF (mset m7 35 12 0) (LF_big (by omega)) ⟨by rw [mset_so (by omega), y2 35 (by omega)]; exact q6.1, fun j hj => by rw [mset_oo (by omega), y2 40 (by omega)]; exact q6.2 j hj⟩ mset_ss (by funext y; rw [mset_oo (by omega), y2 36 (by omega), h6])
        refine ⟨nI (n + 1), M, mset m8 35 8 0, e3, ?_, ?_⟩
        · rw [t6]
          unfold rEnd
          rw [y1, ob_y rfl, nm_q, z1, nm_q, if_pos rfl]
        · have e : ∀ i, i ≠ 35 → i ≠ 36 → i ≠ 43 → i ≠ 39 → mset m8 35 8 0 i = M i := fun i h1 h2 h3 h4 => by
            funext y
            rw [mset_oo h1, z3.1 i h1 h2 h3, mset_oo h1, y2 i h4, f6.1 i h1 h3]
          have e35 : ∀ j, j ≠ 8 → j ≠ 10 → j ≠ 11 → j ≠ 12 → mset m8 35 8 0 35 j = m 35 j := fun j h1 h2 h3 h4 => by
            rw [mset_so h1, z3.2 j h2 h3 h4, mset_so h4, y2 35 (by omega), f6.2 j h4, eM 35 (by omega) (by omega)]
          have e36 : mset m8 35 8 0 36 = T' := by funext y; rw [mset_oo (by omega), z2]
          refine R_told hm ?_ ?_ ?_ (fun i hi => (e i (by omega) (by omega) (by omega) (by omega)).trans (eM i (by omega) (by omega))) (e35 4 (by omega) (by omega) (by omega) (by omega)) (e35 9 (by omega) (by omega) (by omega) (by omega)) ?_ mset_ss
          · rw [e36]; exact rM.cg (fun i h1 h2 => e i (by omega) (by omega) (by omega) (by omega)) x3.nT7.1
          · rw [e36]; exact x3
          · rw [e36]; exact x4
          · rw [e 31 (by omega) (by omega) (by omega) (by omega)]; exact zM
      · have eM : ∀ i, (i < 11 ∨ 21 ≤ i) → i ≠ 31 → mset m4 31 1 0 i = m i := fun i hi h31 => by
          funext y
          rw [mset_oo h31, x2 i (by omega), b3 i (by omega)]
        have zM : mset m4 31 1 0 31 1 = 0 := mset_ss
        have e3 : X3_town 0 m = some (-2000 - nI q, mset m4 31 1 0) := by
          unfold X3_town X1_forget
          rw [rl, x1, ob2_y rfl, nm_q, nm_q]
        generalize mset m4 31 1 0 = M at *
        obtain ⟨m6, f6, q6, h6, t6⟩ := first M (fun i hi => eM i (by omega) (by omega))
        obtain ⟨m7, y1, y2, y3⟩ := X4_lays_s (p := 36) (q := 39) (by omega) m6
        obtain ⟨m8, m9, z1, z2, z3, z4⟩ := x3 LF (mset m7 35 12 0) (LF_big (by omega)) ⟨by rw [mset_so (by omega), y2 35 (by omega)]; exact q6.1, fun j hj => by rw [mset_oo (by omega), y2 40 (by omega)]; exact q6.2 j hj⟩ mset_ss (by funext y; rw [mset_oo (by omega), y2 36 (by omega), h6])
        refine ⟨-2000 - nI q, M, mset m9 35 8 0, e3, ?_, ?_⟩
        · rw [t6]
          unfold rEnd
          rw [y1, ob_y rfl, nm_q, z1, nm_q, if_neg (m2000 x0)]
        · have e : ∀ i, i ≠ 35 → i ≠ 36 → i ≠ 43 → i ≠ 39 → mset m9 35 8 0 i = M i := fun i h1 h2 h3 h4 => by
            funext y
            rw [mset_oo h1, z3 i h2, z2.1 i h1 h2 h3, mset_oo h1, y2 i h4, f6.1 i h1 h3]
          have e35 : ∀ j, j ≠ 8 → j ≠ 10 → j ≠ 11 → j ≠ 12 → mset m9 35 8 0 35 j = m 35 j := fun j h1 h2 h3 h4 => by
            rw [mset_so h1, z3 35 (by omega), z2.2 j h2 h3 h4, mset_so h4, y2 35 (by omega), f6.2 j h4, eM 35 (by omega) (by omega)]
          have e36 : ∀ j, j < 47 → mset m9 35 8 0 36 j = m 36 j := fun j hj => by
            rw [mset_oo (by omega), z4]
            show (if j < 47 then m8 39 j else m8 36 j) = _
            rw [if_pos hj, z2.1 39 (by omega) (by omega) (by omega), mset_oo (by omega), y3]
            show (if j < 47 then m6 36 j else m6 39 j) = _
            rw [if_pos hj, h6]
          refine R_told hm ?_ (hm.1.2.1.ct e36) (by rw [e36 1 (by omega)]; exact hm.1.2.2) (fun i hi => (e i (by omega) (by omega) (by omega) (by omega)).trans (eM i (by omega) (by omega))) (e35 4 (by omega) (by omega) (by omega) (by omega)) (e35 9 (by omega) (by omega) (by omega) (by omega)) ?_ mset_ss
          · exact (hm.1.1.cg (fun i h1 h2 => (e i (by omega) (by omega) (by omega) (by omega)).trans (eM i (by omega) (by omega))) hn7.1).ct e36 hn7.1
          · rw [e 31 (by omega) (by omega) (by omega) (by omega)]; exact zM
    · have hq : q ≤ 96 := by
        obtain ⟨v, m', h, -⟩ := rp_wr hLB n 0 q LF 0 (mset m 35 12 0) ht (LF_big (by omega)) (hLQ.fp Fp12) mset_ss
        exact h
      refine wrong q hq (fw_w hLB hLR ht) (fun m' hQ h12 => ?_)
      obtain ⟨v, m2, -, f, x⟩ := rp_wr hLB n 0 q LF 0 m' ht (LF_big (by omega)) hQ h12
      exact ⟨v, m2, f, x⟩
