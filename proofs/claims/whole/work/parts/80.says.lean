/-! town: the numbers of a statement; the class reads them again -/
theorem x1num {L : Nat → Int32} {k : Nat} {m : Mm} (hk : LB L k) (h : LR L k m) {p a d : Nat} (hp : p + a ≤ 200) (hd : d ≤ 5) : X1_number 31 (nI p + nI a) (nI d) m = some (num L k (p + a) d) := by
  have key : ∀ (t c fuel : Nat), t = d - c → c ≤ d → t < fuel → X1_number_L5 31 (nI (p + a)) (nI d) m fuel (num L k (p + a) c) (nI c) = some (num L k (p + a) d) := by
    intro t
    induction t with
    | zero =>
      intro c fuel ht hc hf
      have : c = d := by omega
      subst this
      obtain ⟨fuel, rfl⟩ : ∃ q, fuel = q + 1 := ⟨fuel - 1, by omega⟩
      unfold X1_number_L5
      rw [if_pos (nI_yle (by omega) (by omega) (Nat.le_refl _))]
    | succ t ih =>
      intro c fuel ht hc hf
      obtain ⟨fuel, rfl⟩ : ∃ q, fuel = q + 1 := ⟨fuel - 1, by omega⟩
      unfold X1_number_L5
      rw [if_neg (nI_nl2 (by omega) (by omega) (by omega)), nI_add, x1at hk h (by omega), ob_y rfl, nm_q, nm_q, nI_1]
      exact ih (c + 1) fuel (by omega) (by omega) (by omega)
  rw [nI_add]
  exact key d 0 LF (by omega) (by omega) (LF_big (by omega))
theorem fit_dig {v : Int32} (h : fit v 57) : 48 ≤ v.toInt ∧ v.toInt ≤ 57 := by
  unfold fit at h
  rw [if_pos rfl, z_lt, z_lt, show (48 : Int32).toInt = 48 from rfl, show (57 : Int32).toInt = 57 from rfl] at h
  omega
theorem num_st {L : Nat → Int32} {k p d : Nat} (h : 0 ≤ (num L k p d).toInt ∧ (num L k p d).toInt ≤ 100000) (f : fit (lt L k (p + d)) 57) : (num L k p (d + 1)).toInt = 10 * (num L k p d).toInt + (lt L k (p + d)).toInt - 48 ∧ 48 ≤ (lt L k (p + d)).toInt ∧ (lt L k (p + d)).toInt ≤ 57 := by
  have hf := fit_dig f
  have t10 : (10 : Int32).toInt = 10 := rfl
  have t48 : (48 : Int32).toInt = 48 := rfl
  have e1 : (10 * num L k p d).toInt = 10 * (num L k p d).toInt := by rw [z_mul (by rw [t10]; omega) (by rw [t10]; omega), t10]
  have e2 : (10 * num L k p d + lt L k (p + d)).toInt = 10 * (num L k p d).toInt + (lt L k (p + d)).toInt := by rw [z_add (by rw [e1]; omega) (by rw [e1]; omega), e1]
  refine ⟨?_, hf⟩
  show (10 * num L k p d + lt L k (p + d) - 48).toInt = _
  rw [z_sub (by rw [e2, t48]; omega) (by rw [e2, t48]; omega), e2, t48]
theorem num_1 {L : Nat → Int32} {k p : Nat} (f : fit (lt L k p) 57) : 0 ≤ (num L k p 1).toInt ∧ (num L k p 1).toInt ≤ 9 := by
  have z : (num L k p 0).toInt = 0 := rfl
  have := num_st (L := L) (k := k) (p := p) (d := 0) (by rw [z]; omega) f
  rw [z] at this
  show 0 ≤ (num L k p (0 + 1)).toInt ∧ (num L k p (0 + 1)).toInt ≤ 9
  omega
theorem num_2 {L : Nat → Int32} {k p : Nat} (f : fit (lt L k p) 57) (f1 : fit (lt L k (p + 1)) 57) : 0 ≤ (num L k p 2).toInt ∧ (num L k p 2).toInt ≤ 99 := by
  have h1 := num_1 f
  have := num_st (L := L) (k := k) (p := p) (d := 1) (by omega) f1
  show 0 ≤ (num L k p (1 + 1)).toInt ∧ (num L k p (1 + 1)).toInt ≤ 99
  omega
theorem num_3 {L : Nat → Int32} {k p : Nat} (f : fit (lt L k p) 57) (f1 : fit (lt L k (p + 1)) 57) (f2 : fit (lt L k (p + 2)) 57) : 0 ≤ (num L k p 3).toInt ∧ (num L k p 3).toInt ≤ 999 := by
  have h1 := num_2 f f1
  have := num_st (L := L) (k := k) (p := p) (d := 2) (by omega) f2
  show 0 ≤ (num L k p (2 + 1)).toInt ∧ (num L k p (2 + 1)).toInt ≤ 999
  omega
theorem gd_at {L : Nat → Int32} {k p sh : Nat} (G : Gd L k p sh) (j : Nat) {c : Int32} (hj : j < pl sh) (hc : pc sh j = c) : fit (lt L k (p + j)) c := by rw [← hc]; exact G j hj
/-- one statement, both codes: what it makes of the row T, or the fault -/
def St (L : Nat → Int32) (k p sh : Nat) (T : Nat → Int32) (m : Mm) : Prop :=
  (∃ T' m1, X3_statementFault 0 (nI p) m = some (0, m1) ∧ RC 11 m1 T' ∧ TI T' ∧ (T' 1).toInt ≤ 999 ∧ FrC 11 m m1 ∧ ∀ m', m' 36 = T → NN L k p sh m' → ∃ m2, X4_isDone 35 (pf1 sh) m' = some (1, m2) ∧ m2 36 = T' ∧ FrM 36 m' m2) ∨
  (∃ v m1, X3_statementFault 0 (nI p) m = some (v, m1) ∧ ¬ v = 0 ∧ FrC 11 m m1 ∧ ∀ m', m' 36 = T → NN L k p sh m' → ∃ m2, X4_isDone 35 (pf1 sh) m' = some (0, m2) ∧ FrM 36 m' m2)
theorem sf_s {L : Nat → Int32} {k : Nat} {m : Mm} (hk : LB L k) (h : LR L k m) {p sh : Nat} (hp : p ≤ 96) (hs : 52 ≤ sh ∧ sh < 58) (hc : lt L k p = pf1 sh) : X3_statementFault 0 (nI p) m = if pf1 sh = 99 then (ob2 (X3_caskComes 0 (nI p) m) (fun y4 m5 => some (y4, m5))) else if pf1 sh = 101 then (ob (X1_number 31 (nI p + nI 1) (nI 1) m) (fun y7 => nm2 (X2_choose 11 2 y7 m) (fun y8 m9 => some (y8, m9)))) else if pf1 sh = 108 then (ob (X1_number 31 (nI p + nI 1) (nI 1) m) (fun y11 => nm2 (X2_choose 11 1 y11 m) (fun y12 m13 => some (y12, m13)))) else if pf1 sh = 112 then (ob2 (X3_pourComes 0 (nI p) m) (fun y15 m16 => some (y15, m16))) else if pf1 sh = 114 then (ob (X1_number 31 (nI p + nI 1) (nI 2) m) (fun y18 => nm2 (X2_choose 11 0 y18 m) (fun y19 m20 => some (y19, m20)))) else (ob (X1_number 31 (nI p + nI 1) (nI 2) m) (fun y21 => ob2 (X2_liveOn 11 y21 m) (fun y22 m23 => some (y22, m23)))) := by
  unfold X3_statementFault
  rw [nm_q, x1at hk h (by omega), ob_y rfl, hc]
  rfl
theorem RC_set {b : Nat} {m : Mm} {T : Nat → Int32} (h : RC b m T) {f j : Nat} {v : Int32} (hf : (f = 3 ∧ j = 2) ∨ (f = 4 ∧ j = 3) ∨ (f = 5 ∧ j = 4)) : RC b (mset m b f v) (setT T j v) := by
  obtain ⟨⟨r0, r1, r2, r3, r4⟩, r5⟩ := h
  refine ⟨?_, fun c k hc hk => ?_⟩
  · rcases hf with ⟨rfl, rfl⟩ | ⟨rfl, rfl⟩ | ⟨rfl, rfl⟩ <;> simp [mset, setT, r0, r1, r2, r3, r4]
  · rw [setT_nT (by omega)] at hc
    rw [mset_oo (by omega), setT_o (by unfold kx; omega)]
    exact r5 c k hc hk
theorem setT_TI4 {T : Nat → Int32} (h : TI T) {v : Int32} (hv : 0 ≤ v.toInt ∧ v.toInt ≤ 9) : TI (setT T 4 v) := by
  obtain ⟨n, ⟨h1, h2⟩, h3, h4, h5, h6, h7⟩ := h
  exact ⟨n, ⟨h1, by rw [setT_o (by omega)]; exact h2⟩, by rw [setT_o (by omega)]; exact h3, by rw [setT_o (by omega)]; exact h4, by rw [setT_s]; exact hv, by rw [setT_o (by omega)]; exact h6, fun c hc => by
    rw [setT_o (by omega)]
    exact (h7 c hc).cong (fun k hk => setT_o (by unfold kx; omega))⟩
theorem mset_set36 {m : Mm} {T : Nat → Int32} {j : Nat} {v : Int32} (h : m 36 = T) : mset m 36 j v 36 = setT T j v := by
  funext x
  unfold setT
  by_cases e : x = j
  · rw [e, mset_ss, if_pos rfl]
  · rw [mset_so e, if_neg e, h]
theorem FrM36 {m : Mm} {j : Nat} {v : Int32} : FrM 36 m (mset m 36 j v) := ⟨fun i h _ => by funext y; exact mset_oo h, fun y _ _ => mset_oo (by omega)⟩
/-- r, l, e: a choice -/
theorem st_rle {L : Nat → Int32} {k : Nat} {m : Mm} (hk : LB L k) (h : LR L k m) {p sh : Nat} (hp : p ≤ 96) (hs : sh = 53 ∨ sh = 54 ∨ sh = 55) (hc : lt L k p = pf1 sh) (G : Gd L k p sh) {T : Nat → Int32} (hT : TI T) (hy : (T 1).toInt ≤ 999) (hr : RC 11 m T) : St L k p sh T m := by
  have t40 : (40 : Int32).toInt = 40 := rfl
  have t9 : (9 : Int32).toInt = 9 := rfl
  have sf := sf_s hk h hp (by omega) hc
  rcases hs with rfl | rfl | rfl
  · rw [if_neg (by decide), if_neg (by decide), if_neg (by decide), if_neg (by decide), if_pos (by decide), x1num hk h (by omega) (by omega), ob_y rfl] at sf
    obtain ⟨b1, b2⟩ := num_2 (gd_at G 1 (c := 57) (by decide) (by decide)) (gd_at G 2 (c := 57) (by decide) (by decide))
    generalize hv : num L k (p + 1) 2 = v at *
    rcases range_dec v 0 40 with ⟨g1, g2, g3⟩ | ⟨g1, g3⟩ | ⟨g1, g2, g3⟩
    · left
      rw [z_le, t40] at g2
      have e : X2_choose 11 0 v m = (0, mset m 11 3 v) := by
        unfold X2_choose
        rw [show X3_leastChoice 0 = 0 by decide, show X3_mostChoice 0 = 40 by decide, g3, show X3_whatFault 0 2 = 0 by decide, fo0, if_pos rfl, nm_q, if_pos rfl, if_pos rfl, nm_q]
      refine ⟨setT T 2 v, mset m 11 3 v, by rw [sf, e]; rfl, RC_set hr (by omega), setT_TI hT (Or.inl ⟨rfl, b1, g2⟩), by rw [setT_o (by omega)]; exact hy, fun i hi => by funext y; exact mset_oo (by omega), fun m' h3 hN => ⟨mset m' 36 2 v, ?_, mset_set36 h3, FrM36⟩⟩
      have n0 := hN.2.1 (Or.inl rfl)
      rw [hv] at n0
      unfold X4_isDone
      rw [n0, nm_q, nm_q, if_neg (by decide), if_neg (by decide), if_neg (by decide), if_neg (by decide), if_pos (by decide), nm_q, if_neg (by rw [z_lt, t40]; omega)]
    · rw [z_le, t0] at g1; omega
    · right
      rw [z_le, t40] at g2
      have e : X2_choose 11 0 v m = (-6, m) := by
        unfold X2_choose
        rw [show X3_leastChoice 0 = 0 by decide, show X3_mostChoice 0 = 40 by decide, g3, show X3_whatFault 0 2 = 0 by decide, fo0, if_neg em6, nm_q, if_neg em6]
      refine ⟨-6, m, by rw [sf, e]; rfl, em6, FrC.rf, fun m' h3 hN => ⟨mset m' 36 2 v, ?_, FrM36⟩⟩
      have n0 := hN.2.1 (Or.inl rfl)
      rw [hv] at n0
      unfold X4_isDone
      rw [n0, nm_q, nm_q, if_neg (by decide), if_neg (by decide), if_neg (by decide), if_neg (by decide), if_pos (by decide), nm_q, if_pos (by rw [z_lt, t40]; omega)]
  · rw [if_neg (by decide), if_neg (by decide), if_pos (by decide), x1num hk h (by omega) (by omega), ob_y rfl] at sf
    obtain ⟨b1, b2⟩ := num_1 (gd_at G 1 (c := 57) (by decide) (by decide))
    generalize hv : num L k (p + 1) 1 = v at *
    rcases range_dec v 1 9 with ⟨g1, g2, g3⟩ | ⟨g1, g3⟩ | ⟨g1, g2, g3⟩
    · left
      rw [z_le, t1] at g1
      have e : X2_choose 11 1 v m = (0, mset m 11 4 v) := by
        unfold X2_choose
        rw [show X3_leastChoice 1 = 1 by decide, show X3_mostChoice 1 = 9 by decide, g3, show X3_whatFault 1 2 = 0 by decide, fo0, if_pos rfl, nm_q, if_pos rfl, if_neg e01, if_pos rfl, nm_q]
      refine ⟨setT T 3 v, mset m 11 4 v, by rw [sf, e]; rfl, RC_set hr (by omega), setT_TI hT (Or.inr ⟨rfl, g1, b2⟩), by rw [setT_o (by omega)]; exact hy, fun i hi => by funext y; exact mset_oo (by omega), fun m' h3 hN => ⟨mset m' 36 3 v, ?_, mset_set36 h3, FrM36⟩⟩
      have n0 := hN.2.2.1 (Or.inl rfl)
      rw [hv] at n0
      unfold X4_isDone
      rw [n0, nm_q, nm_q, if_neg (by decide), if_neg (by decide), if_pos (by decide), nm_q, if_neg (by rw [z_lt, t1]; omega)]
    · right
      rw [z_le, t1] at g1
      have e : X2_choose 11 1 v m = (-4, m) := by
        unfold X2_choose
        rw [show X3_leastChoice 1 = 1 by decide, show X3_mostChoice 1 = 9 by decide, g3, show X3_whatFault 1 2 = 0 by decide, fo0, if_neg em4, nm_q, if_neg em4]
      refine ⟨-4, m, by rw [sf, e]; rfl, em4, FrC.rf, fun m' h3 hN => ⟨mset m' 36 3 v, ?_, FrM36⟩⟩
      have n0 := hN.2.2.1 (Or.inl rfl)
      rw [hv] at n0
      unfold X4_isDone
      rw [n0, nm_q, nm_q, if_neg (by decide), if_neg (by decide), if_pos (by decide), nm_q, if_pos (by rw [z_lt, t1]; omega)]
    · rw [z_le, t9] at g2; omega
  · rw [if_neg (by decide), if_pos (by decide), x1num hk h (by omega) (by omega), ob_y rfl] at sf
    obtain ⟨b1, b2⟩ := num_1 (gd_at G 1 (c := 57) (by decide) (by decide))
    generalize hv : num L k (p + 1) 1 = v at *
    left
    have e : X2_choose 11 2 v m = (0, mset m 11 5 v) := by
      unfold X2_choose
      rw [show X3_leastChoice 2 = 0 by decide, show X3_mostChoice 2 = 9 by decide, rg_ok (by rw [t0, t9]; omega), show X3_whatFault 2 2 = 0 by decide, fo0, if_pos rfl, nm_q, if_pos rfl, if_neg (by decide), if_neg (by decide), nm_q]
    refine ⟨setT T 4 v, mset m 11 5 v, by rw [sf, e]; rfl, RC_set hr (by omega), setT_TI4 hT ⟨b1, b2⟩, by rw [setT_o (by omega)]; exact hy, fun i hi => by funext y; exact mset_oo (by omega), fun m' h3 hN => ⟨mset m' 36 4 v, ?_, mset_set36 h3, FrM36⟩⟩
    have n0 := hN.2.2.1 (Or.inr rfl)
    rw [hv] at n0
    unfold X4_isDone
    rw [n0, nm_q, nm_q, if_neg (by decide), if_pos (by decide), nm_q]
/-- y: years -/
theorem st_y {L : Nat → Int32} {k : Nat} {m : Mm} (hk : LB L k) (h : LR L k m) {p : Nat} (hp : p ≤ 96) (hc : lt L k p = pf1 57) (G : Gd L k p 57) {T : Nat → Int32} (hT : TI T) (hy : (T 1).toInt ≤ 999) (hr : RC 11 m T) : St L k p 57 T m := by
  have t60 : (60 : Int32).toInt = 60 := rfl
  have t999 : (999 : Int32).toInt = 999 := rfl
  have hY : 0 ≤ (T 1).toInt := by obtain ⟨n, -, -, -, -, h6, -⟩ := hT; exact h6.1
  have n7 := hT.nT7
  have sf := sf_s hk h hp (by omega) hc
  rw [if_neg (by decide), if_neg (by decide), if_neg (by decide), if_neg (by decide), if_neg (by decide), x1num hk h (by omega) (by omega), ob_y rfl] at sf
  obtain ⟨b1, b2⟩ := num_2 (gd_at G 1 (c := 57) (by decide) (by decide)) (gd_at G 2 (c := 57) (by decide) (by decide))
  generalize hv : num L k (p + 1) 2 = v at *
  obtain ⟨n, rfl, hn1, hn2⟩ := z_of b1
  have ey : (T 1 + nI n).toInt = (T 1).toInt + n := by rw [z_add (by rw [hn2]; omega) (by rw [hn2]; omega), hn2]
  have isd : ∀ m', m' 36 = T → NN L k p 57 m' → X4_isDone 35 (pf1 57) m' = if (X4_isIn (nI n) 1 60) = 0 then (some (0, m')) else (if T 1 + nI n ≤ 999 then (ob (X4_yearsOn 35 36 (nI n) m') (fun m35 => some (1, m35))) else (some (0, m'))) := fun m' h3 hN => by
    have n0 := hN.2.1 (Or.inr rfl)
    rw [hv] at n0
    unfold X4_isDone
    rw [n0, nm_q, nm_q, if_neg (by decide), if_neg (by decide), if_neg (by decide), if_neg (by decide), if_neg (by decide), h3]
  have lv : X2_liveOn 11 (nI n) m = nm (X3_rangeFault (nI n) 1 60) (fun v1 => if v1 = 0 then (if T 1 + nI n ≤ 999 then (ob (X2_goOn 11 (nI n) m) (fun m4 => some (v1, m4))) else (some ((-6), m))) else (some (v1, m))) := by
    unfold X2_liveOn
    rw [hr.1.2.1]
  rcases range_dec (nI n) 1 60 with ⟨g1, g2, g3⟩ | ⟨g1, g3⟩ | ⟨g1, g2, g3⟩
  · rw [g3, nm_q, if_pos rfl] at lv
    rw [z_le, t1] at g1
    rw [z_le, t60] at g2
    have ii : ¬ X4_isIn (nI n) 1 60 = 0 := by
      unfold X4_isIn
      rw [if_neg (by rw [z_lt, t1]; omega), if_neg (by rw [z_lt, t60]; omega)]
      exact e01
    by_cases g : T 1 + nI n ≤ 999
    · left
      have g' := g
      rw [z_le, ey, t999] at g'
      obtain ⟨u1, u2, u3⟩ := yT_1 hT n (by omega)
      obtain ⟨m1, s1, s2, s3⟩ := X2_goOn_s hT (a := n) (by omega) hr
      rw [if_pos g, s1, ob_y rfl] at lv
      refine ⟨yT n T, m1, by rw [sf, lv]; rfl, s2, u1, by rw [u2]; omega, s3, fun m' h3 hN => ?_⟩
      obtain ⟨m2, v1, v2, v3⟩ := X4_yearsOn_s (r := 36) (by omega) (mem := m') (n := nT T) (a := n) n7.1 (by rw [h3]; exact n7.2) (by rw [h3]; intro z; obtain ⟨_, -, -, q, -⟩ := hT; rw [z, t0] at q; omega) (by omega)
      rw [h3] at v2
      exact ⟨m2, by rw [isd m' h3 hN, if_neg ii, if_pos g, v1, ob_y rfl], v2, v3⟩
    · right
      rw [if_neg g] at lv
      exact ⟨-6, m, by rw [sf, lv]; rfl, em6, FrC.rf, fun m' h3 hN => ⟨m', by rw [isd m' h3 hN, if_neg ii, if_neg g], FrM.rf⟩⟩
  · right
    rw [g3, nm_q, if_neg em4] at lv
    refine ⟨-4, m, by rw [sf, lv]; rfl, em4, FrC.rf, fun m' h3 hN => ⟨m', ?_, FrM.rf⟩⟩
    rw [z_le, t1] at g1
    rw [isd m' h3 hN, if_pos (by unfold X4_isIn; rw [if_pos (by rw [z_lt, t1]; omega)])]
  · right
    rw [g3, nm_q, if_neg em6] at lv
    refine ⟨-6, m, by rw [sf, lv]; rfl, em6, FrC.rf, fun m' h3 hN => ⟨m', ?_, FrM.rf⟩⟩
    rw [z_le, t1] at g1
    rw [z_le, t60] at g2
    rw [isd m' h3 hN, if_pos (by unfold X4_isIn; rw [if_neg (by rw [z_lt, t1]; omega), if_pos (by rw [z_lt, t60]; omega)])]
