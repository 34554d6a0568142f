/-! town: p, a pouring -/
theorem cf_b {b : Nat} {m : Mm} {T : Nat → Int32} (hr : RC b m T) (hT : TI T) (a : Int32) : (∃ c, a = nI c ∧ c < nT T ∧ c < 7 ∧ X2_caskFault b a m = 0 ∧ ∀ m', m' 36 = T → X4_isCask 35 a m' = 1) ∨ (X2_caskFault b a m = -1 ∧ ∀ m', m' 36 = T → X4_isCask 35 a m' = 0) := by
  obtain ⟨n1, n2⟩ := hT.nT7
  have r0 := hr.1.1
  have e7 : (T 0).toInt = nT T := by
    have := z_nI (show nT T < 2147483648 by omega)
    rw [← n2] at this; exact this
  have e1 : (T 0 - 1).toInt = (nT T : Int) - 1 := by rw [z_sub (by rw [t1, e7]; omega) (by rw [t1, e7]; omega), t1, e7]
  unfold X2_caskFault X4_isCask X4_isIn
  rw [r0]
  by_cases g : a < 0
  · exact Or.inr ⟨by rw [if_pos g], fun m' _ => by rw [if_pos g]⟩
  · rw [if_neg g]
    have g0 := g
    rw [z_lt, t0] at g0
    by_cases q : a < T 0
    · left
      obtain ⟨c, c1, c2, c3⟩ := z_of (x := a) (by omega)
      have q' := q
      rw [z_lt, e7] at q'
      refine ⟨c, c1, by omega, by omega, by rw [if_pos q], fun m' hm => ?_⟩
      rw [if_neg g, hm, if_neg (by rw [z_lt, e1]; omega)]
    · right
      have q' := q
      rw [z_lt, e7] at q'
      refine ⟨by rw [if_neg q], fun m' hm => ?_⟩
      rw [if_neg g, hm, if_pos (by rw [z_lt, e1]; omega)]
theorem pf_b {b : Nat} {m : Mm} {T : Nat → Int32} (hr : RC b m T) (hT : TI T) {i j : Nat} (hi : i < nT T) (hj : j < nT T) (hij : i ≠ j) {a : Int32} (ha : 1 ≤ a.toInt ∧ a.toInt ≤ 400) :
    (X2_pourFault b (nI i) (nI j) a m = some 0 ∧ (∀ m', m' 36 = T → X4_canPour 35 (nI i) (nI j) a m' = some 1) ∧ a.toInt ≤ (T (kx i 2)).toInt ∧ (T (kx j 2)).toInt + a.toInt ≤ (T (kx j 1)).toInt) ∨
    (X2_pourFault b (nI i) (nI j) a m = some (-3) ∧ ∀ m', m' 36 = T → X4_canPour 35 (nI i) (nI j) a m' = some 0) := by
  have n7 := hT.nT7
  have ne : ¬ nI i = nI j := nI_ne (by omega) (by omega) hij
  have cf : ∀ c, c < nT T → X2_caskFault b (nI c) m = 0 := fun c hc => by
    unfold X2_caskFault
    rw [if_neg (nI_pos (by omega)), hr.1.1, n7.2, if_pos ((nI_lt_iff (by omega) (by omega)).mpr hc)]
  have rg : X3_rangeFault a 1 400 = 0 := by
    unfold X3_rangeFault
    rw [if_pos (by rw [z_le, t1]; omega), if_pos (by rw [z_le, t400]; omega)]
  obtain ⟨-, ⟨p1, p2⟩, ⟨p3, p4⟩, -⟩ := hT.ci hi
  obtain ⟨-, ⟨q1, q2⟩, ⟨q3, q4⟩, -⟩ := hT.ci hj
  unfold ck at p1 p2 p3 p4 q1 q2 q3 q4
  have es : (T (kx j 1) - T (kx j 2)).toInt = (T (kx j 1)).toInt - (T (kx j 2)).toInt := by rw [z_sub] <;> omega
  have ea : (T (kx j 2) + a).toInt = (T (kx j 2)).toInt + a.toInt := by rw [z_add] <;> omega
  have h3 : X2_pourFault b (nI i) (nI j) a m = if T (kx i 2) < a then some (-3) else if a ≤ T (kx j 1) - T (kx j 2) then some 0 else some (-3) := by
    unfold X2_pourFault
    rw [if_neg ne, cf i hi, cf j hj, fo0, if_pos rfl, nm_q, if_pos rfl, rg, nm_q, if_pos rfl, X2_at_s (by omega), ob_y rfl, X2_at_s (by omega), ob_y rfl, hr.2 i 2 hi (by omega), hr.2 j 1 hj (by omega), hr.2 j 2 hj (by omega)]
  have h4 : ∀ m', m' 36 = T → X4_canPour 35 (nI i) (nI j) a m' = if T (kx i 2) < a then some 0 else if T (kx j 1) < T (kx j 2) + a then some 0 else some 1 := fun m' h => by
    unfold X4_canPour
    rw [gd_y (at_in2 (by omega)), gd_y (at_in2 (by omega)), gd_y (at_in1 (by omega)), at_cl2 (by omega), at_cl2 (by omega), at_cl1 (by omega), h]
  by_cases g : T (kx i 2) < a
  · exact Or.inr ⟨by rw [h3, if_pos g], fun m' h => by rw [h4 m' h, if_pos g]⟩
  · by_cases g2 : a ≤ T (kx j 1) - T (kx j 2)
    · have g2' := g2
      rw [z_le, es] at g2'
      have g' := g
      rw [z_lt] at g'
      exact Or.inl ⟨by rw [h3, if_neg g, if_pos g2], fun m' h => by rw [h4 m' h, if_neg g, if_neg (by rw [z_lt, ea]; omega)], by omega, by omega⟩
    · have g2' := g2
      rw [z_le, es] at g2'
      exact Or.inr ⟨by rw [h3, if_neg g, if_neg g2], fun m' h => by rw [h4 m' h, if_neg g, if_pos (by rw [z_lt, ea]; omega)]⟩
theorem T_am {T : Nat → Int32} (hT : TI T) {c : Nat} (hc : c < nT T) : (0 ≤ (T (kx c 2)).toInt ∧ (T (kx c 2)).toInt ≤ 400) ∧ 0 ≤ (T (kx c 3)).toInt ∧ (T (kx c 3)).toInt ≤ 99 := by
  obtain ⟨-, ⟨p1, p2⟩, ⟨p3, p4⟩, ⟨p5, p6⟩, -⟩ := hT.ci hc
  unfold ck at p1 p2 p3 p4 p5 p6
  omega
theorem mixed_b {b : Nat} {m : Mm} {T : Nat → Int32} (hr : RC b m T) (hT : TI T) {i j : Nat} (hi : i < nT T) (hj : j < nT T) {a : Int32} (ha : 1 ≤ a.toInt ∧ a.toInt ≤ 400) :
    ∃ v, 0 ≤ v.toInt ∧ v.toInt ≤ 99 ∧ X2_pouredStrength b (nI i) (nI j) a m = some v ∧ ∀ m', m' 36 = T → X4_mixed 35 (nI i) (nI j) a m' = some v := by
  have n7 := hT.nT7.1
  obtain ⟨p1, p2⟩ := T_am hT hi
  obtain ⟨q1, q2⟩ := T_am hT hj
  obtain ⟨e1, e2, e3⟩ := mix_z (s1 := T (kx j 3)) (s2 := T (kx i 3)) (a1 := T (kx j 2)) (a2 := a) q2 p2 q1 ⟨by omega, by omega⟩ (by omega)
  refine ⟨_, e2, e3, ?_, fun m' h => ?_⟩
  · unfold X2_pouredStrength
    rw [X2_at_s (by omega), ob_y rfl, hr.2 j 2 hj (by omega), hr.2 j 3 hj (by omega), nm_q, if_neg (by rw [z_le, e1, t0]; omega), X2_at_s (by omega), ob_y rfl, gd_y (by intro z; rw [z_eq, e1, t0] at z; omega), hr.2 i 3 hi (by omega)]
  · have c1 : a + T (kx j 2) = T (kx j 2) + a := Int32.add_comm _ _
    have c2 : a * T (kx i 3) + T (kx j 2) * T (kx j 3) = T (kx j 3) * T (kx j 2) + T (kx i 3) * a := by
      rw [Int32.add_comm, Int32.mul_comm a, Int32.mul_comm (T (kx j 2))]
    unfold X4_mixed
    rw [gd_y (at_in3 (by omega)), gd_y (at_in2 (by omega)), gd_y (at_in3 (by omega)), at_cl3 (by omega), at_cl2 (by omega), at_cl3 (by omega), h, c1, c2, gd_y (by intro z; rw [z_eq, e1, t0] at z; omega)]
/-- the row behind a pouring -/
def poT (T : Nat → Int32) (i j : Nat) (a v : Int32) : Nat → Int32 := fun y => if y = kx j 3 then v else if y = kx j 2 then T (kx j 2) + a else if y = kx i 2 then T (kx i 2) - a else T y
theorem poT_o {T : Nat → Int32} {i j y : Nat} {a v : Int32} (h1 : y ≠ kx j 3) (h2 : y ≠ kx j 2) (h3 : y ≠ kx i 2) : poT T i j a v y = T y := by unfold poT; rw [if_neg h1, if_neg h2, if_neg h3]
theorem poT_5 {T : Nat → Int32} {i j y : Nat} {a v : Int32} (h : y < 5) : poT T i j a v y = T y := poT_o (by unfold kx; omega) (by unfold kx; omega) (by unfold kx; omega)
theorem poT_j3 {T : Nat → Int32} {i j : Nat} {a v : Int32} : poT T i j a v (kx j 3) = v := if_pos rfl
theorem poT_j2 {T : Nat → Int32} {i j : Nat} {a v : Int32} : poT T i j a v (kx j 2) = T (kx j 2) + a := by unfold poT; rw [if_neg (by unfold kx; omega), if_pos rfl]
theorem poT_i2 {T : Nat → Int32} {i j : Nat} (hij : i ≠ j) {a v : Int32} : poT T i j a v (kx i 2) = T (kx i 2) - a := by unfold poT; rw [if_neg (by unfold kx; omega), if_neg (by unfold kx; omega), if_pos rfl]
theorem kx_ne {c k c' k' : Nat} (hk : k < 6) (hk' : k' < 6) (h : ¬ (c = c' ∧ k = k')) : kx c k ≠ kx c' k' := fun z => h (kx_inj hk hk' z)
theorem poT_nT {T : Nat → Int32} {i j : Nat} {a v : Int32} : nT (poT T i j a v) = nT T := by unfold nT; rw [poT_5 (by omega)]
theorem poT_TI {T : Nat → Int32} (hT : TI T) {i j : Nat} (hi : i < nT T) (hj : j < nT T) (hij : i ≠ j) {a v : Int32} (ha : 1 ≤ a.toInt ∧ a.toInt ≤ (T (kx i 2)).toInt) (hb : (T (kx j 2)).toInt + a.toInt ≤ (T (kx j 1)).toInt) (hv : 0 ≤ v.toInt ∧ v.toInt ≤ 99) : TI (poT T i j a v) := by
  have hci := @TI.ci T hT
  have n7 := hT.nT7
  obtain ⟨n, ⟨h1, h2⟩, h3, h4, h5, h6, h7⟩ := hT
  have en : nT T = n := nT_eq h1 h2
  refine ⟨n, ⟨h1, by rw [poT_5 (by omega)]; exact h2⟩, by rw [poT_5 (by omega)]; exact h3, by rw [poT_5 (by omega)]; exact h4, by rw [poT_5 (by omega)]; exact h5, by rw [poT_5 (by omega)]; exact h6, fun c hc => ?_⟩
  rw [poT_5 (by omega)]
  obtain ⟨q0, ⟨q1, q2⟩, ⟨q3, q4⟩, q5, q6, q7⟩ := h7 c hc
  by_cases ci : c = i
  · subst ci
    have e2 : ck (poT T c j a v) c 2 = T (kx c 2) - a := poT_i2 hij
    have ek : ∀ k, k < 6 → k ≠ 2 → ck (poT T c j a v) c k = ck T c k := fun k hk z => poT_o (kx_ne hk (by omega) (by omega)) (kx_ne hk (by omega) (by omega)) (kx_ne hk (by omega) (by omega))
    unfold CI
    rw [ek 0 (by omega) (by omega), ek 1 (by omega) (by omega), ek 3 (by omega) (by omega), ek 4 (by omega) (by omega), ek 5 (by omega) (by omega), e2]
    unfold ck at q3 q4 q1 q2
    have es : (T (kx c 2) - a).toInt = (T (kx c 2)).toInt - a.toInt := by rw [z_sub] <;> omega
    refine ⟨q0, ⟨q1, q2⟩, ⟨by omega, ?_⟩, q5, q6, q7⟩
    show _ ≤ (T (kx c 1)).toInt
    omega
  · by_cases cj : c = j
    · subst cj
      have e2 : ck (poT T i c a v) c 2 = T (kx c 2) + a := poT_j2
      have e3 : ck (poT T i c a v) c 3 = v := poT_j3
      have ek : ∀ k, k < 6 → k ≠ 2 → k ≠ 3 → ck (poT T i c a v) c k = ck T c k := fun k hk z z3 => poT_o (kx_ne hk (by omega) (by omega)) (kx_ne hk (by omega) (by omega)) (kx_ne hk (by omega) (by omega))
      unfold CI
      rw [ek 0 (by omega) (by omega) (by omega), ek 1 (by omega) (by omega) (by omega), ek 4 (by omega) (by omega) (by omega), ek 5 (by omega) (by omega) (by omega), e2, e3]
      unfold ck at q3 q4 q1 q2
      have es : (T (kx c 2) + a).toInt = (T (kx c 2)).toInt + a.toInt := by rw [z_add] <;> omega
      refine ⟨q0, ⟨q1, q2⟩, ⟨by omega, ?_⟩, hv, q6, q7⟩
      show _ ≤ (T (kx c 1)).toInt
      omega
    · exact (h7 c hc).cong (fun k hk => poT_o (kx_ne hk (by omega) (by omega)) (kx_ne hk (by omega) (by omega)) (kx_ne hk (by omega) (by omega)))
theorem poT_RC {b : Nat} {m : Mm} {T : Nat → Int32} (hr : RC b m T) {i j : Nat} (hij : i ≠ j) {a v : Int32} : RC b (mset (mset (mset m (b + 2 + j) 3 v) (b + 2 + j) 2 (T (kx j 2) + a)) (b + 2 + i) 2 (T (kx i 2) - a)) (poT T i j a v) := by
  obtain ⟨⟨r0, r1, r2, r3, r4⟩, r5⟩ := hr
  have hd : ∀ y, mset (mset (mset m (b + 2 + j) 3 v) (b + 2 + j) 2 (T (kx j 2) + a)) (b + 2 + i) 2 (T (kx i 2) - a) b y = m b y := fun y => by rw [mset_oo (by omega), mset_oo (by omega), mset_oo (by omega)]
  refine ⟨⟨by rw [hd, poT_5 (by omega)]; exact r0, by rw [hd, poT_5 (by omega)]; exact r1, by rw [hd, poT_5 (by omega)]; exact r2, by rw [hd, poT_5 (by omega)]; exact r3, by rw [hd, poT_5 (by omega)]; exact r4⟩, fun c k hc hk => ?_⟩
  rw [poT_nT] at hc
  by_cases ci : c = i
  · subst ci
    by_cases k2 : k = 2
    · subst k2; rw [mset_ss, poT_i2 hij]
    · rw [mset_so k2, mset_oo (by omega), mset_oo (by omega), r5 c k hc hk, poT_o (kx_ne hk (by omega) (by omega)) (kx_ne hk (by omega) (by omega)) (kx_ne hk (by omega) (by omega))]
  · rw [mset_oo (by omega)]
    by_cases cj : c = j
    · subst cj
      by_cases k2 : k = 2
      · subst k2; rw [mset_ss, poT_j2]
      · rw [mset_so k2]
        by_cases k3 : k = 3
        · subst k3; rw [mset_ss, poT_j3]
        · rw [mset_so k3, r5 c k hc hk, poT_o (kx_ne hk (by omega) (by omega)) (kx_ne hk (by omega) (by omega)) (kx_ne hk (by omega) (by omega))]
    · rw [mset_oo (by omega), mset_oo (by omega), r5 c k hc hk, poT_o (kx_ne hk (by omega) (by omega)) (kx_ne hk (by omega) (by omega)) (kx_ne hk (by omega) (by omega))]
theorem pours_s {m' : Mm} {T : Nat → Int32} (h3 : m' 36 = T) {i j : Nat} (hi : i < 7) (hj : j < 7) (hij : i ≠ j) {a v : Int32} (hm : X4_mixed 35 (nI i) (nI j) a m' = some v) : ∃ m2, X4_pours 35 (nI i) (nI j) a m' = some m2 ∧ m2 36 = poT T i j a v ∧ FrM 36 m' m2 := by
  refine ⟨mset (mset (mset m' 36 (kx j 3) v) 36 (kx i 2) (T (kx i 2) - a)) 36 (kx j 2) (T (kx j 2) + a), ?_, ?_, FrM.tr FrM36 (FrM.tr FrM36 FrM36)⟩
  · unfold X4_pours
    have e1 : mset m' 36 (kx j 3) v 36 (kx i 2) = T (kx i 2) := by rw [mset_so (kx_ne (by omega) (by omega) (by omega)), h3]
    have e2 : mset (mset m' 36 (kx j 3) v) 36 (kx i 2) (T (kx i 2) - a) 36 (kx j 2) = T (kx j 2) := by rw [mset_so (kx_ne (by omega) (by omega) (by omega)), mset_so (kx_ne (by omega) (by omega) (by omega)), h3]
    rw [hm, ob_y rfl, gd_y (at_in3 hj), nm_q, gd_y (at_in2 hi), nm_q, gd_y (at_in2 hj), nm_q, at_cl3 hj, at_cl2 hi, at_cl2 hj, e1, e2]
  · funext y
    by_cases y1 : y = kx j 2
    · rw [y1, mset_ss, poT_j2]
    · rw [mset_so y1]
      by_cases y2 : y = kx i 2
      · rw [y2, mset_ss, poT_i2 hij]
      · rw [mset_so y2]
        by_cases y3 : y = kx j 3
        · rw [y3, mset_ss, poT_j3]
        · rw [mset_so y3, poT_o y3 y1 y2, h3]
theorem st_p {L : Nat → Int32} {k : Nat} {m : Mm} (hk : LB L k) (h : LR L k m) {p : Nat} (hp : p ≤ 96) (hc : lt L k p = pf1 56) (G : Gd L k p 56) {T : Nat → Int32} (hT : TI T) (hy : (T 1).toInt ≤ 999) (hr : RC 11 m T) : St L k p 56 T m := by
  have n7 := hT.nT7
  have sf := sf_s hk h hp (by omega) hc
  have pcm : X3_pourComes 0 (nI p) m = ob2 (X2_pourOver 11 (num L k (p + 1) 1) (num L k (p + 2) 1) (num L k (p + 3) 3) m) (fun y4 m5 => some (y4, m5)) := by
    have e1 : X1_number 31 (nI p + 1) 1 m = some (num L k (p + 1) 1) := x1num (a := 1) (d := 1) hk h (by omega) (by omega)
    have e2 : X1_number 31 (nI p + 2) 1 m = some (num L k (p + 2) 1) := x1num (a := 2) (d := 1) hk h (by omega) (by omega)
    have e3 : X1_number 31 (nI p + 3) 3 m = some (num L k (p + 3) 3) := x1num (a := 3) (d := 3) hk h (by omega) (by omega)
    unfold X3_pourComes
    rw [e1, ob_y rfl, e2, ob_y rfl, e3, ob_y rfl]
  rw [if_neg (by decide), if_neg (by decide), if_neg (by decide), if_pos (by decide), pcm] at sf
  generalize ha : num L k (p + 1) 1 = a at *
  generalize hb : num L k (p + 2) 1 = b at *
  generalize hn : num L k (p + 3) 3 = n at *
  have isd : ∀ m', m' 36 = T → NN L k p 56 m' → X4_isDone 35 (pf1 56) m' = if (X4_isCask 35 a m') = 0 then (some (0, m')) else (if (X4_isCask 35 b m') = 0 then (some (0, m')) else (if a = b then (some (0, m')) else (if (X4_isIn n 1 400) = 0 then (some (0, m')) else (ob (X4_canPour 35 a b n m') (fun y27 => if y27 = 0 then (some (0, m')) else (ob (X4_pours 35 a b n m') (fun m29 => some (1, m29)))))))) := fun m' h3 hN => by
    obtain ⟨n0, n1, n2⟩ := hN.2.2.2 rfl
    rw [ha] at n0
    rw [hb] at n1
    rw [hn] at n2
    unfold X4_isDone
    rw [n0, n1, n2, nm_q, nm_q, if_neg (by decide), if_neg (by decide), if_neg (by decide), if_pos (by decide)]
  have bad : ∀ v, ¬ v = 0 → X2_pourFault 11 a b n m = some v → (∀ m', m' 36 = T → NN L k p 56 m' → X4_isDone 35 (pf1 56) m' = some (0, m')) → St L k p 56 T m := fun v v0 e1 e2 => by
    refine Or.inr ⟨v, m, ?_, v0, FrC.rf, fun m' h3 hN => ⟨m', e2 m' h3 hN, FrM.rf⟩⟩
    rw [sf]
    unfold X2_pourOver
    rw [e1, ob_y rfl, if_neg v0, ob2_y rfl, ob2_y rfl]
  rcases cf_b hr hT a with ⟨i, rfl, hi, hi7, f3, f4⟩ | ⟨f3, f4⟩
  · rcases cf_b hr hT b with ⟨j, rfl, hj, hj7, g3, g4⟩ | ⟨g3, g4⟩
    · by_cases hij : i = j
      · subst hij
        refine bad (-1) em1 ?_ (fun m' h3 hN => ?_)
        · unfold X2_pourFault
          rw [if_pos rfl, f3, fo0, if_pos rfl, nm_q, if_neg em1]
        · rw [isd m' h3 hN, f4 m' h3, if_neg e01, if_neg e01, if_pos rfl]
      · have ne : ¬ nI i = nI j := nI_ne (by omega) (by omega) hij
        have pf : X2_pourFault 11 (nI i) (nI j) n m = nm (X3_rangeFault n 1 400) (fun v12 => if v12 = 0 then (ob (X2_at 11 (nI j)) (fun y14 => ob (X2_at 11 (nI i)) (fun y15 => if (m y15 2) < n then (some (-3)) else (if n ≤ ((m y14 1) - (m y14 2)) then (some 0) else (some (-3)))))) else (some v12)) := by
          unfold X2_pourFault
          rw [if_neg ne, f3, g3, fo0, if_pos rfl, nm_q, if_pos rfl]
        rcases range_dec n 1 400 with ⟨r1, r2, r3⟩ | ⟨r1, r3⟩ | ⟨r1, r2, r3⟩
        · rw [z_le, t1] at r1
          rw [z_le, t400] at r2
          have ii : ¬ X4_isIn n 1 400 = 0 := by
            unfold X4_isIn
            rw [if_neg (by rw [z_lt, t1]; omega), if_neg (by rw [z_lt, t400]; omega)]
            exact e01
          rcases pf_b hr hT hi hj hij ⟨r1, r2⟩ with ⟨x1, x2, x3, x4⟩ | ⟨x1, x2⟩
          · obtain ⟨v, v1, v2, v3, v4⟩ := mixed_b hr hT hi hj (a := n) ⟨r1, r2⟩
            refine Or.inl ⟨poT T i j n v, mset (mset (mset m (11 + 2 + j) 3 v) (11 + 2 + j) 2 (T (kx j 2) + n)) (11 + 2 + i) 2 (T (kx i 2) - n), ?_, poT_RC hr hij, poT_TI hT hi hj hij ⟨r1, x3⟩ x4 ⟨v1, v2⟩, by rw [poT_5 (by omega)]; exact hy, fun y hy => ?_, fun m' h3 hN => ?_⟩
            · have u1 : mset m (11 + 2 + j) 3 v (11 + 2 + j) 2 = T (kx j 2) := by rw [mset_so (by omega), hr.2 j 2 hj (by omega)]
              have u2 : mset (mset m (11 + 2 + j) 3 v) (11 + 2 + j) 2 (T (kx j 2) + n) (11 + 2 + i) 2 = T (kx i 2) := by rw [mset_oo (by omega), mset_oo (by omega), hr.2 i 2 hi (by omega)]
              rw [sf]
              unfold X2_pourOver
              rw [x1, ob_y rfl, if_pos rfl, X2_at_s hj7, ob_y rfl, v3, ob_y rfl, nm_q, ob_y rfl, nm_q, X2_at_s hi7, ob_y rfl, nm_q, ob2_y rfl, ob2_y rfl, u1, u2]
            · funext z
              rw [mset_oo (by omega), mset_oo (by omega), mset_oo (by omega)]
            · obtain ⟨m2, w1, w2, w3⟩ := pours_s h3 hi7 hj7 hij (v4 m' h3)
              exact ⟨m2, by rw [isd m' h3 hN, f4 m' h3, if_neg e01, g4 m' h3, if_neg e01, if_neg ne, if_neg ii, x2 m' h3, ob_y rfl, if_neg e01, w1, ob_y rfl], w2, w3⟩
          · exact bad (-3) em3 x1 (fun m' h3 hN => by rw [isd m' h3 hN, f4 m' h3, if_neg e01, g4 m' h3, if_neg e01, if_neg ne, if_neg ii, x2 m' h3, ob_y rfl, if_pos rfl])
        · refine bad (-4) em4 (by rw [pf, r3, nm_q, if_neg em4]) (fun m' h3 hN => ?_)
          rw [z_le, t1] at r1
          rw [isd m' h3 hN, f4 m' h3, if_neg e01, g4 m' h3, if_neg e01, if_neg ne, if_pos (by unfold X4_isIn; rw [if_pos (by rw [z_lt, t1]; omega)])]
        · refine bad (-6) em6 (by rw [pf, r3, nm_q, if_neg em6]) (fun m' h3 hN => ?_)
          rw [z_le, t1] at r1
          rw [z_le, t400] at r2
          rw [isd m' h3 hN, f4 m' h3, if_neg e01, g4 m' h3, if_neg e01, if_neg ne, if_pos (by unfold X4_isIn; rw [if_neg (by rw [z_lt, t1]; omega), if_pos (by rw [z_lt, t400]; omega)])]
    · have ne : ¬ nI i = b := fun z => by rw [← z, f3] at g3; exact absurd g3 (by decide)
      refine bad (-1) em1 ?_ (fun m' h3 hN => ?_)
      · unfold X2_pourFault
        rw [if_neg ne, f3, fo0, g3, if_neg em1, nm_q, if_neg em1]
      · rw [isd m' h3 hN, f4 m' h3, if_neg e01, g4 m' h3, if_pos rfl]
  · refine bad (-1) em1 ?_ (fun m' h3 hN => ?_)
    · unfold X2_pourFault
      rw [f3, fo1 em1, fo1 em1, nm_q, nm_q, if_neg em1]
      split <;> rfl
    · rw [isd m' h3 hN, f4 m' h3, if_pos rfl]
