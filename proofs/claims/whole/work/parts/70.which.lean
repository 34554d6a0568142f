/-! which kinds, which rates -/
def kdT (T : Nat → Int32) (c : Nat) (v : Int32) : Nat → Int32 := fun j => if j = kx c 0 then v else T j
theorem kdT_k {T : Nat → Int32} {c k : Nat} {v : Int32} (hk : k ≠ 0) : kdT T c v (kx c k) = T (kx c k) := if_neg (by unfold kx; omega)
theorem kdT_o {T : Nat → Int32} {c j : Nat} {v : Int32} (h : ∀ k, k < 6 → j ≠ kx c k) : kdT T c v j = T j := if_neg (h 0 (by omega))
theorem kdT_TI {T : Nat → Int32} (h : TI T) {c : Nat} (hc : c < nT T) {v : Int32} (hv : 0 ≤ v.toInt ∧ v.toInt ≤ 5) : TI (kdT T c v) := by
  refine TI_cask h hc (fun j hj => kdT_o hj) ?_
  obtain ⟨-, q2, q3, q4, q5, q6⟩ := h.ci hc
  have e0 : ck (kdT T c v) c 0 = v := if_pos rfl
  have ek : ∀ k, k ≠ 0 → ck (kdT T c v) c k = ck T c k := fun k hk => kdT_k hk
  unfold CI
  rw [e0, ek 1 (by omega), ek 2 (by omega), ek 3 (by omega), ek 4 (by omega), ek 5 (by omega)]
  exact ⟨hv, q2, q3, q4, q5, q6⟩
theorem kdT_nT {T : Nat → Int32} {c : Nat} {v : Int32} : nT (kdT T c v) = nT T := by unfold nT kdT; rw [if_neg (by unfold kx; omega)]
theorem kdT_5 {T : Nat → Int32} {c j : Nat} {v : Int32} (h : j < 5 ∨ 47 ≤ j) (hc : c < 7) : kdT T c v j = T j := if_neg (by unfold kx; omega)
theorem bits6 : ∀ i, i < 6 → ∀ u, u < 2 ^ i → nI u ||| (1 <<< (nI i &&& 31)) = nI (u + 2 ^ i) ∧ nI u + (1 <<< (nI i &&& 31)) = nI (u + 2 ^ i) := by decide +kernel
theorem kinds_s {S z : Nat → Int32} (hS : TI S) (hy : (S 1).toInt ≤ 999) {c n : Nat} (hn : n ≤ 12) (hc : c < nT S) {w : Nat → Int32} : ∀ (k i fuel u : Nat) (m : Mm), k = 6 - i → i ≤ 6 → k < fuel → u < 2 ^ i → RC 1 m S → m 0 6 = nI n → (∀ j, j < n → m 33 j = w j) →
    ∃ v m1, X3_kindsByRow_L4 (nI c) fuel (nI u) (nI i) m = some (v, m1) ∧ FrC 11 m m1 ∧ ∀ m', m' 36 = S → Hi z m' → m' 35 9 = nI n → (∀ j, j < n → m' 41 j = w j) → ∃ m2, X4_which_L35 (nI c) 0 fuel (nI u) (nI i) m' = some (v, m2) ∧ FrM 37 m' m2 := by
  have n7 := hS.nT7
  have hc7 : c < 7 := by omega
  intro k
  induction k with
  | zero =>
    intro i fuel u m hk hi hf hu hr h6 hw
    have : i = 6 := by omega
    subst this
    obtain ⟨fuel, rfl⟩ : ∃ q, fuel = q + 1 := ⟨fuel - 1, by omega⟩
    have q : (6 : Int32) ≤ nI 6 := by decide
    refine ⟨nI u, m, ?_, FrC.rf, fun m' _ _ _ _ => ⟨m', ?_, FrM.rf⟩⟩
    · unfold X3_kindsByRow_L4; rw [if_pos q]
    · unfold X4_which_L35; rw [if_pos rfl, if_pos q]
  | succ k ih =>
    intro i fuel u m hk hi hf hu hr h6 hw
    obtain ⟨fuel, rfl⟩ : ∃ q, fuel = q + 1 := ⟨fuel - 1, by omega⟩
    have ei : (nI i).toInt = (i : Int) := z_nI (by omega)
    have q : ¬ (6 : Int32) ≤ nI i := by rw [z_le, ei, show (6 : Int32).toInt = 6 from rfl]; omega
    have hT : TI (kdT (tz S z) c (nI i)) := kdT_TI (tz_TI hS) (by rw [tz_nT]; exact hc) (by rw [ei]; omega)
    have hTy : (kdT (tz S z) c (nI i) 1).toInt ≤ 999 := by rw [kdT_5 (by omega) hc7, tz_lo (by omega)]; exact hy
    obtain ⟨m1, p1, p2, p3⟩ := bec_s (z := z) hS hr
    have hr2 : RC 11 (mset m1 (11 + 2 + c) 0 (nI i)) (kdT (tz S z) c (nI i)) := by
      refine RC_cask p2 (c := c) (by funext j; exact mset_oo (by omega)) (by rw [tz_nT]; exact n7.1) (fun c' q q7 => by funext j; exact mset_oo (by omega)) (fun k hk => ?_) (fun j hj => kdT_o hj)
      by_cases z0 : k = 0
      · subst z0; rw [mset_ss]; exact (if_pos rfl).symm
      · rw [mset_so z0, kdT_k z0, p2.2 c k (by rw [tz_nT]; exact hc) hk]
    have f2 : FrC 11 m (mset m1 (11 + 2 + c) 0 (nI i)) := FrC.tr p3 (fun i hi => by funext j; exact mset_oo (by omega))
    obtain ⟨v, m2, s1, s2, s3, s4⟩ := fn_s (c := c) hn (w := w) n 0 LF _ _ (by omega) (by omega) (LF_big (by omega)) hT (by rw [kdT_nT, tz_nT]; exact hc) (by omega) (by rw [if_pos rfl]; exact hr2) (by rw [f2 0 (by omega)]; exact h6) (fun j hj => by rw [f2 33 (by omega)]; exact hw j hj)
    rw [nI_z] at s1
    have fr : FrC 11 m m2 := FrC.tr f2 s2
    have hr3 : RC 1 m2 S := hr.cg (fun i h1 h2 => fr i (by omega)) n7.1
    obtain ⟨b1, b2⟩ := bits6 i (by omega) u hu
    have hp : (2 : Nat) ^ (i + 1) = 2 ^ i + 2 ^ i := by rw [Nat.pow_succ]; omega
    have x3 : X3_kindsByRow_L4 (nI c) (fuel + 1) (nI u) (nI i) m = if v = -9 then X3_kindsByRow_L4 (nI c) fuel (nI (u + 2 ^ i)) (nI (i + 1)) m2 else X3_kindsByRow_L4 (nI c) fuel (nI u) (nI (i + 1)) m2 := by
      conv => lhs; unfold X3_kindsByRow_L4 X3_firstNotSo
      rw [if_neg q, ob_y p1, X2_at_s hc7, ob_y rfl, nm_q, ob2_y s1, b1]
      simp only [nm_q, nI_1]
    have x4 : ∀ m', m' 36 = S → Hi z m' → m' 35 9 = nI n → (∀ j, j < n → m' 41 j = w j) → ∃ m3, FrM 37 m' m3 ∧ m3 36 = S ∧ Hi z m3 ∧ m3 35 9 = nI n ∧ (∀ j, j < n → m3 41 j = w j) ∧ X4_which_L35 (nI c) 0 (fuel + 1) (nI u) (nI i) m' = if 0 ≤ v then X4_which_L35 (nI c) 0 fuel (nI u) (nI (i + 1)) m3 else X4_which_L35 (nI c) 0 fuel (nI (u + 2 ^ i)) (nI (i + 1)) m3 := fun m' h3 h4 h5 h41 => by
      obtain ⟨m2', l1, l2, l3⟩ := lay_s h3 h4
      have e37 : mset m2' 37 (kx c 0) (nI i) 37 = kdT (tz S z) c (nI i) := by
        funext j
        unfold kdT
        by_cases e : j = kx c 0
        · rw [e, mset_ss, if_pos rfl]
        · rw [mset_so e, if_neg e, l2]
      obtain ⟨m3, w1, w2, w3⟩ := s4 (mset m2' 37 (kx c 0) (nI i)) e37 (fun j hj => by rw [mset_oo (by omega), l3 41 (by omega)]; exact h41 j hj)
      rw [nI_z] at w1
      have fr4 : FrM 37 m' m3 := FrM.tr ⟨fun i h1 h2 => l3 i h1, fun k h1 h2 => congrFun (l3 35 (by omega)) k⟩ (FrM.tr ⟨fun i h1 h2 => by funext j; exact mset_oo h1, fun k h1 h2 => mset_oo (by omega)⟩ w2)
      refine ⟨m3, fr4, (fr4.1 36 (by omega) (by omega)).trans h3, fun j hj => ?_, (fr4.2 9 (by omega) (by omega)).trans h5, fun j hj => by rw [fr4.1 41 (by omega) (by omega)]; exact h41 j hj, ?_⟩
      · rw [w3 j hj, kdT_5 (by omega) hc7, tz_hi hj]
      · have e9 : mset m2' 37 (kx c 0) (nI i) 35 9 = nI n := by rw [mset_oo (by omega), l3 35 (by omega), h5]
        conv => lhs; unfold X4_which_L35 X4_firstWrong
        rw [if_pos rfl, if_neg q, ob_y l1, gd_y (at_in0 hc7), at_cl0 hc7, nm_q, e9, ob2_y w1, b2]
        simp only [nm_q, nI_1]
    by_cases g : v = -9
    · obtain ⟨v', n1, e1, e2, e3⟩ := ih (i + 1) fuel (u + 2 ^ i) m2 (by omega) (by omega) (by omega) (by omega) hr3 (by rw [fr 0 (by omega)]; exact h6) (fun j hj => by rw [fr 33 (by omega)]; exact hw j hj)
      refine ⟨v', n1, by rw [x3, if_pos g, e1], FrC.tr fr e2, fun m' h3 h4 h5 h41 => ?_⟩
      obtain ⟨m3, f3, h6', h7, h8, h9, h10⟩ := x4 m' h3 h4 h5 h41
      obtain ⟨n2, w1, w2⟩ := e3 m3 h6' h7 h8 h9
      exact ⟨n2, by rw [h10, if_neg (by rw [g]; decide), w1], FrM.tr f3 w2⟩
    · have g2 : (0 : Int32) ≤ v := by
        rcases s3 with s3 | s3
        · exact absurd s3 g
        · rw [z_le, t0]; exact s3
      obtain ⟨v', n1, e1, e2, e3⟩ := ih (i + 1) fuel u m2 (by omega) (by omega) (by omega) (by omega) hr3 (by rw [fr 0 (by omega)]; exact h6) (fun j hj => by rw [fr 33 (by omega)]; exact hw j hj)
      refine ⟨v', n1, by rw [x3, if_neg g, e1], FrC.tr fr e2, fun m' h3 h4 h5 h41 => ?_⟩
      obtain ⟨m3, f3, h6', h7, h8, h9, h10⟩ := x4 m' h3 h4 h5 h41
      obtain ⟨n2, w1, w2⟩ := e3 m3 h6' h7 h8 h9
      exact ⟨n2, by rw [h10, if_pos g2, w1], FrM.tr f3 w2⟩
