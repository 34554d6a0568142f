/-! town: the reference reads -/
def num (L : Nat → Int32) (k p : Nat) : Nat → Int32
  | 0 => 0
  | d + 1 => 10 * num L k p d + lt L k (p + d) - 48
def Fp (m m' : Mm) : Prop := (∀ i, i ≠ 35 → i ≠ 43 → m' i = m i) ∧ ∀ j, j ≠ 12 → m' 35 j = m 35 j
theorem Fp.rf {m : Mm} : Fp m m := ⟨fun _ _ _ => rfl, fun _ _ => rfl⟩
theorem Fp.tr {a b c : Mm} (h1 : Fp a b) (h2 : Fp b c) : Fp a c := ⟨fun i q1 q2 => (h2.1 i q1 q2).trans (h1.1 i q1 q2), fun j q => (h2.2 j q).trans (h1.2 j q)⟩
theorem LQ.fp {L : Nat → Int32} {k : Nat} {m m' : Mm} (h : LQ L k m) (f : Fp m m') : LQ L k m' := ⟨(f.2 8 (by omega)).trans h.1, fun j hj => (congrFun (f.1 40 (by omega) (by omega)) j).trans (h.2 j hj)⟩
theorem Fp12 {m : Mm} {v : Int32} : Fp m (mset m 35 12 v) := ⟨fun i h1 _ => by funext j; exact mset_oo h1, fun j h => mset_so h⟩
theorem Fp43 {m : Mm} {a : Nat} {v : Int32} : Fp m (mset m 43 a v) := ⟨fun i _ h => by funext j; exact mset_oo h, fun j _ => mset_oo (by omega)⟩
theorem isIn_y {v : Int32} (h : fit v 57) : X4_isIn v 48 57 = 1 := by
  unfold fit at h
  rw [if_pos rfl] at h
  unfold X4_isIn
  rw [if_neg h.1, if_neg h.2]
theorem isIn_n {v : Int32} (h : ¬ fit v 57) : X4_isIn v 48 57 = 0 := by
  unfold fit at h
  rw [if_pos rfl] at h
  unfold X4_isIn
  by_cases g : v < 48
  · rw [if_pos g]
  · rw [if_neg g, if_pos (by
      by_cases g2 : 57 < v
      · exact g2
      · exact absurd ⟨g, g2⟩ h)]
theorem rn_s {L : Nat → Int32} {k : Nat} (hk : LB L k) {a d q : Nat} (ha : a < 5) (hd : d ≤ 3) (hq : q ≤ 200) : ∀ t j fuel (m : Mm), t = d - j → j ≤ d → t < fuel → LQ L k m → m 35 12 = nI (q + j) → m 43 a = num L k q j → (∀ i, i < j → fit (lt L k (q + i)) 57) →
    (∃ i m', i < d ∧ (∀ i', i' < i → fit (lt L k (q + i')) 57) ∧ ¬ fit (lt L k (q + i)) 57 ∧ X4_readsNumber_L9 (nI a) (nI d) fuel (nI j) m = some (0, m') ∧ m' 35 12 = nI (q + i) ∧ Fp m m') ∨
    ((∀ i, i < d → fit (lt L k (q + i)) 57) ∧ ∃ m', X4_readsNumber_L9 (nI a) (nI d) fuel (nI j) m = some (1, m') ∧ m' 35 12 = nI (q + d) ∧ Fp m m' ∧ m' 43 a = num L k q d ∧ ∀ i, i ≠ a → m' 43 i = m 43 i) := by
  intro t
  induction t with
  | zero =>
    intro j fuel m ht hj hf hL hp hn hg
    have : j = d := by omega
    subst this
    obtain ⟨fuel, rfl⟩ : ∃ f, fuel = f + 1 := ⟨fuel - 1, by omega⟩
    refine Or.inr ⟨hg, m, ?_, hp, Fp.rf, hn, fun _ _ => rfl⟩
    unfold X4_readsNumber_L9
    rw [if_pos (nI_yle (by omega) (by omega) (Nat.le_refl _))]
  | succ t ih =>
    intro j fuel m ht hj hf hL hp hn hg
    obtain ⟨fuel, rfl⟩ : ∃ f, fuel = f + 1 := ⟨fuel - 1, by omega⟩
    have hh := x4here hk hL (show q + j < 1000 by omega) hp
    by_cases f : fit (lt L k (q + j)) 57
    · have u : X4_readsNumber_L9 (nI a) (nI d) (fuel + 1) (nI j) m = X4_readsNumber_L9 (nI a) (nI d) fuel (nI (j + 1)) (mset (mset m 43 a (num L k q (j + 1))) 35 12 (nI (q + j + 1))) := by
        conv => lhs; unfold X4_readsNumber_L9
        rw [if_neg (nI_nl2 (by omega) (by omega) (by omega)), hh, ob_y rfl, isIn_y f, if_neg e01, gd_y (show vin (nI a) 5 from vp_in_nI ha (by omega)), ob_y rfl, nI_clamp (by omega), hn, nm_q, nm_q, nm_q, mset_oo (show (35 : Nat) ≠ 43 by omega), hp, nI_1, nI_1]
        rfl
      have f1 : Fp m (mset (mset m 43 a (num L k q (j + 1))) 35 12 (nI (q + j + 1))) := Fp.tr Fp43 Fp12
      rw [u]
      rcases ih (j + 1) fuel _ (by omega) (by omega) (by omega) (hL.fp f1) mset_ss (by rw [mset_oo (by omega), mset_ss]) (fun i hi => by
        by_cases e : i = j
        · rw [e]; exact f
        · exact hg i (by omega)) with ⟨i, m', x1, x2, x3, x4, x5, x6⟩ | ⟨x1, m', x2, x3, x4, x5, x6⟩
      · exact Or.inl ⟨i, m', x1, x2, x3, x4, x5, Fp.tr f1 x6⟩
      · exact Or.inr ⟨x1, m', x2, x3, Fp.tr f1 x4, x5, fun i hi => by rw [x6 i hi, mset_oo (by omega), mset_so hi]⟩
    · refine Or.inl ⟨j, m, by omega, hg, f, ?_, hp, Fp.rf⟩
      conv => lhs; unfold X4_readsNumber_L9
      rw [if_neg (nI_nl2 (by omega) (by omega) (by omega)), hh, ob_y rfl, isIn_n f, if_pos rfl]
/-- numbers read of a statement -/
def NN (L : Nat → Int32) (k p sh : Nat) (m : Mm) : Prop :=
  (sh = 52 → m 43 0 = X4_kindOf (lt L k (p + 1)) ∧ m 43 1 = num L k (p + 2) 3 ∧ m 43 2 = num L k (p + 5) 3 ∧ m 43 3 = num L k (p + 8) 2 ∧ m 43 4 = num L k (p + 10) 1) ∧
  ((sh = 53 ∨ sh = 57) → m 43 0 = num L k (p + 1) 2) ∧ ((sh = 54 ∨ sh = 55) → m 43 0 = num L k (p + 1) 1) ∧
  (sh = 56 → m 43 0 = num L k (p + 1) 1 ∧ m 43 1 = num L k (p + 2) 1 ∧ m 43 2 = num L k (p + 3) 3)
def RS (L : Nat → Int32) (k p sh : Nat) (r : Option (Int32 × Mm)) (m : Mm) : Prop :=
  (∃ i m', Bdd L k p sh i ∧ r = some (0, m') ∧ m' 35 12 = nI (p + i) ∧ Fp m m') ∨ (Gd L k p sh ∧ ∃ m', r = some (1, m') ∧ m' 35 12 = nI (p + pl sh) ∧ Fp m m' ∧ NN L k p sh m')
theorem rs_num {L : Nat → Int32} {k : Nat} (hk : LB L k) {p sh o a d : Nat} (hp : p ≤ 96) (ha : a < 5) (hd : d ≤ 3) (ho : 1 ≤ o) (hod : o + d < pl sh) (hs : 52 ≤ sh ∧ sh < 58) (hc : ∀ j, j < d → pc sh (o + j) = 57) {m0 m : Mm} (hL : LQ L k m) (hf : Ft0 L k p sh o) (h12 : m 35 12 = nI (p + o)) (f0 : Fp m0 m) {K : Mm → Option (Int32 × Mm)}
    (hg : ∀ m', Ft0 L k p sh (o + d) → LQ L k m' → m' 35 12 = nI (p + (o + d)) → Fp m0 m' → m' 43 a = num L k (p + o) d → (∀ i, i ≠ a → m' 43 i = m 43 i) → RS L k p sh (K m') m0) :
    RS L k p sh (ob2 (X4_readsNumber 35 (nI a) (nI d) m) (fun y m' => if y = 0 then some (0, m') else K m')) m0 := by
  have hpl := pl_in hs
  have u : X4_readsNumber 35 (nI a) (nI d) m = X4_readsNumber_L9 (nI a) (nI d) LF (nI 0) (mset m 43 a 0) := by
    unfold X4_readsNumber
    rw [gd_y (show vin (nI a) 5 from vp_in_nI ha (by omega)), nI_clamp (by omega), nm_q]
    rfl
  have f1 : Fp m (mset m 43 a 0) := Fp43
  rcases rn_s hk ha hd (q := p + o) (by omega) d 0 LF (mset m 43 a 0) (by omega) (by omega) (LF_big (by omega)) (hL.fp f1) (by rw [mset_oo (by omega)]; exact h12) mset_ss (fun i hi => absurd hi (by omega)) with ⟨i, m', x1, x2, x3, x4, x5, x6⟩ | ⟨x1, m', x2, x3, x4, x5, x6⟩
  · refine Or.inl ⟨o + i, m', ⟨by omega, by omega, fun j hj => ?_, ?_⟩, ?_, by rw [x5, Nat.add_assoc], Fp.tr f0 (Fp.tr f1 x6)⟩
    · by_cases e : j < o
      · exact hf j e
      · have := x2 (j - o) (by omega)
        have h2 := hc (j - o) (by omega)
        rw [show p + o + (j - o) = p + j by omega] at this
        rw [show o + (j - o) = j by omega] at h2
        rw [h2]; exact this
    · rw [hc i x1, ← Nat.add_assoc]; exact x3
    · rw [u, x4, ob2_y rfl, if_pos rfl]
  · rw [u, x2, ob2_y rfl, if_neg e01]
    refine hg m' (fun j hj => ?_) (hL.fp (Fp.tr f1 x4)) (by rw [x3, Nat.add_assoc]) (Fp.tr f0 (Fp.tr f1 x4)) x5 (fun i hi => by rw [x6 i hi, mset_so hi])
    by_cases e : j < o
    · exact hf j e
    · have := x1 (j - o) (by omega)
      have h2 := hc (j - o) (by omega)
      rw [show p + o + (j - o) = p + j by omega] at this
      rw [show o + (j - o) = j by omega] at h2
      rw [h2]; exact this
theorem rs_end {L : Nat → Int32} {k : Nat} (hk : LB L k) {p sh e : Nat} (hp : p ≤ 96) (hs : 52 ≤ sh ∧ sh < 58) (he : e + 1 = pl sh) {m0 m : Mm} (hL : LQ L k m) (hf : Ft0 L k p sh e) (h12 : m 35 12 = nI (p + e)) (f0 : Fp m0 m) (hN : NN L k p sh m) :
    RS L k p sh (ob (X4_here 35 m) (fun y => if y = 59 then (nm (mset m 35 12 ((m 35 12) + 1)) (fun m' => some (1, m'))) else (some (0, m)))) m0 := by
  have hpl := pl_in hs
  have hpc := (pc_dec sh hs.2 e (by omega) hs.1).2.2.2 he
  have hfi : fit (lt L k (p + e)) 59 ↔ lt L k (p + e) = 59 := by
    unfold fit
    rw [if_neg (by decide), if_neg (by decide)]
  rw [x4here hk hL (by omega) h12, ob_y rfl]
  by_cases g : lt L k (p + e) = 59
  · rw [if_pos g, nm_q, h12, nI_1]
    refine Or.inr ⟨fun j hj => ?_, _, rfl, by rw [mset_ss, Nat.add_assoc, he], Fp.tr f0 Fp12, ?_⟩
    · by_cases z : j = e
      · rw [z, hpc]; exact hfi.mpr g
      · exact hf j (by omega)
    · unfold NN at hN ⊢
      simp only [mset_oo (show (43 : Nat) ≠ 35 by omega)]
      exact hN
  · rw [if_neg g]
    exact Or.inl ⟨e, m, ⟨by omega, by omega, hf, by rw [hpc]; exact fun z => g (hfi.mp z)⟩, rfl, h12, f0⟩
theorem kof_n (v : Int32) : X4_kindOf v = 2 ∨ X4_kindOf v = 5 ∨ X4_kindOf v = 3 ∨ X4_kindOf v = 1 ∨ X4_kindOf v = 0 ∨ X4_kindOf v = 4 ∨ X4_kindOf v = -9 := by
  unfold X4_kindOf
  (repeat' split) <;> simp
theorem rs_kind {L : Nat → Int32} {k : Nat} (hk : LB L k) {p : Nat} (hp : p ≤ 96) {m0 m : Mm} (hL : LQ L k m) (hf : Ft0 L k p 52 1) (h12 : m 35 12 = nI (p + 1)) (f0 : Fp m0 m) {K : Mm → Option (Int32 × Mm)}
    (hg : ∀ m', Ft0 L k p 52 2 → LQ L k m' → m' 35 12 = nI (p + 2) → Fp m0 m' → m' 43 0 = X4_kindOf (lt L k (p + 1)) → RS L k p 52 (K m') m0) :
    RS L k p 52 (ob2 (X4_readsKind 35 m) (fun y m' => if y = 0 then some (0, m') else K m')) m0 := by
  have hh := x4here hk hL (show p + 1 < 1000 by omega) h12
  have hfi : fit (lt L k (p + 1)) 107 ↔ ¬ X4_kindOf (lt L k (p + 1)) < 0 := by
    unfold fit
    rw [if_neg (by decide), if_pos rfl]
  generalize hc : lt L k (p + 1) = c at *
  have h0 : 0 ≤ X4_kindOf c ↔ ¬ X4_kindOf c < 0 := by rw [z_le, z_lt]; omega
  by_cases g : X4_kindOf c < 0
  · have u : X4_readsKind 35 m = some (0, mset (mset m 43 0 (X4_kindOf c)) 35 12 (nI (p + 1))) := by
      unfold X4_readsKind
      rw [hh, ob_y rfl, nm_q, mset_ss, if_neg (fun z => (h0.mp z) g), nm_q, mset_oo (show (43 : Nat) ≠ 35 by omega), mset_ss, if_pos g, mset_oo (show (35 : Nat) ≠ 43 by omega), h12, Int32.add_zero]
    refine Or.inl ⟨1, _, ⟨by omega, by decide, hf, ?_⟩, by rw [u, ob2_y rfl, if_pos rfl], mset_ss, Fp.tr f0 (Fp.tr Fp43 Fp12)⟩
    rw [hc]
    exact fun z => (hfi.mp z) g
  · have u : X4_readsKind 35 m = some (1, mset (mset m 43 0 (X4_kindOf c)) 35 12 (nI (p + 2))) := by
      unfold X4_readsKind
      rw [hh, ob_y rfl, nm_q, mset_ss, if_pos (h0.mpr g), nm_q, mset_oo (show (43 : Nat) ≠ 35 by omega), mset_ss, if_neg g, mset_oo (show (35 : Nat) ≠ 43 by omega), h12, nI_1]
    rw [u, ob2_y rfl, if_neg e01]
    have f1 : Fp m (mset (mset m 43 0 (X4_kindOf c)) 35 12 (nI (p + 2))) := Fp.tr Fp43 Fp12
    refine hg _ (fun j hj => ?_) (hL.fp f1) mset_ss (Fp.tr f0 f1) (by rw [mset_oo (by omega), mset_ss])
    by_cases z : j = 1
    · rw [z, hc]; exact hfi.mpr g
    · exact hf j (by omega)
