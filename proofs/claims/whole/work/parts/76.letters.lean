/-! town: letters and shapes -/
def lt (L : Nat → Int32) (k q : Nat) : Int32 := if q < k then L q else -1
/-- the class's letters; the reference's; how great they are -/
def LR (L : Nat → Int32) (k : Nat) (m : Mm) : Prop := m 31 1 = nI k ∧ ∀ j, j < k → m 32 j = L j
def LQ (L : Nat → Int32) (k : Nat) (m : Mm) : Prop := m 35 8 = nI k ∧ ∀ j, j < k → m 40 j = L j
def LB (L : Nat → Int32) (k : Nat) : Prop := k ≤ 96 ∧ ∀ j, j < k → ∃ v, v < 256 ∧ L j = nI v
theorem lt_dec {L : Nat → Int32} {k : Nat} (h : LB L k) (q : Nat) : (q < k ∧ ∃ v, v < 256 ∧ lt L k q = nI v) ∨ (k ≤ q ∧ lt L k q = -1) := by
  unfold lt
  by_cases g : q < k
  · rw [if_pos g]; exact Or.inl ⟨g, h.2 q g⟩
  · rw [if_neg g]; exact Or.inr ⟨by omega, rfl⟩
theorem x1at {L : Nat → Int32} {k : Nat} {m : Mm} (hk : LB L k) (h : LR L k m) {q : Nat} (hq : q < 1000) : X1_at 31 (nI q) m = some (lt L k q) := by
  have := hk.1
  unfold X1_at lt
  rw [if_neg (nI_pos (by omega)), h.1]
  by_cases g : q < k
  · rw [if_neg (by rw [nI_le_iff (by omega) (by omega)]; omega), show (96 : Int32) = nI 96 from rfl, if_neg (by rw [nI_le_iff (by omega) (by omega)]; omega), gd_y (show vin (nI q) 96 from vp_in_nI (by omega) (by omega)), nI_clamp (by omega), if_pos g]
    exact congrArg some (h.2 q g)
  · rw [if_pos (by rw [nI_le_iff (by omega) (by omega)]; omega), if_neg g]
theorem x4here {L : Nat → Int32} {k : Nat} {m : Mm} (hk : LB L k) (h : LQ L k m) {q : Nat} (hq : q < 1000) (hp : m 35 12 = nI q) : X4_here 35 m = some (lt L k q) := by
  have := hk.1
  unfold X4_here lt
  rw [h.1, hp]
  by_cases g : q < k
  · rw [if_neg (by rw [nI_le_iff (by omega) (by omega)]; omega), gd_y (show vin (nI q) 96 from vp_in_nI (by omega) (by omega)), nI_clamp (by omega), if_pos g]
    exact congrArg some (h.2 q g)
  · rw [if_pos (by rw [nI_le_iff (by omega) (by omega)]; omega), if_neg g]
theorem kidx : ∀ v, v < 256 → J0_indexOf_0f7a4 50 ((nI v).toUInt32 % 65536).toInt32 = some (if X4_kindOf (nI v) < 0 then -1 else X4_kindOf (nI v)) := by decide +kernel
def kz (v : Int32) : Int32 := if X4_kindOf v < 0 then -1 else X4_kindOf v
theorem x1kind {L : Nat → Int32} {k : Nat} {m : Mm} (hk : LB L k) (h : LR L k m) {q : Nat} (hq : q < 1000) : X1_kind 31 (nI q) m = some (kz (lt L k q)) := by
  unfold X1_kind
  rw [x1at hk h hq, ob_y rfl]
  rcases lt_dec hk q with ⟨g, v, hv, e⟩ | ⟨g, e⟩
  · rw [e, if_pos (by rw [z_le, t0, z_nI (by omega)]; omega), kidx v hv]; rfl
  · rw [e, if_neg (by decide)]; rfl
def pl (sh : Nat) : Nat := if sh = 52 then 12 else if sh = 53 then 4 else if sh = 54 then 3 else if sh = 55 then 3 else if sh = 56 then 7 else if sh = 57 then 4 else 0
def pf1 (sh : Nat) : Int32 := if sh = 52 then 99 else if sh = 53 then 114 else if sh = 54 then 108 else if sh = 55 then 101 else if sh = 56 then 112 else 121
def pc (sh j : Nat) : Int32 := if j + 1 = pl sh then 59 else if j = 0 then pf1 sh else if sh = 52 ∧ j = 1 then 107 else 57
theorem sh_len : ∀ sh, sh < 58 → 51 ≤ sh → J0_length_8abf5 sh = nI (pl sh) := by decide +kernel
theorem sh_chr : ∀ sh, sh < 58 → ∀ j, j < pl sh → 51 ≤ sh → J0_charAt_5068e sh (nI j) = some (pc sh j) := by decide +kernel
theorem pl_in {sh : Nat} (h : 52 ≤ sh ∧ sh < 58) : 3 ≤ pl sh ∧ pl sh ≤ 12 := by
  rcases (by omega : sh = 52 ∨ sh = 53 ∨ sh = 54 ∨ sh = 55 ∨ sh = 56 ∨ sh = 57) with rfl | rfl | rfl | rfl | rfl | rfl <;> decide
theorem sh_dec (c : Int32) : (X1_shapeOf c = 51 ∧ ¬ c = 99 ∧ ¬ c = 101 ∧ ¬ c = 108 ∧ ¬ c = 112 ∧ ¬ c = 114 ∧ ¬ c = 121) ∨ ((52 ≤ X1_shapeOf c ∧ X1_shapeOf c < 58) ∧ c = pf1 (X1_shapeOf c)) := by
  unfold X1_shapeOf
  by_cases h1 : c = 99
  · rw [if_pos h1]; exact Or.inr ⟨by omega, h1⟩
  rw [if_neg h1]
  by_cases h2 : c = 101
  · rw [if_pos h2]; exact Or.inr ⟨by omega, h2⟩
  rw [if_neg h2]
  by_cases h3 : c = 108
  · rw [if_pos h3]; exact Or.inr ⟨by omega, h3⟩
  rw [if_neg h3]
  by_cases h4 : c = 112
  · rw [if_pos h4]; exact Or.inr ⟨by omega, h4⟩
  rw [if_neg h4]
  by_cases h5 : c = 114
  · rw [if_pos h5]; exact Or.inr ⟨by omega, h5⟩
  rw [if_neg h5]
  by_cases h6 : c = 121
  · rw [if_pos h6]; exact Or.inr ⟨by omega, h6⟩
  rw [if_neg h6]
  exact Or.inl ⟨rfl, h1, h2, h3, h4, h5, h6⟩
/-- a letter fits a sign of a shape -/
def fit (v c : Int32) : Prop := if c = 57 then (¬ v < 48 ∧ ¬ 57 < v) else if c = 107 then ¬ X4_kindOf v < 0 else v = c
def fitb (v c : Int32) : Bool := if c = 57 then (!decide (v < 48) && !decide (57 < v)) else if c = 107 then !decide (X4_kindOf v < 0) else decide (v = c)
theorem fit_b (v c : Int32) : fit v c ↔ fitb v c = true := by
  unfold fit fitb
  by_cases g1 : c = 57
  · rw [if_pos g1, if_pos g1]; simp
  · rw [if_neg g1, if_neg g1]
    by_cases g2 : c = 107
    · rw [if_pos g2, if_pos g2]; simp
    · rw [if_neg g2, if_neg g2]; simp
theorem pc_decb : ∀ sh, sh < 58 → ∀ j, j < pl sh → 52 ≤ sh → fitb (-1) (pc sh j) = false ∧ (j + 1 < pl sh → fitb 59 (pc sh j) = false) ∧ fitb (pf1 sh) (pc sh 0) = true ∧ (j + 1 = pl sh → pc sh j = 59) := by decide +kernel
theorem pc_dec (sh : Nat) (h1 : sh < 58) (j : Nat) (h2 : j < pl sh) (h3 : 52 ≤ sh) : ¬ fit (-1) (pc sh j) ∧ (j + 1 < pl sh → ¬ fit 59 (pc sh j)) ∧ fit (pf1 sh) (pc sh 0) ∧ (j + 1 = pl sh → pc sh j = 59) := by
  obtain ⟨q1, q2, q3, q4⟩ := pc_decb sh h1 j h2 h3
  refine ⟨fun z => ?_, fun z y => ?_, (fit_b _ _).mpr q3, q4⟩
  · rw [fit_b, q1] at z; exact absurd z (by decide)
  · rw [fit_b, q2 z] at y; exact absurd y (by decide)
theorem fits_y {L : Nat → Int32} {k : Nat} {m : Mm} (hk : LB L k) (h : LR L k m) {q : Nat} (hq : q < 1000) {c : Int32} (hf : fit (lt L k q) c) : X1_fits 31 (nI q) c m = some 1 := by
  unfold X1_fits
  rw [x1at hk h hq, ob_y rfl, x1kind hk h hq]
  by_cases g1 : c = 57
  · rw [if_pos g1]
    unfold fit at hf
    rw [if_pos g1] at hf
    rw [if_neg hf.1, if_neg hf.2]
  · rw [if_neg g1]
    unfold fit at hf
    rw [if_neg g1] at hf
    by_cases g2 : c = 107
    · rw [if_pos g2, ob_y rfl]
      rw [if_pos g2] at hf
      unfold kz
      rw [if_neg hf, if_neg hf]
    · rw [if_neg g2]
      rw [if_neg g2] at hf
      rw [if_pos hf]
theorem fits_n {L : Nat → Int32} {k : Nat} {m : Mm} (hk : LB L k) (h : LR L k m) {q : Nat} (hq : q < 1000) {c : Int32} (hf : ¬ fit (lt L k q) c) : X1_fits 31 (nI q) c m = some 0 := by
  unfold X1_fits
  rw [x1at hk h hq, ob_y rfl, x1kind hk h hq]
  by_cases g1 : c = 57
  · rw [if_pos g1]
    unfold fit at hf
    rw [if_pos g1] at hf
    by_cases g3 : lt L k q < 48
    · rw [if_pos g3]
    · rw [if_neg g3, if_pos (by
        by_cases g4 : 57 < lt L k q
        · exact g4
        · exact absurd ⟨g3, g4⟩ hf)]
  · rw [if_neg g1]
    unfold fit at hf
    rw [if_neg g1] at hf
    by_cases g2 : c = 107
    · rw [if_pos g2, ob_y rfl]
      rw [if_pos g2] at hf
      have hf' : X4_kindOf (lt L k q) < 0 := by
        by_cases g4 : X4_kindOf (lt L k q) < 0
        · exact g4
        · exact absurd g4 hf
      unfold kz
      rw [if_pos hf', if_pos (by decide)]
    · rw [if_neg g2]
      rw [if_neg g2] at hf
      rw [if_neg hf]
/-! a statement by its shape: the text goes on, ends, or goes wrong -/
def Ft0 (L : Nat → Int32) (k p sh i : Nat) : Prop := ∀ j, j < i → fit (lt L k (p + j)) (pc sh j)
def Gd (L : Nat → Int32) (k p sh : Nat) : Prop := Ft0 L k p sh (pl sh)
def Bdd (L : Nat → Int32) (k p sh i : Nat) : Prop := 1 ≤ i ∧ i < pl sh ∧ Ft0 L k p sh i ∧ ¬ fit (lt L k (p + i)) (pc sh i)
def sp (L : Nat → Int32) (k p : Nat) : Nat := X1_shapeOf (lt L k p)
def Txt (L : Nat → Int32) (k : Nat) : Nat → Nat → Prop
  | 0, p => p = k
  | n + 1, p => p < k ∧ (52 ≤ sp L k p ∧ sp L k p < 58) ∧ Gd L k p (sp L k p) ∧ Txt L k n (p + pl (sp L k p))
def Wr (L : Nat → Int32) (k : Nat) : Nat → Nat → Nat → Prop
  | 0, p, q => p < k ∧ ((sp L k p = 51 ∧ q = p) ∨ ((52 ≤ sp L k p ∧ sp L k p < 58) ∧ ∃ i, Bdd L k p (sp L k p) i ∧ q = p + i))
  | n + 1, p, q => p < k ∧ (52 ≤ sp L k p ∧ sp L k p < 58) ∧ Gd L k p (sp L k p) ∧ Wr L k n (p + pl (sp L k p)) q
theorem fit_k {L : Nat → Int32} {k : Nat} (hk : LB L k) {sh j q : Nat} (hs : 52 ≤ sh ∧ sh < 58) (hj : j < pl sh) (h : fit (lt L k q) (pc sh j)) : q < k := by
  rcases lt_dec hk q with ⟨g, -⟩ | ⟨g, e⟩
  · exact g
  · rw [e] at h
    exact absurd h (pc_dec sh hs.2 j hj hs.1).1
theorem gd_k {L : Nat → Int32} {k : Nat} (hk : LB L k) {sh p : Nat} (hs : 52 ≤ sh ∧ sh < 58) (h : Gd L k p sh) : p + pl sh ≤ k := by
  have := pl_in hs
  have := fit_k hk hs (show pl sh - 1 < pl sh by omega) (h (pl sh - 1) (by omega))
  omega
theorem gb_dec {L : Nat → Int32} {k p sh : Nat} (hs : 52 ≤ sh ∧ sh < 58) (h0 : lt L k p = pf1 sh) : Gd L k p sh ∨ ∃ i, Bdd L k p sh i := by
  have hp := pl_in hs
  have h00 : fit (lt L k (p + 0)) (pc sh 0) := by
    rw [Nat.add_zero, h0]; exact (pc_dec sh hs.2 0 (by omega) hs.1).2.2.1
  have key : ∀ t, t ≤ pl sh → Ft0 L k p sh t ∨ ∃ i, Bdd L k p sh i := by
    intro t
    induction t with
    | zero => intro _; exact Or.inl (fun j hj => absurd hj (by omega))
    | succ t ih =>
      intro ht
      rcases ih (by omega) with g | g
      · by_cases f : fit (lt L k (p + t)) (pc sh t)
        · left
          intro j hj
          by_cases e : j = t
          · rw [e]; exact f
          · exact g j (by omega)
        · right
          refine ⟨t, ?_, by omega, g, f⟩
          by_cases e : t = 0
          · rw [e] at f; exact absurd h00 f
          · omega
      · exact Or.inr g
  exact key (pl sh) (Nat.le_refl _)
theorem text_dec {L : Nat → Int32} {k : Nat} (hk : LB L k) : ∀ d p, k - p ≤ d → p ≤ k → (∃ n, Txt L k n p) ∨ ∃ n q, Wr L k n p q := by
  intro d
  induction d with
  | zero => intro p h1 h2; exact Or.inl ⟨0, show p = k by omega⟩
  | succ d ih =>
    intro p h1 h2
    by_cases e : p = k
    · exact Or.inl ⟨0, e⟩
    · have hlt : p < k := by omega
      rcases sh_dec (lt L k p) with ⟨s, -⟩ | ⟨s, f⟩
      · exact Or.inr ⟨0, p, hlt, Or.inl ⟨s, rfl⟩⟩
      · rcases gb_dec (L := L) (k := k) (p := p) s f with g | ⟨i, g⟩
        · have g1 := gd_k hk s g
          have g2 := pl_in s
          rcases ih (p + pl (sp L k p)) (by unfold sp; omega) g1 with ⟨n, t⟩ | ⟨n, q, t⟩
          · exact Or.inl ⟨n + 1, hlt, s, g, t⟩
          · exact Or.inr ⟨n + 1, q, hlt, s, g, t⟩
        · exact Or.inr ⟨0, p + i, hlt, Or.inr ⟨s, i, g, rfl⟩⟩
