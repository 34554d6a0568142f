/-! town: where no town can go on; the class -/
theorem nI_ne {a b : Nat} (ha : a < 2147483648) (hb : b < 2147483648) (h : a ≠ b) : ¬ nI a = nI b := by rw [z_eq, z_nI ha, z_nI hb]; omega
theorem nI_nl2 {a b : Nat} (ha : a < 2147483648) (hb : b < 2147483648) (h : b < a) : ¬ nI a ≤ nI b := by rw [nI_le_iff ha hb]; omega
theorem nI_yle {a b : Nat} (ha : a < 2147483648) (hb : b < 2147483648) (h : a ≤ b) : nI a ≤ nI b := (nI_le_iff ha hb).mpr h
theorem nI_n0 {a : Nat} (ha : a < 2147483648) (h : 0 < a) : ¬ nI a ≤ 0 := by rw [z_le, t0, z_nI ha]; omega
theorem fw_step {L : Nat → Int32} {k : Nat} {m : Mm} (hk : LB L k) (h : LR L k m) {sh p i : Nat} (hs : 52 ≤ sh ∧ sh < 58) (hi : i < pl sh) (hq : p + i < k) {fuel : Nat} :
    (fit (lt L k (p + i)) (pc sh i) → X1_firstWrong_L7 31 m (fuel + 1) sh (nI i) (nI (p + i)) = X1_firstWrong_L7 31 m fuel sh (nI (i + 1)) (nI (p + i + 1))) ∧
    (¬ fit (lt L k (p + i)) (pc sh i) → X1_firstWrong_L7 31 m (fuel + 1) sh (nI i) (nI (p + i)) = some (nI (p + i))) := by
  have hp := pl_in hs
  have hk96 := hk.1
  have u : X1_firstWrong_L7 31 m (fuel + 1) sh (nI i) (nI (p + i)) = ob (X1_fits 31 (nI (p + i)) (pc sh i) m) (fun y17 => if y17 = 0 then (some (nI (p + i))) else (nm (nI i + 1) (fun v19 => nm (nI (p + i) + 1) (fun v20 => X1_firstWrong_L7 31 m fuel sh v19 v20)))) := by
    conv => lhs; unfold X1_firstWrong_L7
    rw [h.1, sh_len sh hs.2 (by omega), if_neg (nI_nl2 (by omega) (by omega) hq), if_neg (nI_ne (by omega) (by omega) (by omega)), if_neg (nI_nl2 (by omega) (by omega) hi), sh_chr sh hs.2 i hi (by omega), ob_y rfl]
  refine ⟨fun f => ?_, fun f => ?_⟩
  · rw [u, fits_y hk h (by omega) f, ob_y rfl, if_neg e01, nm_q, nm_q, nI_1, nI_1]
  · rw [u, fits_n hk h (by omega) f, ob_y rfl, if_pos rfl]
theorem fw_good {L : Nat → Int32} {k : Nat} {m : Mm} (hk : LB L k) (h : LR L k m) {sh p : Nat} (hs : 52 ≤ sh ∧ sh < 58) (G : Gd L k p sh) : ∀ d i fuel, d = pl sh - i → i ≤ pl sh → X1_firstWrong_L7 31 m (fuel + d) sh (nI i) (nI (p + i)) = X1_firstWrong_L7 31 m fuel sh (nI (pl sh)) (nI (p + pl sh)) := by
  intro d
  induction d with
  | zero =>
    intro i fuel hd hi
    have : i = pl sh := by omega
    rw [this]; rfl
  | succ d ih =>
    intro i fuel hd hi
    have hi' : i < pl sh := by omega
    have f := G i hi'
    have := (fw_step hk h hs hi' (fit_k hk hs hi' f) (fuel := fuel + d)).1 f
    rw [show fuel + (d + 1) = fuel + d + 1 from rfl, this]
    exact ih (i + 1) fuel (by omega) (by omega)
theorem fw_bad {L : Nat → Int32} {k : Nat} {m : Mm} (hk : LB L k) (h : LR L k m) {sh p i0 : Nat} (hs : 52 ≤ sh ∧ sh < 58) (B : Bdd L k p sh i0) : ∀ d i fuel, d = i0 - i → i ≤ i0 → X1_firstWrong_L7 31 m (fuel + d + 1) sh (nI i) (nI (p + i)) = some (nI (p + i0)) := by
  obtain ⟨b1, b2, b3, b4⟩ := B
  have hp := pl_in hs
  have hk96 := hk.1
  have hb := fit_k hk hs (show i0 - 1 < pl sh by omega) (b3 (i0 - 1) (by omega))
  intro d
  induction d with
  | zero =>
    intro i fuel hd hi
    have : i = i0 := by omega
    subst this
    by_cases g : p + i < k
    · exact (fw_step hk h hs b2 g).2 b4
    · have e : p + i = k := by omega
      show X1_firstWrong_L7 31 m (fuel + 1) sh (nI i) (nI (p + i)) = _
      conv => lhs; unfold X1_firstWrong_L7
      rw [h.1, sh_len sh hs.2 (by omega), if_pos (nI_yle (by omega) (by omega) (by omega)), if_neg (nI_n0 (by omega) (by omega)), if_neg (nI_ne (by omega) (by omega) (by omega)), e]
  | succ d ih =>
    intro i fuel hd hi
    have hi' : i < i0 := by omega
    have f := b3 i hi'
    have := (fw_step hk h hs (show i < pl sh by omega) (fit_k hk hs (show i < pl sh by omega) f) (fuel := fuel + d + 1)).1 f
    rw [show fuel + (d + 1) + 1 = fuel + d + 1 + 1 from rfl, this]
    exact ih (i + 1) fuel (by omega) (by omega)
theorem fw_first {L : Nat → Int32} {k : Nat} {m : Mm} (hk : LB L k) (h : LR L k m) {w p fuel : Nat} (hw : 51 ≤ w ∧ w < 58) (hp : p < k) :
    (sp L k p = 51 → X1_firstWrong_L7 31 m (fuel + 1) w (nI (pl w)) (nI p) = some (nI p)) ∧
    ((52 ≤ sp L k p ∧ sp L k p < 58) → X1_firstWrong_L7 31 m (fuel + 1) w (nI (pl w)) (nI p) = X1_firstWrong_L7 31 m fuel (sp L k p) (nI 1) (nI (p + 1))) := by
  have hk96 := hk.1
  have u : X1_firstWrong_L7 31 m (fuel + 1) w (nI (pl w)) (nI p) = if (J0_length_8abf5 (sp L k p)) ≤ 0 then (some (nI p)) else (ob (J0_charAt_5068e (sp L k p) 0) (fun y11 => ob (X1_fits 31 (nI p) y11 m) (fun y12 => if y12 = 0 then (some (nI p)) else (nm (nI p + 1) (fun v14 => X1_firstWrong_L7 31 m fuel (sp L k p) 1 v14))))) := by
    conv => lhs; unfold X1_firstWrong_L7
    rw [h.1, sh_len w hw.2 hw.1, if_neg (nI_nl2 (by omega) (by omega) hp), if_pos rfl, x1at hk h (by omega), ob_y rfl]
    rfl
  refine ⟨fun s => ?_, fun s => ?_⟩
  · rw [u, s, sh_len 51 (by omega) (by omega), if_pos (by decide)]
  · have hp := pl_in s
    have c0 := sh_chr (sp L k p) s.2 0 (by omega) (by omega)
    rw [nI_z] at c0
    have f : fit (lt L k p) (pc (sp L k p) 0) := by
      rcases sh_dec (lt L k p) with ⟨e, -⟩ | ⟨-, e⟩
      · unfold sp at s; omega
      · have := (pc_dec (sp L k p) s.2 0 (by omega) s.1).2.2.1
        unfold sp at this ⊢
        rw [← e] at this
        exact this
    rw [u, sh_len _ s.2 (by omega), if_neg (nI_n0 (by omega) (by omega)), c0, ob_y rfl, fits_y hk h (by omega) f, ob_y rfl, if_neg e01, nm_q, nI_1]
    rfl
theorem fw_txt {L : Nat → Int32} {k : Nat} {m : Mm} (hk : LB L k) (h : LR L k m) : ∀ n p w fuel, Txt L k (n + 1) p → 51 ≤ w ∧ w < 58 → k - p < fuel → X1_firstWrong_L7 31 m fuel w (nI (pl w)) (nI p) = some (-9) := by
  have hk96 := hk.1
  intro n
  induction n with
  | zero =>
    intro p w fuel ⟨t1, t2, t3, t4⟩ hw hf
    have hp := pl_in t2
    have t4' : p + pl (sp L k p) = k := t4
    obtain ⟨f, rfl⟩ : ∃ f, fuel = f + 1 + (pl (sp L k p) - 1) + 1 := ⟨fuel - pl (sp L k p) - 1, by omega⟩
    rw [(fw_first hk h hw t1).2 t2, fw_good hk h t2 t3 (pl (sp L k p) - 1) 1 (f + 1) (by omega) (by omega), t4']
    conv => lhs; unfold X1_firstWrong_L7
    rw [h.1, sh_len _ t2.2 (by omega), if_pos (nI_yle (by omega) (by omega) (by omega)), if_neg (nI_n0 (by omega) (by omega)), if_pos rfl]
  | succ n ih =>
    intro p w fuel ⟨t1, t2, t3, t4⟩ hw hf
    have hp := pl_in t2
    have hgk := gd_k hk t2 t3
    obtain ⟨f, rfl⟩ : ∃ f, fuel = f + (pl (sp L k p) - 1) + 1 := ⟨fuel - pl (sp L k p), by omega⟩
    rw [(fw_first hk h hw t1).2 t2, fw_good hk h t2 t3 (pl (sp L k p) - 1) 1 f (by omega) (by omega)]
    exact ih _ _ _ t4 (by omega) (by omega)
theorem fw_wr {L : Nat → Int32} {k : Nat} {m : Mm} (hk : LB L k) (h : LR L k m) : ∀ n p q w fuel, Wr L k n p q → 51 ≤ w ∧ w < 58 → k - p < fuel → X1_firstWrong_L7 31 m fuel w (nI (pl w)) (nI p) = some (nI q) := by
  have hk96 := hk.1
  intro n
  induction n with
  | zero =>
    intro p q w fuel ⟨t1, t2⟩ hw hf
    rcases t2 with ⟨s, rfl⟩ | ⟨s, i, B, rfl⟩
    · obtain ⟨f, rfl⟩ : ∃ f, fuel = f + 1 := ⟨fuel - 1, by omega⟩
      exact (fw_first hk h hw t1).1 s
    · have hp := pl_in s
      have B' := B
      obtain ⟨b1, b2, b3, b4⟩ := B'
      have hb := fit_k hk s (show i - 1 < pl (sp L k p) by omega) (b3 (i - 1) (by omega))
      obtain ⟨f, rfl⟩ : ∃ f, fuel = f + (i - 1) + 1 + 1 := ⟨fuel - i - 1, by omega⟩
      rw [(fw_first hk h hw t1).2 s, fw_bad hk h s B (i - 1) 1 f (by omega) (by omega)]
  | succ n ih =>
    intro p q w fuel ⟨t1, t2, t3, t4⟩ hw hf
    have hp := pl_in t2
    have hgk := gd_k hk t2 t3
    obtain ⟨f, rfl⟩ : ∃ f, fuel = f + (pl (sp L k p) - 1) + 1 := ⟨fuel - pl (sp L k p), by omega⟩
    rw [(fw_first hk h hw t1).2 t2, fw_good hk h t2 t3 (pl (sp L k p) - 1) 1 f (by omega) (by omega)]
    exact ih _ _ _ _ t4 (by omega) (by omega)
theorem fw_0 {L : Nat → Int32} {m : Mm} (h : LR L 0 m) : X1_firstWrong 31 m = some (nI 0) := by
  unfold X1_firstWrong
  obtain ⟨f, hf⟩ : ∃ f, LF = f + 1 := ⟨LF - 1, by have := LF_big (show 0 < 4000 by omega); omega⟩
  rw [hf]
  unfold X1_firstWrong_L7
  rw [h.1, if_pos (by decide), if_pos (by decide)]
theorem fw_t {L : Nat → Int32} {k : Nat} {m : Mm} (hk : LB L k) (h : LR L k m) {n : Nat} (ht : Txt L k (n + 1) 0) : X1_firstWrong 31 m = some (-9) := by
  have := hk.1
  have := fw_txt hk h n 0 51 LF ht (by omega) (LF_big (by omega))
  exact this
theorem fw_w {L : Nat → Int32} {k : Nat} {m : Mm} (hk : LB L k) (h : LR L k m) {n q : Nat} (ht : Wr L k n 0 q) : X1_firstWrong 31 m = some (nI q) := by
  have := hk.1
  have := fw_wr hk h n 0 q 51 LF ht (by omega) (LF_big (by omega))
  exact this
