/-! town: the reference reads a statement -/
theorem rst_0 {L : Nat → Int32} {k : Nat} (hk : LB L k) {p : Nat} (hp : p ≤ 96) {m : Mm} (h : LQ L k m) (h12 : m 35 12 = nI p) (hs : sp L k p = 51) : ∃ m', X4_readsStatement 35 m = some (0, m') ∧ m' 35 12 = nI p ∧ Fp m m' := by
  rcases sh_dec (lt L k p) with ⟨-, e1, e2, e3, e4, e5, e6⟩ | ⟨e, -⟩
  · refine ⟨mset (mset m 35 12 (nI p + 1)) 35 12 (nI p + 1 - 1), ?_, ?_, Fp.tr Fp12 Fp12⟩
    · unfold X4_readsStatement
      rw [x4here hk h (by omega) h12, ob_y rfl, nm_q, if_neg e1, if_neg e2, if_neg e3, if_neg e4, if_neg e5, if_neg e6, nm_q, mset_ss, h12]
    · rw [mset_ss, Int32.add_sub_cancel]
  · unfold sp at hs; omega
theorem kx57 (L : Nat → Int32) (k p : Nat) : Ft0 L k p 52 0 := fun j hj => absurd hj (by omega)
theorem ft_1 {L : Nat → Int32} {k p sh : Nat} (hs : 52 ≤ sh ∧ sh < 58) (h : lt L k p = pf1 sh) : Ft0 L k p sh 1 := fun j hj => by
  have hp := pl_in hs
  have : j = 0 := by omega
  subst this
  rw [Nat.add_zero, h]
  exact (pc_dec sh hs.2 0 (by omega) hs.1).2.2.1
theorem rst_1 {L : Nat → Int32} {k : Nat} (hk : LB L k) {p : Nat} (hp : p ≤ 96) {m : Mm} (h : LQ L k m) (h12 : m 35 12 = nI p) (hs : 52 ≤ sp L k p ∧ sp L k p < 58) : RS L k p (sp L k p) (X4_readsStatement 35 m) m := by
  have hc : lt L k p = pf1 (sp L k p) := by
    rcases sh_dec (lt L k p) with ⟨e, -⟩ | ⟨-, e⟩
    · unfold sp at hs; omega
    · exact e
  have hft := ft_1 hs hc
  have hh := x4here hk h (show p < 1000 by omega) h12
  have f1 : Fp m (mset m 35 12 (nI (p + 1))) := Fp12
  have L1 := h.fp f1
  have q12 : mset m 35 12 (nI (p + 1)) 35 12 = nI (p + 1) := mset_ss
  have n1 : nI p + 1 = nI (p + 1) := nI_1 p
  generalize sp L k p = sh at *
  rcases (by omega : sh = 52 ∨ sh = 53 ∨ sh = 54 ∨ sh = 55 ∨ sh = 56 ∨ sh = 57) with rfl | rfl | rfl | rfl | rfl | rfl
  · have e : lt L k p = 99 := hc
    unfold X4_readsStatement
    rw [hh, ob_y rfl, nm_q, h12, n1, e, if_pos rfl]
    refine rs_kind hk hp L1 hft q12 f1 (fun m2 F2 L2 P2 f2 N0 => ?_)
    refine rs_num hk (o := 2) (a := 1) (d := 3) hp (by omega) (by omega) (by omega) (by decide) hs (by decide) L2 F2 P2 f2 (fun m3 F3 L3 P3 f3 N1 K1 => ?_)
    refine rs_num hk (o := 5) (a := 2) (d := 3) hp (by omega) (by omega) (by omega) (by decide) hs (by decide) L3 F3 P3 f3 (fun m4 F4 L4 P4 f4 N2 K2 => ?_)
    refine rs_num hk (o := 8) (a := 3) (d := 2) hp (by omega) (by omega) (by omega) (by decide) hs (by decide) L4 F4 P4 f4 (fun m5 F5 L5 P5 f5 N3 K3 => ?_)
    refine rs_num hk (o := 10) (a := 4) (d := 1) hp (by omega) (by omega) (by omega) (by decide) hs (by decide) L5 F5 P5 f5 (fun m6 F6 L6 P6 f6 N4 K4 => ?_)
    refine rs_end hk (e := 11) hp hs (by decide) L6 F6 P6 f6 ⟨fun _ => ⟨?_, ?_, ?_, ?_, N4⟩, fun z => absurd z (by omega), fun z => absurd z (by omega), fun z => absurd z (by omega)⟩
    · rw [K4 0 (by omega), K3 0 (by omega), K2 0 (by omega), K1 0 (by omega), N0]
    · rw [K4 1 (by omega), K3 1 (by omega), K2 1 (by omega), N1]
    · rw [K4 2 (by omega), K3 2 (by omega), N2]
    · rw [K4 3 (by omega), N3]
  · have e : lt L k p = 114 := hc
    unfold X4_readsStatement
    rw [hh, ob_y rfl, nm_q, h12, n1, e, if_neg (by decide), if_neg (by decide), if_neg (by decide), if_neg (by decide), if_pos rfl]
    refine rs_num hk (o := 1) (a := 0) (d := 2) hp (by omega) (by omega) (by omega) (by decide) hs (by decide) L1 hft q12 f1 (fun m3 F3 L3 P3 f3 N1 K1 => ?_)
    exact rs_end hk (e := 3) hp hs (by decide) L3 F3 P3 f3 ⟨fun z => absurd z (by omega), fun _ => N1, fun z => absurd z (by omega), fun z => absurd z (by omega)⟩
  · have e : lt L k p = 108 := hc
    unfold X4_readsStatement
    rw [hh, ob_y rfl, nm_q, h12, n1, e, if_neg (by decide), if_neg (by decide), if_pos rfl]
    refine rs_num hk (o := 1) (a := 0) (d := 1) hp (by omega) (by omega) (by omega) (by decide) hs (by decide) L1 hft q12 f1 (fun m3 F3 L3 P3 f3 N1 K1 => ?_)
    exact rs_end hk (e := 2) hp hs (by decide) L3 F3 P3 f3 ⟨fun z => absurd z (by omega), fun z => absurd z (by omega), fun _ => N1, fun z => absurd z (by omega)⟩
  · have e : lt L k p = 101 := hc
    unfold X4_readsStatement
    rw [hh, ob_y rfl, nm_q, h12, n1, e, if_neg (by decide), if_pos rfl]
    refine rs_num hk (o := 1) (a := 0) (d := 1) hp (by omega) (by omega) (by omega) (by decide) hs (by decide) L1 hft q12 f1 (fun m3 F3 L3 P3 f3 N1 K1 => ?_)
    exact rs_end hk (e := 2) hp hs (by decide) L3 F3 P3 f3 ⟨fun z => absurd z (by omega), fun z => absurd z (by omega), fun _ => N1, fun z => absurd z (by omega)⟩
  · have e : lt L k p = 112 := hc
    unfold X4_readsStatement
    rw [hh, ob_y rfl, nm_q, h12, n1, e, if_neg (by decide), if_neg (by decide), if_neg (by decide), if_pos rfl]
    refine rs_num hk (o := 1) (a := 0) (d := 1) hp (by omega) (by omega) (by omega) (by decide) hs (by decide) L1 hft q12 f1 (fun m3 F3 L3 P3 f3 N1 K1 => ?_)
    refine rs_num hk (o := 2) (a := 1) (d := 1) hp (by omega) (by omega) (by omega) (by decide) hs (by decide) L3 F3 P3 f3 (fun m4 F4 L4 P4 f4 N2 K2 => ?_)
    refine rs_num hk (o := 3) (a := 2) (d := 3) hp (by omega) (by omega) (by omega) (by decide) hs (by decide) L4 F4 P4 f4 (fun m5 F5 L5 P5 f5 N3 K3 => ?_)
    refine rs_end hk (e := 6) hp hs (by decide) L5 F5 P5 f5 ⟨fun z => absurd z (by omega), fun z => absurd z (by omega), fun z => absurd z (by omega), fun _ => ⟨?_, ?_, N3⟩⟩
    · rw [K3 0 (by omega), K2 0 (by omega), N1]
    · rw [K3 1 (by omega), N2]
  · have e : lt L k p = 121 := hc
    unfold X4_readsStatement
    rw [hh, ob_y rfl, nm_q, h12, n1, e, if_neg (by decide), if_neg (by decide), if_neg (by decide), if_neg (by decide), if_neg (by decide), if_pos rfl]
    refine rs_num hk (o := 1) (a := 0) (d := 2) hp (by omega) (by omega) (by omega) (by decide) hs (by decide) L1 hft q12 f1 (fun m3 F3 L3 P3 f3 N1 K1 => ?_)
    exact rs_end hk (e := 3) hp hs (by decide) L3 F3 P3 f3 ⟨fun z => absurd z (by omega), fun _ => N1, fun z => absurd z (by omega), fun z => absurd z (by omega)⟩
/-- what is done when the reading is through -/
def rEnd (v w : Int32) (m : Mm) : Option (Int32 × Mm) := ob (X4_lays 36 39 m) (fun m1 => nm (mset m1 35 12 0) (fun m2 => X4_town_L62 v (fun u m3 => nm (mset m3 35 8 0) (fun m4 => if u = (-9) then (some (v, m4)) else (some (u, m4)))) LF w m2))
theorem rp_txt {L : Nat → Int32} {k : Nat} (hk : LB L k) : ∀ n p fuel w2 (m : Mm), Txt L k (n + 1) p → k - p < fuel → LQ L k m → m 35 12 = nI p → ∃ m', Fp m m' ∧ X4_town_L10 fuel w2 (-9) m = rEnd (w2 + nI (n + 1)) (-9) m' := by
  have hk96 := hk.1
  intro n
  induction n with
  | zero =>
    intro p fuel w2 m ⟨t1, t2, t3, t4⟩ hf hL h12
    have hp := pl_in t2
    have t4' : p + pl (sp L k p) = k := t4
    obtain ⟨fuel, rfl⟩ : ∃ f, fuel = f + 1 := ⟨fuel - 1, by omega⟩
    rcases rst_1 hk (show p ≤ 96 by omega) hL h12 t2 with ⟨i, m', B, e, q, f⟩ | ⟨-, m', e, q, f, -⟩
    · exact absurd (t3 i B.2.1) B.2.2.2
    · refine ⟨m', f, ?_⟩
      conv => lhs; unfold X4_town_L10
      rw [e, ob2_y rfl, if_neg e01, nm_q, if_pos rfl, q, (hL.fp f).1, t4', if_neg (by rw [nI_lt_iff (by omega) (by omega)]; omega)]
      rfl
  | succ n ih =>
    intro p fuel w2 m ⟨t1, t2, t3, t4⟩ hf hL h12
    have hp := pl_in t2
    obtain ⟨fuel, rfl⟩ : ∃ f, fuel = f + 1 := ⟨fuel - 1, by omega⟩
    rcases rst_1 hk (show p ≤ 96 by omega) hL h12 t2 with ⟨i, m', B, e, q, f⟩ | ⟨-, m', e, q, f, -⟩
    · exact absurd (t3 i B.2.1) B.2.2.2
    · obtain ⟨m2, g1, g2⟩ := ih (p + pl (sp L k p)) fuel (w2 + 1) m' t4 (by omega) (hL.fp f) q
      refine ⟨m2, Fp.tr f g1, ?_⟩
      conv => lhs; unfold X4_town_L10
      rw [e, ob2_y rfl, if_neg e01, nm_q, if_pos rfl, q, (hL.fp f).1, if_pos (by rw [nI_lt_iff (by omega) (by omega)]; exact t4.1), g2, Int32.add_assoc, Int32.add_comm 1, nI_1]
theorem m1000 {q : Nat} (hq : q ≤ 96) : ¬ (-1000 : Int32) - nI q = -9 := by
  rw [z_eq, z_sub (by rw [z_nI (by omega)]; exact (by have : (-1000 : Int32).toInt = -1000 := rfl; omega)) (by rw [z_nI (by omega)]; have : (-1000 : Int32).toInt = -1000 := rfl; omega), z_nI (by omega)]
  have : (-1000 : Int32).toInt = -1000 := rfl
  have : (-9 : Int32).toInt = -9 := rfl
  omega
theorem rp_bad {w2 : Int32} {fuel q : Nat} {m m' : Mm} (hq : q ≤ 96) (e : X4_readsStatement 35 m = some (0, m')) (h : m' 35 12 = nI q) : X4_town_L10 (fuel + 1) w2 (-9) m = rEnd (w2 + 1) (-1000 - nI q) m' := by
  conv => lhs; unfold X4_town_L10
  rw [e, ob2_y rfl, if_pos rfl, nm_q, nm_q, h, if_neg (m1000 hq)]
  rfl
theorem rp_wr {L : Nat → Int32} {k : Nat} (hk : LB L k) : ∀ n p q fuel w2 (m : Mm), Wr L k n p q → k - p < fuel → LQ L k m → m 35 12 = nI p → ∃ v m', q ≤ 96 ∧ Fp m m' ∧ X4_town_L10 fuel w2 (-9) m = rEnd v (-1000 - nI q) m' := by
  have hk96 := hk.1
  intro n
  induction n with
  | zero =>
    intro p q fuel w2 m ⟨t1, t2⟩ hf hL h12
    obtain ⟨fuel, rfl⟩ : ∃ f, fuel = f + 1 := ⟨fuel - 1, by omega⟩
    rcases t2 with ⟨s, rfl⟩ | ⟨s, i, B, rfl⟩
    · obtain ⟨m', e, h, f⟩ := rst_0 hk (by omega) hL h12 s
      exact ⟨_, m', by omega, f, rp_bad (by omega) e h⟩
    · have hp := pl_in s
      rcases rst_1 hk (show p ≤ 96 by omega) hL h12 s with ⟨i', m', B', e, h, f⟩ | ⟨G, -⟩
      · have hi : i' = i := by
          rcases (by omega : i' < i ∨ i' = i ∨ i < i') with z | z | z
          · exact absurd (B.2.2.1 i' z) B'.2.2.2
          · exact z
          · exact absurd (B'.2.2.1 i z) B.2.2.2
        subst hi
        have hb := fit_k hk s (show i' - 1 < pl (sp L k p) by have := B.2.1; omega) (B.2.2.1 (i' - 1) (by have := B.1; omega))
        have hi1 := B.1
        exact ⟨_, m', by omega, f, rp_bad (by omega) e h⟩
      · exact absurd (G i B.2.1) B.2.2.2
  | succ n ih =>
    intro p q fuel w2 m ⟨t1, t2, t3, t4⟩ hf hL h12
    have hp := pl_in t2
    have hlt : p + pl (sp L k p) < k := by
      cases n with
      | zero => exact t4.1
      | succ n => exact t4.1
    obtain ⟨fuel, rfl⟩ : ∃ f, fuel = f + 1 := ⟨fuel - 1, by omega⟩
    rcases rst_1 hk (show p ≤ 96 by omega) hL h12 t2 with ⟨i, m', B, e, h, f⟩ | ⟨-, m', e, h, f, -⟩
    · exact absurd (t3 i B.2.1) B.2.2.2
    · obtain ⟨v, m2, g0, g1, g2⟩ := ih (p + pl (sp L k p)) q fuel (w2 + 1) m' t4 (by omega) (hL.fp f) h
      refine ⟨v, m2, g0, Fp.tr f g1, ?_⟩
      conv => lhs; unfold X4_town_L10
      rw [e, ob2_y rfl, if_neg e01, nm_q, if_pos rfl, h, (hL.fp f).1, if_pos (by rw [nI_lt_iff (by omega) (by omega)]; exact hlt), g2]
