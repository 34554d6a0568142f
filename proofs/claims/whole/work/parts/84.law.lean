/-! the law's loop: 1 on every script -/
theorem ite_ex {c : Prop} [Decidable c] {a b : Option (Int32 × Mm)} (h1 : c → ∃ m, a = some (1, m)) (h2 : ¬ c → ∃ m, b = some (1, m)) : ∃ m, (if c then a else b) = some (1, m) := by
  by_cases h : c
  · obtain ⟨m, e⟩ := h1 h
    exact ⟨m, by rw [if_pos h, e]⟩
  · obtain ⟨m, e⟩ := h2 h
    exact ⟨m, by rw [if_neg h, e]⟩
theorem gd_ex {c : Prop} [Decidable c] {a : Option (Int32 × Mm)} (h : c) (h2 : ∃ m, a = some (1, m)) : ∃ m, gd c a = some (1, m) := by
  obtain ⟨m, e⟩ := h2
  exact ⟨m, by rw [gd_y h, e]⟩
theorem law_o {f g : Mm → Option (Int32 × Mm)} (o : Op f g) {m : Mm} (hm : R m) {a : Int32} {K : Int32 → Mm → Option (Int32 × Mm)} (hK : ∀ m', R m' → ∃ m2, K a m' = some (1, m2)) : ∃ m2, ob2 (f m) (fun y m1 => ob2 (g m1) (fun y' m2 => if y = y' then nm a (fun v => K v m2) else some (0, m2))) = some (1, m2) := by
  obtain ⟨v, m1, m2, e1, e2, h⟩ := o m hm
  obtain ⟨m3, e3⟩ := hK m2 h
  exact ⟨m3, by rw [e1, ob2_y rfl, e2, ob2_y rfl, if_pos rfl, nm_q, e3]⟩
theorem law_l {f g : Mm → Option (Int64 × Mm)} (o : Op f g) {m : Mm} (hm : R m) {a : Int32} {K : Int32 → Mm → Option (Int32 × Mm)} (hK : ∀ m', R m' → ∃ m2, K a m' = some (1, m2)) : ∃ m2, ob2 (f m) (fun y m1 => ob2 (g m1) (fun y' m2 => if lg_cmp y y' = 0 then nm a (fun v => K v m2) else some (0, m2))) = some (1, m2) := by
  obtain ⟨v, m1, m2, e1, e2, h⟩ := o m hm
  obtain ⟨m3, e3⟩ := hK m2 h
  exact ⟨m3, by rw [e1, ob2_y rfl, e2, ob2_y rfl, if_pos (lg_zero.mpr rfl), nm_q, e3]⟩
theorem law_p {f g : Mm → Option Int32} {m : Mm} (hm : R m) (o : ∃ v, f m = some v ∧ g m = some v) {a : Int32} {K : Int32 → Mm → Option (Int32 × Mm)} (hK : ∀ m', R m' → ∃ m2, K a m' = some (1, m2)) : ∃ m2, ob (f m) (fun y => ob (g m) (fun y' => if y = y' then nm a (fun v => K v m) else some (0, m))) = some (1, m2) := by
  obtain ⟨v, e1, e2⟩ := o
  obtain ⟨m3, e3⟩ := hK m hm
  exact ⟨m3, by rw [e1, ob_y rfl, e2, ob_y rfl, if_pos rfl, nm_q, e3]⟩
set_option maxRecDepth 20000 in
theorem law_s {S : Sc} (hS : S.1 ≤ 3072) : ∀ j i fuel (m : Mm), j = S.1 / 6 - i → i ≤ S.1 / 6 → j < fuel → R m → ∃ m', L_law_L18 S fuel (nI (6 * i)) m = some (1, m') := by
  have e6 : ((Int32.ofNat S.1) - 6).toInt = (S.1 : Int) - 6 := by
    have h0 : (Int32.ofNat S.1).toInt = (S.1 : Int) := z_nI (by omega)
    have h6 : (6 : Int32).toInt = 6 := rfl
    rw [z_sub (by rw [h0, h6]; omega) (by rw [h0, h6]; omega), h0, h6]
  intro j
  induction j with
  | zero =>
    intro i fuel m hj hi hf hm
    obtain ⟨fuel, rfl⟩ : ∃ q, fuel = q + 1 := ⟨fuel - 1, by omega⟩
    refine ⟨m, ?_⟩
    unfold L_law_L18
    rw [if_pos (by rw [z_lt, e6, z_nI (by omega)]; omega)]
  | succ j ih =>
    intro i fuel m hj hi hf hm
    obtain ⟨fuel, rfl⟩ : ∃ q, fuel = q + 1 := ⟨fuel - 1, by omega⟩
    have hlt : 6 * i + 6 ≤ S.1 := by omega
    have hK : ∀ m', R m' → ∃ m2, L_law_L18 S fuel (nI (6 * i) + 6) m' = some (1, m2) := fun m' hm' => by
      obtain ⟨m2, e⟩ := ih (i + 1) fuel m' (by omega) (by omega) (by omega) hm'
      refine ⟨m2, ?_⟩
      rw [← e, show (6 : Int32) = nI 6 from rfl, nI_add]
      rfl
    have v0 : vin (nI (6 * i)) S.1 := vp_in_nI (by omega) (by omega)
    have vj : ∀ k, k < 6 → vin (nI (6 * i) + nI k) S.1 := fun k hk => by rw [nI_add]; exact vp_in_nI (by omega) (by omega)
    have v1 : vin (nI (6 * i) + 1) S.1 := vj 1 (by omega)
    have v2 : vin (nI (6 * i) + 2) S.1 := vj 2 (by omega)
    have v3 : vin (nI (6 * i) + 3) S.1 := vj 3 (by omega)
    have v4 : vin (nI (6 * i) + 4) S.1 := vj 4 (by omega)
    have v5 : vin (nI (6 * i) + 5) S.1 := vj 5 (by omega)
    unfold L_law_L18
    rw [if_neg (by rw [z_lt, e6, z_nI (by omega)]; omega)]
    refine gd_ex v0 ?_
    refine ite_ex (fun _ => gd_ex v1 (law_o (op_letter _) hm hK)) (fun _ => ?_)
    refine ite_ex (fun _ => law_o op_town hm hK) (fun _ => ?_)
    refine ite_ex (fun _ => gd_ex v1 (gd_ex v2 (law_o (op_cask _ _) hm hK))) (fun _ => ?_)
    refine ite_ex (fun _ => gd_ex v1 (gd_ex v2 (law_o (op_set _ _) hm hK))) (fun _ => ?_)
    refine ite_ex (fun _ => gd_ex v1 (gd_ex v2 (law_o (op_fill _ _) hm hK))) (fun _ => ?_)
    refine ite_ex (fun _ => gd_ex v1 (gd_ex v2 (gd_ex v3 (law_o (op_takes _ _ _) hm hK)))) (fun _ => ?_)
    refine ite_ex (fun _ => gd_ex v1 (gd_ex v2 (gd_ex v3 (law_o (op_pour _ _ _) hm hK)))) (fun _ => ?_)
    refine ite_ex (fun _ => gd_ex v1 (law_o (op_years _) hm hK)) (fun _ => ?_)
    refine ite_ex (fun _ => gd_ex v1 (gd_ex v2 (gd_ex v3 (law_o (op_behind _ _ _) hm hK)))) (fun _ => ?_)
    refine ite_ex (fun _ => gd_ex v1 (gd_ex v2 (law_o (op_allBehind _ _) hm hK))) (fun _ => ?_)
    refine ite_ex (fun _ => gd_ex v1 (gd_ex v2 (gd_ex v3 (law_l (op_theirs _ _ _) hm hK)))) (fun _ => ?_)
    refine ite_ex (fun _ => gd_ex v1 (law_o (op_excise _) hm hK)) (fun _ => ?_)
    refine ite_ex (fun _ => gd_ex v1 (law_o (op_exciseIn _) hm hK)) (fun _ => ?_)
    refine ite_ex (fun _ => gd_ex v1 (gd_ex v2 (law_o (op_low _ _) hm hK))) (fun _ => ?_)
    refine ite_ex (fun _ => law_o op_turns hm hK) (fun _ => ?_)
    refine ite_ex (fun _ => gd_ex v1 (law_o (op_hum _) hm hK)) (fun _ => ?_)
    refine ite_ex (fun _ => gd_ex v1 (gd_ex v2 (law_o (op_pourFor _ _) hm hK))) (fun _ => ?_)
    refine ite_ex (fun _ => gd_ex v1 (law_o (op_blend _) hm hK)) (fun _ => ?_)
    refine ite_ex (fun _ => law_p hm (sp_spread hm) hK) (fun _ => ?_)
    refine ite_ex (fun _ => gd_ex v1 (law_o (op_layDown _) hm hK)) (fun _ => ?_)
    refine ite_ex (fun _ => gd_ex v1 (law_o (op_sell _) hm hK)) (fun _ => ?_)
    refine ite_ex (fun _ => gd_ex v1 (law_o (op_treaty _) hm hK)) (fun _ => ?_)
    refine ite_ex (fun _ => gd_ex v1 (gd_ex v2 (law_o (op_bestSet _ _) hm hK))) (fun _ => ?_)
    refine ite_ex (fun _ => gd_ex v1 (law_o (op_iron _) hm hK)) (fun _ => ?_)
    refine ite_ex (fun _ => gd_ex v1 (law_o (op_row _) hm hK)) (fun _ => ?_)
    refine ite_ex (fun _ => gd_ex v1 (gd_ex v2 (law_o (op_which _ _) hm hK))) (fun _ => ?_)
    refine ite_ex (fun _ => gd_ex v1 (law_o (op_judge _) hm hK)) (fun _ => ?_)
    refine ite_ex (fun _ => gd_ex v1 (gd_ex v2 (gd_ex v3 (gd_ex v4 (gd_ex v5 (law_l (op_chance _ _ _ _ _) hm hK)))))) (fun _ => ?_)
    refine ite_ex (fun _ => gd_ex v1 (gd_ex v2 (gd_ex v3 (law_o (op_lots _ _ _) hm hK)))) (fun _ => ?_)
    refine ite_ex (fun _ => law_o op_image hm hK) (fun _ => ?_)
    refine ite_ex (fun _ => law_o op_on hm hK) (fun _ => ?_)
    refine ite_ex (fun _ => gd_ex v1 (law_p hm (sp_count hm _) hK)) (fun _ => ?_)
    rw [nm_q]
    exact hK m hm
theorem law_1 {S : Sc} (hS : S.1 ≤ 3072) {m : Mm} (hm : R m) : ∃ m', L_law_L18 S LF 0 m = some (1, m') := law_s hS (S.1 / 6) 0 LF m rfl (Nat.zero_le _) (LF_big (by omega)) hm
