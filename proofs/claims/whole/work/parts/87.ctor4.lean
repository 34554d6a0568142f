/-! the constructors: the reference -/
def rS0 : Nat → Int32 := fun k => if k = 2 then 10 else if k = 3 then 4 else if k = 4 then 2 else 0
theorem up_S0 : upd (upd (upd (fun _ => 0) (2 : Int32).toNatClampNeg 10) (3 : Int32).toNatClampNeg 4) (4 : Int32).toNatClampNeg 2 = rS0 := by
  have e2 : (2 : Int32).toNatClampNeg = 2 := rfl
  have e3 : (3 : Int32).toNatClampNeg = 3 := rfl
  have e4 : (4 : Int32).toNatClampNeg = 4 := rfl
  funext j
  unfold upd rS0
  rw [e2, e3, e4]
  by_cases h4 : j = 4
  · subst h4; rfl
  · rw [if_neg h4]
    by_cases h3 : j = 3
    · subst h3; rfl
    · rw [if_neg h3]
      by_cases h2 : j = 2
      · subst h2; rfl
      · rw [if_neg h2, if_neg h2, if_neg h3, if_neg h4]
abbrev rf0 : va_E := .inr (4, [.null, .null, .null, .null, .int 0, .null, .null, .null, .int 0, .int 0, .int 0, .int 0, .int 0, .null, .int 0])
abbrev rfE (b : Nat → Nat) : va_E := .inr (4, [.ref (b 0), .ref (b 1), .ref (b 2), .ref (b 3), .int 0, .ref (b 4), .ref (b 5), .ref (b 6), .int 0, .int 0, .int 0, .int 0, .int 0, .ref (b 7), .int 0])
abbrev wRf (h0 : Nat) (b : Nat → Nat) (cI : ClassId) : va_W := (h0, rfE b) :: [(b 0, eI cI 47 rS0), (b 1, eI cI 47 (fun _ => 0)), (b 2, eI cI 47 (fun _ => 0)), (b 3, eI cI 47 (fun _ => 0)), (b 4, eI cI 96 (fun _ => 0)), (b 5, eI cI 12 (fun _ => 0)), (b 6, eI cI 7 (fun _ => 0)), (b 7, eI cI 5 (fun _ => 0))]
set_option maxHeartbeats 16000000 in
set_option maxRecDepth 100000 in
/-- the reference: eight rows of ints -/
theorem c_X4_init (l : Launch) (D : va_G) (h0 sz : Nat) : Met l yX4_init (Jvm.Cond.code yX4_init cX4_init 1 none :: BW) ({ frames := 1, cells := 8, slots := 308, locals := 12 }) (va_Pc [.ref h0] (fun U => U.heap.size = sz ∧ va_P D vwCl [(h0, rf0)] U.heap ∧ va_K D vwCl [] U ∧ va_D (fun _ => True) [(h0, rf0)]))
    (va_Qv (fun _ : ClassId × (Nat → Nat) => True) (fun u t => va_P D vwCl (wRf h0 u.2 u.1) t.heap ∧ va_K D vwCl [(u.1, .int)] t ∧ va_D (va_A [(h0, rf0)] sz) (wRf h0 u.2 u.1)) (va_A [(h0, rf0)] sz)) 8 308 (va_A [(h0, rf0)] sz) := by
  refine Met.ofW (cc := cX4_init) (maxL := 1) (ret := none) (by decide) rfl ?_
  intro p e s m args below meth c s₁ B hml hv
  obtain ⟨rfl, hsz, hP, hK, hD0⟩ := hv
  have hx := B.exec
  have hb := B.bytes
  have hr := B.returns
  have hts0 := atoms_spec (ws := Jvm.Cond.code yX4_init cX4_init 1 none :: BW) B.pre
  have hts : ∀ w ∈ BW, w.before ([Value.ref h0] : List Value).toArray s = true := fun w hw => hts0 w (List.mem_cons_of_mem _ hw)
  have hown : s.vm.findClass RX4 = some m.cls := findClass_of_methodNamed B.named
  have hlocks := B.notSynchronized
  have hin : meth.name = "<init>" := (name_of_methodNamed B.named B.method).1
  subst hsz
  have hD := hD0.self (sz := s.heap.size)
  generalize hAe : va_A [(h0, rf0)] s.heap.size = A at hD ⊢
  have hA : ∀ q : Nat, s.heap.size ≤ q → A q := fun q h => by rw [← hAe]; exact Or.inr h
  have hS : va_S A s.heap s.heap [] := va_S.rf
  have hP : va_P D vwCl [(h0, rf0)] s.heap := hP
  have hl := lv_entry ([.ref h0]) (n := 1) (Nat.le_of_ble_eq_true rfl)
  rw [lg_entry_eq]
  generalize (lg_sl ([.ref h0]) ++ List.replicate (1 - (lg_sl ([.ref h0])).length) Slot.unset).toArray = ls at hl ⊢
  have hl : lv_has ls 1 [(0, .ref h0)] := hl
  refine lv_aload_n hx hb dX4_init_0 rfl (lv_at hl 0 rfl) ?_
  refine W.objInit hx hb hown (hts (.methodLink RX4 1 objectInit) (bw (tm3 172 rfl) rfl)) (hts (.instanceMethod objectInit) (bw (tm1 19 rfl) rfl)) (hts (.code objectInit ⟨#[0xb1]⟩ 1 none) (bw (tm1 20 rfl) rfl)) rfl (by rw [hml]; exact hl.1) rfl dX4_init_1 (Nat.le_of_ble_eq_true rfl) (Nat.le_of_ble_eq_true rfl) ?_
  refine W.eq (g2 := F0 m 4 ls []) rfl ?_
  refine lv_aload_n hx hb dX4_init_4 rfl (lv_at hl 0 rfl) ?_
  refine lv_bipush (v := 47) hx hb dX4_init_5 (by decide) ?_
  refine va_newa (atype := .int) (ty := .int) (a0 := (47, .inl (fun _ => 0))) hx hb (hts (.arrayClass .int) (bw (tm1 106 rfl) rfl)) rfl hK hP hD hS hA (fun _ => rfl) (by decide) (N' := 47) (by decide) (by decide) (Nat.le_of_ble_eq_true rfl) (Nat.le_of_ble_eq_true rfl) dX4_init_7 (fun q0 cI H hK hP hD hS => ?_)
  have hK : va_K D vwCl [(cI, .int)] s := hK
  have hP : va_P D vwCl [(h0, .inr (4, [.null, .null, .null, .null, .int 0, .null, .null, .null, .int 0, .int 0, .int 0, .int 0, .int 0, .null, .int 0])), (q0, eI cI 47 (fun _ => 0))] H := hP
  have hD : va_D A [(h0, .inr (4, [.null, .null, .null, .null, .int 0, .null, .null, .null, .int 0, .int 0, .int 0, .int 0, .int 0, .null, .int 0])), (q0, eI cI 47 (fun _ => 0))] := hD
  refine va_putF (ci := 4) (v := .ref q0) (ty := .array .int) (C := RX4) (T := TX4) (N := 15) hx hb hts (inTT (ci := 4) (by omega)) tyX4 tyX4_ok nmX4 hown hK hP hD hS 0 rfl rfl 0 (by decide) (hts (.fieldLink RX4 9 "TheAngelsWantMoreModel" "s" "[I") (bw (tm3 173 rfl) rfl)) (fun _ h9 => h9) rfl hin rfl (by decide +kernel) rfl rfl (Nat.le_of_ble_eq_true rfl) dX4_init_9 (fun H locs hP hD hS => ?_)
  have hP : va_P D vwCl [(h0, .inr (4, [.ref q0, .null, .null, .null, .int 0, .null, .null, .null, .int 0, .int 0, .int 0, .int 0, .int 0, .null, .int 0])), (q0, eI cI 47 (fun _ => 0))] H := hP
  have hD : va_D A [(h0, .inr (4, [.ref q0, .null, .null, .null, .int 0, .null, .null, .null, .int 0, .int 0, .int 0, .int 0, .int 0, .null, .int 0])), (q0, eI cI 47 (fun _ => 0))] := hD
  refine lv_aload_n hx hb dX4_init_12 rfl (lv_at hl 0 rfl) ?_
  refine lv_bipush (v := 47) hx hb dX4_init_13 (by decide) ?_
  refine va_newa (atype := .int) (ty := .int) (a0 := (47, .inl (fun _ => 0))) hx hb (hts (.arrayClass .int) (bw (tm1 106 rfl) rfl)) rfl hK hP hD hS hA (fun _ => rfl) (by decide) (N' := 47) (by decide) (by decide) (Nat.le_of_ble_eq_true rfl) (Nat.le_of_ble_eq_true rfl) dX4_init_15 (fun q1 cJ H hK hP hD hS => ?_)
  have hK : va_K D vwCl [(cI, .int), (cJ, .int)] s := hK
  have hJ : cI = cJ := Option.some.inj ((hK.2 0 _ rfl).2.symm.trans (hK.2 1 _ rfl).2)
  subst hJ
  have hK : va_K D vwCl [(cI, .int)] s := hK.sub [0] rfl
  have hP : va_P D vwCl [(h0, .inr (4, [.ref q0, .null, .null, .null, .int 0, .null, .null, .null, .int 0, .int 0, .int 0, .int 0, .int 0, .null, .int 0])), (q0, eI cI 47 (fun _ => 0)), (q1, eI cI 47 (fun _ => 0))] H := hP
  have hD : va_D A [(h0, .inr (4, [.ref q0, .null, .null, .null, .int 0, .null, .null, .null, .int 0, .int 0, .int 0, .int 0, .int 0, .null, .int 0])), (q0, eI cI 47 (fun _ => 0)), (q1, eI cI 47 (fun _ => 0))] := hD
  refine va_putF (ci := 4) (v := .ref q1) (ty := .array .int) (C := RX4) (T := TX4) (N := 15) hx hb hts (inTT (ci := 4) (by omega)) tyX4 tyX4_ok nmX4 hown hK hP hD hS 0 rfl rfl 1 (by decide) (hts (.fieldLink RX4 13 "TheAngelsWantMoreModel" "m" "[I") (bw (tm3 174 rfl) rfl)) (fun _ h9 => h9) rfl hin rfl (by decide +kernel) rfl rfl (Nat.le_of_ble_eq_true rfl) dX4_init_17 (fun H locs hP hD hS => ?_)
  have hP : va_P D vwCl [(h0, .inr (4, [.ref q0, .ref q1, .null, .null, .int 0, .null, .null, .null, .int 0, .int 0, .int 0, .int 0, .int 0, .null, .int 0])), (q0, eI cI 47 (fun _ => 0)), (q1, eI cI 47 (fun _ => 0))] H := hP
  have hD : va_D A [(h0, .inr (4, [.ref q0, .ref q1, .null, .null, .int 0, .null, .null, .null, .int 0, .int 0, .int 0, .int 0, .int 0, .null, .int 0])), (q0, eI cI 47 (fun _ => 0)), (q1, eI cI 47 (fun _ => 0))] := hD
  refine lv_aload_n hx hb dX4_init_20 rfl (lv_at hl 0 rfl) ?_
  refine lv_bipush (v := 47) hx hb dX4_init_21 (by decide) ?_
  refine va_newa (atype := .int) (ty := .int) (a0 := (47, .inl (fun _ => 0))) hx hb (hts (.arrayClass .int) (bw (tm1 106 rfl) rfl)) rfl hK hP hD hS hA (fun _ => rfl) (by decide) (N' := 47) (by decide) (by decide) (Nat.le_of_ble_eq_true rfl) (Nat.le_of_ble_eq_true rfl) dX4_init_23 (fun q2 cJ H hK hP hD hS => ?_)
  have hK : va_K D vwCl [(cI, .int), (cJ, .int)] s := hK
  have hJ : cI = cJ := Option.some.inj ((hK.2 0 _ rfl).2.symm.trans (hK.2 1 _ rfl).2)
  subst hJ
  have hK : va_K D vwCl [(cI, .int)] s := hK.sub [0] rfl
  have hP : va_P D vwCl [(h0, .inr (4, [.ref q0, .ref q1, .null, .null, .int 0, .null, .null, .null, .int 0, .int 0, .int 0, .int 0, .int 0, .null, .int 0])), (q0, eI cI 47 (fun _ => 0)), (q1, eI cI 47 (fun _ => 0)), (q2, eI cI 47 (fun _ => 0))] H := hP
  have hD : va_D A [(h0, .inr (4, [.ref q0, .ref q1, .null, .null, .int 0, .null, .null, .null, .int 0, .int 0, .int 0, .int 0, .int 0, .null, .int 0])), (q0, eI cI 47 (fun _ => 0)), (q1, eI cI 47 (fun _ => 0)), (q2, eI cI 47 (fun _ => 0))] := hD
  refine va_putF (ci := 4) (v := .ref q2) (ty := .array .int) (C := RX4) (T := TX4) (N := 15) hx hb hts (inTT (ci := 4) (by omega)) tyX4 tyX4_ok nmX4 hown hK hP hD hS 0 rfl rfl 2 (by decide) (hts (.fieldLink RX4 16 "TheAngelsWantMoreModel" "image" "[I") (bw (tm3 175 rfl) rfl)) (fun _ h9 => h9) rfl hin rfl (by decide +kernel) rfl rfl (Nat.le_of_ble_eq_true rfl) dX4_init_25 (fun H locs hP hD hS => ?_)
  have hP : va_P D vwCl [(h0, .inr (4, [.ref q0, .ref q1, .ref q2, .null, .int 0, .null, .null, .null, .int 0, .int 0, .int 0, .int 0, .int 0, .null, .int 0])), (q0, eI cI 47 (fun _ => 0)), (q1, eI cI 47 (fun _ => 0)), (q2, eI cI 47 (fun _ => 0))] H := hP
  have hD : va_D A [(h0, .inr (4, [.ref q0, .ref q1, .ref q2, .null, .int 0, .null, .null, .null, .int 0, .int 0, .int 0, .int 0, .int 0, .null, .int 0])), (q0, eI cI 47 (fun _ => 0)), (q1, eI cI 47 (fun _ => 0)), (q2, eI cI 47 (fun _ => 0))] := hD
  refine lv_aload_n hx hb dX4_init_28 rfl (lv_at hl 0 rfl) ?_
  refine lv_bipush (v := 47) hx hb dX4_init_29 (by decide) ?_
  refine va_newa (atype := .int) (ty := .int) (a0 := (47, .inl (fun _ => 0))) hx hb (hts (.arrayClass .int) (bw (tm1 106 rfl) rfl)) rfl hK hP hD hS hA (fun _ => rfl) (by decide) (N' := 47) (by decide) (by decide) (Nat.le_of_ble_eq_true rfl) (Nat.le_of_ble_eq_true rfl) dX4_init_31 (fun q3 cJ H hK hP hD hS => ?_)
  have hK : va_K D vwCl [(cI, .int), (cJ, .int)] s := hK
  have hJ : cI = cJ := Option.some.inj ((hK.2 0 _ rfl).2.symm.trans (hK.2 1 _ rfl).2)
  subst hJ
  have hK : va_K D vwCl [(cI, .int)] s := hK.sub [0] rfl
  have hP : va_P D vwCl [(h0, .inr (4, [.ref q0, .ref q1, .ref q2, .null, .int 0, .null, .null, .null, .int 0, .int 0, .int 0, .int 0, .int 0, .null, .int 0])), (q0, eI cI 47 (fun _ => 0)), (q1, eI cI 47 (fun _ => 0)), (q2, eI cI 47 (fun _ => 0)), (q3, eI cI 47 (fun _ => 0))] H := hP
  have hD : va_D A [(h0, .inr (4, [.ref q0, .ref q1, .ref q2, .null, .int 0, .null, .null, .null, .int 0, .int 0, .int 0, .int 0, .int 0, .null, .int 0])), (q0, eI cI 47 (fun _ => 0)), (q1, eI cI 47 (fun _ => 0)), (q2, eI cI 47 (fun _ => 0)), (q3, eI cI 47 (fun _ => 0))] := hD
  refine va_putF (ci := 4) (v := .ref q3) (ty := .array .int) (C := RX4) (T := TX4) (N := 15) hx hb hts (inTT (ci := 4) (by omega)) tyX4 tyX4_ok nmX4 hown hK hP hD hS 0 rfl rfl 3 (by decide) (hts (.fieldLink RX4 19 "TheAngelsWantMoreModel" "was" "[I") (bw (tm3 176 rfl) rfl)) (fun _ h9 => h9) rfl hin rfl (by decide +kernel) rfl rfl (Nat.le_of_ble_eq_true rfl) dX4_init_33 (fun H locs hP hD hS => ?_)
  have hP : va_P D vwCl [(h0, .inr (4, [.ref q0, .ref q1, .ref q2, .ref q3, .int 0, .null, .null, .null, .int 0, .int 0, .int 0, .int 0, .int 0, .null, .int 0])), (q0, eI cI 47 (fun _ => 0)), (q1, eI cI 47 (fun _ => 0)), (q2, eI cI 47 (fun _ => 0)), (q3, eI cI 47 (fun _ => 0))] H := hP
  have hD : va_D A [(h0, .inr (4, [.ref q0, .ref q1, .ref q2, .ref q3, .int 0, .null, .null, .null, .int 0, .int 0, .int 0, .int 0, .int 0, .null, .int 0])), (q0, eI cI 47 (fun _ => 0)), (q1, eI cI 47 (fun _ => 0)), (q2, eI cI 47 (fun _ => 0)), (q3, eI cI 47 (fun _ => 0))] := hD
  refine lv_aload_n hx hb dX4_init_36 rfl (lv_at hl 0 rfl) ?_
  refine lv_bipush (v := 96) hx hb dX4_init_37 (by decide) ?_
  refine va_newa (atype := .int) (ty := .int) (a0 := (96, .inl (fun _ => 0))) hx hb (hts (.arrayClass .int) (bw (tm1 106 rfl) rfl)) rfl hK hP hD hS hA (fun _ => rfl) (by decide) (N' := 96) (by decide) (by decide) (Nat.le_of_ble_eq_true rfl) (Nat.le_of_ble_eq_true rfl) dX4_init_39 (fun q4 cJ H hK hP hD hS => ?_)
  have hK : va_K D vwCl [(cI, .int), (cJ, .int)] s := hK
  have hJ : cI = cJ := Option.some.inj ((hK.2 0 _ rfl).2.symm.trans (hK.2 1 _ rfl).2)
  subst hJ
  have hK : va_K D vwCl [(cI, .int)] s := hK.sub [0] rfl
  have hP : va_P D vwCl [(h0, .inr (4, [.ref q0, .ref q1, .ref q2, .ref q3, .int 0, .null, .null, .null, .int 0, .int 0, .int 0, .int 0, .int 0, .null, .int 0])), (q0, eI cI 47 (fun _ => 0)), (q1, eI cI 47 (fun _ => 0)), (q2, eI cI 47 (fun _ => 0)), (q3, eI cI 47 (fun _ => 0)), (q4, eI cI 96 (fun _ => 0))] H := hP
  have hD : va_D A [(h0, .inr (4, [.ref q0, .ref q1, .ref q2, .ref q3, .int 0, .null, .null, .null, .int 0, .int 0, .int 0, .int 0, .int 0, .null, .int 0])), (q0, eI cI 47 (fun _ => 0)), (q1, eI cI 47 (fun _ => 0)), (q2, eI cI 47 (fun _ => 0)), (q3, eI cI 47 (fun _ => 0)), (q4, eI cI 96 (fun _ => 0))] := hD
  refine va_putF (ci := 4) (v := .ref q4) (ty := .array .int) (C := RX4) (T := TX4) (N := 15) hx hb hts (inTT (ci := 4) (by omega)) tyX4 tyX4_ok nmX4 hown hK hP hD hS 0 rfl rfl 5 (by decide) (hts (.fieldLink RX4 22 "TheAngelsWantMoreModel" "letters" "[I") (bw (tm3 178 rfl) rfl)) (fun _ h9 => h9) rfl hin rfl (by decide +kernel) rfl rfl (Nat.le_of_ble_eq_true rfl) dX4_init_41 (fun H locs hP hD hS => ?_)
  have hP : va_P D vwCl [(h0, .inr (4, [.ref q0, .ref q1, .ref q2, .ref q3, .int 0, .ref q4, .null, .null, .int 0, .int 0, .int 0, .int 0, .int 0, .null, .int 0])), (q0, eI cI 47 (fun _ => 0)), (q1, eI cI 47 (fun _ => 0)), (q2, eI cI 47 (fun _ => 0)), (q3, eI cI 47 (fun _ => 0)), (q4, eI cI 96 (fun _ => 0))] H := hP
  have hD : va_D A [(h0, .inr (4, [.ref q0, .ref q1, .ref q2, .ref q3, .int 0, .ref q4, .null, .null, .int 0, .int 0, .int 0, .int 0, .int 0, .null, .int 0])), (q0, eI cI 47 (fun _ => 0)), (q1, eI cI 47 (fun _ => 0)), (q2, eI cI 47 (fun _ => 0)), (q3, eI cI 47 (fun _ => 0)), (q4, eI cI 96 (fun _ => 0))] := hD
  refine lv_aload_n hx hb dX4_init_44 rfl (lv_at hl 0 rfl) ?_
  refine lv_bipush (v := 12) hx hb dX4_init_45 (by decide) ?_
  refine va_newa (atype := .int) (ty := .int) (a0 := (12, .inl (fun _ => 0))) hx hb (hts (.arrayClass .int) (bw (tm1 106 rfl) rfl)) rfl hK hP hD hS hA (fun _ => rfl) (by decide) (N' := 12) (by decide) (by decide) (Nat.le_of_ble_eq_true rfl) (Nat.le_of_ble_eq_true rfl) dX4_init_47 (fun q5 cJ H hK hP hD hS => ?_)
  have hK : va_K D vwCl [(cI, .int), (cJ, .int)] s := hK
  have hJ : cI = cJ := Option.some.inj ((hK.2 0 _ rfl).2.symm.trans (hK.2 1 _ rfl).2)
  subst hJ
  have hK : va_K D vwCl [(cI, .int)] s := hK.sub [0] rfl
  have hP : va_P D vwCl [(h0, .inr (4, [.ref q0, .ref q1, .ref q2, .ref q3, .int 0, .ref q4, .null, .null, .int 0, .int 0, .int 0, .int 0, .int 0, .null, .int 0])), (q0, eI cI 47 (fun _ => 0)), (q1, eI cI 47 (fun _ => 0)), (q2, eI cI 47 (fun _ => 0)), (q3, eI cI 47 (fun _ => 0)), (q4, eI cI 96 (fun _ => 0)), (q5, eI cI 12 (fun _ => 0))] H := hP
  have hD : va_D A [(h0, .inr (4, [.ref q0, .ref q1, .ref q2, .ref q3, .int 0, .ref q4, .null, .null, .int 0, .int 0, .int 0, .int 0, .int 0, .null, .int 0])), (q0, eI cI 47 (fun _ => 0)), (q1, eI cI 47 (fun _ => 0)), (q2, eI cI 47 (fun _ => 0)), (q3, eI cI 47 (fun _ => 0)), (q4, eI cI 96 (fun _ => 0)), (q5, eI cI 12 (fun _ => 0))] := hD
  refine va_putF (ci := 4) (v := .ref q5) (ty := .array .int) (C := RX4) (T := TX4) (N := 15) hx hb hts (inTT (ci := 4) (by omega)) tyX4 tyX4_ok nmX4 hown hK hP hD hS 0 rfl rfl 6 (by decide) (hts (.fieldLink RX4 25 "TheAngelsWantMoreModel" "row" "[I") (bw (tm3 179 rfl) rfl)) (fun _ h9 => h9) rfl hin rfl (by decide +kernel) rfl rfl (Nat.le_of_ble_eq_true rfl) dX4_init_49 (fun H locs hP hD hS => ?_)
  have hP : va_P D vwCl [(h0, .inr (4, [.ref q0, .ref q1, .ref q2, .ref q3, .int 0, .ref q4, .ref q5, .null, .int 0, .int 0, .int 0, .int 0, .int 0, .null, .int 0])), (q0, eI cI 47 (fun _ => 0)), (q1, eI cI 47 (fun _ => 0)), (q2, eI cI 47 (fun _ => 0)), (q3, eI cI 47 (fun _ => 0)), (q4, eI cI 96 (fun _ => 0)), (q5, eI cI 12 (fun _ => 0))] H := hP
  have hD : va_D A [(h0, .inr (4, [.ref q0, .ref q1, .ref q2, .ref q3, .int 0, .ref q4, .ref q5, .null, .int 0, .int 0, .int 0, .int 0, .int 0, .null, .int 0])), (q0, eI cI 47 (fun _ => 0)), (q1, eI cI 47 (fun _ => 0)), (q2, eI cI 47 (fun _ => 0)), (q3, eI cI 47 (fun _ => 0)), (q4, eI cI 96 (fun _ => 0)), (q5, eI cI 12 (fun _ => 0))] := hD
  refine lv_aload_n hx hb dX4_init_52 rfl (lv_at hl 0 rfl) ?_
  refine lv_bipush (v := 7) hx hb dX4_init_53 (by decide) ?_
  refine va_newa (atype := .int) (ty := .int) (a0 := (7, .inl (fun _ => 0))) hx hb (hts (.arrayClass .int) (bw (tm1 106 rfl) rfl)) rfl hK hP hD hS hA (fun _ => rfl) (by decide) (N' := 7) (by decide) (by decide) (Nat.le_of_ble_eq_true rfl) (Nat.le_of_ble_eq_true rfl) dX4_init_55 (fun q6 cJ H hK hP hD hS => ?_)
  have hK : va_K D vwCl [(cI, .int), (cJ, .int)] s := hK
  have hJ : cI = cJ := Option.some.inj ((hK.2 0 _ rfl).2.symm.trans (hK.2 1 _ rfl).2)
  subst hJ
  have hK : va_K D vwCl [(cI, .int)] s := hK.sub [0] rfl
  have hP : va_P D vwCl [(h0, .inr (4, [.ref q0, .ref q1, .ref q2, .ref q3, .int 0, .ref q4, .ref q5, .null, .int 0, .int 0, .int 0, .int 0, .int 0, .null, .int 0])), (q0, eI cI 47 (fun _ => 0)), (q1, eI cI 47 (fun _ => 0)), (q2, eI cI 47 (fun _ => 0)), (q3, eI cI 47 (fun _ => 0)), (q4, eI cI 96 (fun _ => 0)), (q5, eI cI 12 (fun _ => 0)), (q6, eI cI 7 (fun _ => 0))] H := hP
  have hD : va_D A [(h0, .inr (4, [.ref q0, .ref q1, .ref q2, .ref q3, .int 0, .ref q4, .ref q5, .null, .int 0, .int 0, .int 0, .int 0, .int 0, .null, .int 0])), (q0, eI cI 47 (fun _ => 0)), (q1, eI cI 47 (fun _ => 0)), (q2, eI cI 47 (fun _ => 0)), (q3, eI cI 47 (fun _ => 0)), (q4, eI cI 96 (fun _ => 0)), (q5, eI cI 12 (fun _ => 0)), (q6, eI cI 7 (fun _ => 0))] := hD
  refine va_putF (ci := 4) (v := .ref q6) (ty := .array .int) (C := RX4) (T := TX4) (N := 15) hx hb hts (inTT (ci := 4) (by omega)) tyX4 tyX4_ok nmX4 hown hK hP hD hS 0 rfl rfl 7 (by decide) (hts (.fieldLink RX4 28 "TheAngelsWantMoreModel" "refused" "[I") (bw (tm3 180 rfl) rfl)) (fun _ h9 => h9) rfl hin rfl (by decide +kernel) rfl rfl (Nat.le_of_ble_eq_true rfl) dX4_init_57 (fun H locs hP hD hS => ?_)
  have hP : va_P D vwCl [(h0, .inr (4, [.ref q0, .ref q1, .ref q2, .ref q3, .int 0, .ref q4, .ref q5, .ref q6, .int 0, .int 0, .int 0, .int 0, .int 0, .null, .int 0])), (q0, eI cI 47 (fun _ => 0)), (q1, eI cI 47 (fun _ => 0)), (q2, eI cI 47 (fun _ => 0)), (q3, eI cI 47 (fun _ => 0)), (q4, eI cI 96 (fun _ => 0)), (q5, eI cI 12 (fun _ => 0)), (q6, eI cI 7 (fun _ => 0))] H := hP
  have hD : va_D A [(h0, .inr (4, [.ref q0, .ref q1, .ref q2, .ref q3, .int 0, .ref q4, .ref q5, .ref q6, .int 0, .int 0, .int 0, .int 0, .int 0, .null, .int 0])), (q0, eI cI 47 (fun _ => 0)), (q1, eI cI 47 (fun _ => 0)), (q2, eI cI 47 (fun _ => 0)), (q3, eI cI 47 (fun _ => 0)), (q4, eI cI 96 (fun _ => 0)), (q5, eI cI 12 (fun _ => 0)), (q6, eI cI 7 (fun _ => 0))] := hD
  refine lv_aload_n hx hb dX4_init_60 rfl (lv_at hl 0 rfl) ?_
  refine lv_iconst (v := 5) hx hb dX4_init_61 (by decide) ?_
  refine va_newa (atype := .int) (ty := .int) (a0 := (5, .inl (fun _ => 0))) hx hb (hts (.arrayClass .int) (bw (tm1 106 rfl) rfl)) rfl hK hP hD hS hA (fun _ => rfl) (by decide) (N' := 5) (by decide) (by decide) (Nat.le_of_ble_eq_true rfl) (Nat.le_of_ble_eq_true rfl) dX4_init_62 (fun q7 cJ H hK hP hD hS => ?_)
  have hK : va_K D vwCl [(cI, .int), (cJ, .int)] s := hK
  have hJ : cI = cJ := Option.some.inj ((hK.2 0 _ rfl).2.symm.trans (hK.2 1 _ rfl).2)
  subst hJ
  have hK : va_K D vwCl [(cI, .int)] s := hK.sub [0] rfl
  have hP : va_P D vwCl [(h0, .inr (4, [.ref q0, .ref q1, .ref q2, .ref q3, .int 0, .ref q4, .ref q5, .ref q6, .int 0, .int 0, .int 0, .int 0, .int 0, .null, .int 0])), (q0, eI cI 47 (fun _ => 0)), (q1, eI cI 47 (fun _ => 0)), (q2, eI cI 47 (fun _ => 0)), (q3, eI cI 47 (fun _ => 0)), (q4, eI cI 96 (fun _ => 0)), (q5, eI cI 12 (fun _ => 0)), (q6, eI cI 7 (fun _ => 0)), (q7, eI cI 5 (fun _ => 0))] H := hP
  have hD : va_D A [(h0, .inr (4, [.ref q0, .ref q1, .ref q2, .ref q3, .int 0, .ref q4, .ref q5, .ref q6, .int 0, .int 0, .int 0, .int 0, .int 0, .null, .int 0])), (q0, eI cI 47 (fun _ => 0)), (q1, eI cI 47 (fun _ => 0)), (q2, eI cI 47 (fun _ => 0)), (q3, eI cI 47 (fun _ => 0)), (q4, eI cI 96 (fun _ => 0)), (q5, eI cI 12 (fun _ => 0)), (q6, eI cI 7 (fun _ => 0)), (q7, eI cI 5 (fun _ => 0))] := hD
  refine va_putF (ci := 4) (v := .ref q7) (ty := .array .int) (C := RX4) (T := TX4) (N := 15) hx hb hts (inTT (ci := 4) (by omega)) tyX4 tyX4_ok nmX4 hown hK hP hD hS 0 rfl rfl 13 (by decide) (hts (.fieldLink RX4 31 "TheAngelsWantMoreModel" "numbers" "[I") (bw (tm3 186 rfl) rfl)) (fun _ h9 => h9) rfl hin rfl (by decide +kernel) rfl rfl (Nat.le_of_ble_eq_true rfl) dX4_init_64 (fun H locs hP hD hS => ?_)
  have hP : va_P D vwCl [(h0, .inr (4, [.ref q0, .ref q1, .ref q2, .ref q3, .int 0, .ref q4, .ref q5, .ref q6, .int 0, .int 0, .int 0, .int 0, .int 0, .ref q7, .int 0])), (q0, eI cI 47 (fun _ => 0)), (q1, eI cI 47 (fun _ => 0)), (q2, eI cI 47 (fun _ => 0)), (q3, eI cI 47 (fun _ => 0)), (q4, eI cI 96 (fun _ => 0)), (q5, eI cI 12 (fun _ => 0)), (q6, eI cI 7 (fun _ => 0)), (q7, eI cI 5 (fun _ => 0))] H := hP
  have hD : va_D A [(h0, .inr (4, [.ref q0, .ref q1, .ref q2, .ref q3, .int 0, .ref q4, .ref q5, .ref q6, .int 0, .int 0, .int 0, .int 0, .int 0, .ref q7, .int 0])), (q0, eI cI 47 (fun _ => 0)), (q1, eI cI 47 (fun _ => 0)), (q2, eI cI 47 (fun _ => 0)), (q3, eI cI 47 (fun _ => 0)), (q4, eI cI 96 (fun _ => 0)), (q5, eI cI 12 (fun _ => 0)), (q6, eI cI 7 (fun _ => 0)), (q7, eI cI 5 (fun _ => 0))] := hD
  refine lv_aload_n hx hb dX4_init_67 rfl (lv_at hl 0 rfl) ?_
  refine va_get (ci := 4) (v := .ref q0) (C := RX4) (T := TX4) (N := 15) hx hb hts (inTT (ci := 4) (by omega)) hown hK hP 0 rfl rfl 0 (by decide) (hts (.fieldLink RX4 9 "TheAngelsWantMoreModel" "s" "[I") (bw (tm3 173 rfl) rfl)) (fun _ h9 => h9) rfl dX4_init_68 ?_
  refine lv_iconst (v := 2) hx hb dX4_init_71 (by decide) ?_
  refine lv_bipush (v := 10) hx hb dX4_init_72 (by decide) ?_
  refine va_iast hx hb hK hP hD hS 1 0 rfl rfl (show vp_in (nI 2) 47 from vp_in_nI (by omega) (by omega)) dX4_init_74 (fun H locs hP hD hS => ?_)
  have hP : va_P D vwCl [(h0, .inr (4, [.ref q0, .ref q1, .ref q2, .ref q3, .int 0, .ref q4, .ref q5, .ref q6, .int 0, .int 0, .int 0, .int 0, .int 0, .ref q7, .int 0])), (q0, eI cI 47 (upd (fun _ => 0) (2 : Int32).toNatClampNeg 10)), (q1, eI cI 47 (fun _ => 0)), (q2, eI cI 47 (fun _ => 0)), (q3, eI cI 47 (fun _ => 0)), (q4, eI cI 96 (fun _ => 0)), (q5, eI cI 12 (fun _ => 0)), (q6, eI cI 7 (fun _ => 0)), (q7, eI cI 5 (fun _ => 0))] H := hP
  have hD : va_D A [(h0, .inr (4, [.ref q0, .ref q1, .ref q2, .ref q3, .int 0, .ref q4, .ref q5, .ref q6, .int 0, .int 0, .int 0, .int 0, .int 0, .ref q7, .int 0])), (q0, eI cI 47 (upd (fun _ => 0) (2 : Int32).toNatClampNeg 10)), (q1, eI cI 47 (fun _ => 0)), (q2, eI cI 47 (fun _ => 0)), (q3, eI cI 47 (fun _ => 0)), (q4, eI cI 96 (fun _ => 0)), (q5, eI cI 12 (fun _ => 0)), (q6, eI cI 7 (fun _ => 0)), (q7, eI cI 5 (fun _ => 0))] := hD
  refine lv_aload_n hx hb dX4_init_75 rfl (lv_at hl 0 rfl) ?_
  refine va_get (ci := 4) (v := .ref q0) (C := RX4) (T := TX4) (N := 15) hx hb hts (inTT (ci := 4) (by omega)) hown hK hP 0 rfl rfl 0 (by decide) (hts (.fieldLink RX4 9 "TheAngelsWantMoreModel" "s" "[I") (bw (tm3 173 rfl) rfl)) (fun _ h9 => h9) rfl dX4_init_76 ?_
  refine lv_iconst (v := 3) hx hb dX4_init_79 (by decide) ?_
  refine lv_iconst (v := 4) hx hb dX4_init_80 (by decide) ?_
  refine va_iast hx hb hK hP hD hS 1 0 rfl rfl (show vp_in (nI 3) 47 from vp_in_nI (by omega) (by omega)) dX4_init_81 (fun H locs hP hD hS => ?_)
  have hP : va_P D vwCl [(h0, .inr (4, [.ref q0, .ref q1, .ref q2, .ref q3, .int 0, .ref q4, .ref q5, .ref q6, .int 0, .int 0, .int 0, .int 0, .int 0, .ref q7, .int 0])), (q0, eI cI 47 (upd (upd (fun _ => 0) (2 : Int32).toNatClampNeg 10) (3 : Int32).toNatClampNeg 4)), (q1, eI cI 47 (fun _ => 0)), (q2, eI cI 47 (fun _ => 0)), (q3, eI cI 47 (fun _ => 0)), (q4, eI cI 96 (fun _ => 0)), (q5, eI cI 12 (fun _ => 0)), (q6, eI cI 7 (fun _ => 0)), (q7, eI cI 5 (fun _ => 0))] H := hP
  have hD : va_D A [(h0, .inr (4, [.ref q0, .ref q1, .ref q2, .ref q3, .int 0, .ref q4, .ref q5, .ref q6, .int 0, .int 0, .int 0, .int 0, .int 0, .ref q7, .int 0])), (q0, eI cI 47 (upd (upd (fun _ => 0) (2 : Int32).toNatClampNeg 10) (3 : Int32).toNatClampNeg 4)), (q1, eI cI 47 (fun _ => 0)), (q2, eI cI 47 (fun _ => 0)), (q3, eI cI 47 (fun _ => 0)), (q4, eI cI 96 (fun _ => 0)), (q5, eI cI 12 (fun _ => 0)), (q6, eI cI 7 (fun _ => 0)), (q7, eI cI 5 (fun _ => 0))] := hD
  refine lv_aload_n hx hb dX4_init_82 rfl (lv_at hl 0 rfl) ?_
  refine va_get (ci := 4) (v := .ref q0) (C := RX4) (T := TX4) (N := 15) hx hb hts (inTT (ci := 4) (by omega)) hown hK hP 0 rfl rfl 0 (by decide) (hts (.fieldLink RX4 9 "TheAngelsWantMoreModel" "s" "[I") (bw (tm3 173 rfl) rfl)) (fun _ h9 => h9) rfl dX4_init_83 ?_
  refine lv_iconst (v := 4) hx hb dX4_init_86 (by decide) ?_
  refine lv_iconst (v := 2) hx hb dX4_init_87 (by decide) ?_
  refine va_iast hx hb hK hP hD hS 1 0 rfl rfl (show vp_in (nI 4) 47 from vp_in_nI (by omega) (by omega)) dX4_init_88 (fun H locs hP hD hS => ?_)
  have hP : va_P D vwCl [(h0, .inr (4, [.ref q0, .ref q1, .ref q2, .ref q3, .int 0, .ref q4, .ref q5, .ref q6, .int 0, .int 0, .int 0, .int 0, .int 0, .ref q7, .int 0])), (q0, eI cI 47 (upd (upd (upd (fun _ => 0) (2 : Int32).toNatClampNeg 10) (3 : Int32).toNatClampNeg 4) (4 : Int32).toNatClampNeg 2)), (q1, eI cI 47 (fun _ => 0)), (q2, eI cI 47 (fun _ => 0)), (q3, eI cI 47 (fun _ => 0)), (q4, eI cI 96 (fun _ => 0)), (q5, eI cI 12 (fun _ => 0)), (q6, eI cI 7 (fun _ => 0)), (q7, eI cI 5 (fun _ => 0))] H := hP
  have hD : va_D A [(h0, .inr (4, [.ref q0, .ref q1, .ref q2, .ref q3, .int 0, .ref q4, .ref q5, .ref q6, .int 0, .int 0, .int 0, .int 0, .int 0, .ref q7, .int 0])), (q0, eI cI 47 (upd (upd (upd (fun _ => 0) (2 : Int32).toNatClampNeg 10) (3 : Int32).toNatClampNeg 4) (4 : Int32).toNatClampNeg 2)), (q1, eI cI 47 (fun _ => 0)), (q2, eI cI 47 (fun _ => 0)), (q3, eI cI 47 (fun _ => 0)), (q4, eI cI 96 (fun _ => 0)), (q5, eI cI 12 (fun _ => 0)), (q6, eI cI 7 (fun _ => 0)), (q7, eI cI 5 (fun _ => 0))] := hD
  rw [up_S0] at hP hD
  exact W.vret hx hb hr (fun t ht hW => ⟨⟨(cI, fun n => [q0, q1, q2, q3, q4, q5, q6, q7].getD n 0), rfl, trivial, by rw [ht]; exact hP, va_K.moved hW.alike hK, hD⟩, hS.F ht⟩) hS.2.2 dX4_init_89
