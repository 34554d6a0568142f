def X4_byTreaty (_o : Nat) (a1 : Int32) (a2 : Int32) (a3 : Int32) (a4 : Int32) (mem : Mm) : Option (Int32 × Mm) := ob (X4_lays 36 37 mem) (fun m1 => if a2 = 0 then (nm (mset m1 37 3 2) (fun m3 => if a3 = 0 then (nm (mset m3 37 2 (m3 36 2)) (fun m5 => ob (X4_yearsOn 35 37 a1 m5) (fun m6 => ob (X4_sumOf 37 a4 m6) (fun y7 => some (y7, m6))))) else (nm (mset m3 37 2 ((m3 36 2) / 2)) (fun m8 => ob (X4_yearsOn 35 37 a1 m8) (fun m9 => ob (X4_sumOf 37 a4 m9) (fun y10 => some (y10, m9))))))) else (nm (mset m1 37 3 8) (fun m11 => if a3 = 0 then (nm (mset m11 37 2 (m11 36 2)) (fun m13 => ob (X4_yearsOn 35 37 a1 m13) (fun m14 => ob (X4_sumOf 37 a4 m14) (fun y15 => some (y15, m14))))) else (nm (mset m11 37 2 ((m11 36 2) / 2)) (fun m16 => ob (X4_yearsOn 35 37 a1 m16) (fun m17 => ob (X4_sumOf 37 a4 m17) (fun y18 => some (y18, m17))))))))
set_option maxRecDepth 100000 in
set_option maxHeartbeats 8000000 in
theorem X4_byTreaty_ca {S : Sc} {d : Nat} {a1 : Int32} {a2 : Int32} {a3 : Int32} {a4 : Int32} {mem : Mm} {rr : Int32} {mr : Mm} {Q : Po}  (h : X4_byTreaty 35 a1 a2 a3 a4 mem = some (rr, mr)) (q : Q (some (.int rr)) mr) : Ca S (d + 6) 162 [.ref 35, .int a1, .int a2, .int a3, .int a4] mem Q := by
  unfold X4_byTreaty at h
  refine ca_in (by decide) mt_X4_byTreaty (Nat.le_of_ble_eq_true rfl) ?_
  show Ev S (d + 5) 4 cX4_byTreaty (some .int) 0 [some (.ref 35), some (.int a1), some (.int a2), some (.int a3), some (.int a4)] [] mem Q
  refine ev_aload_n dX4_byTreaty_0 (pc' := 1) rfl rfl ?_
  refine ev_getR (y := 36) dX4_byTreaty_1 (pc' := 4) rfl fq_4_9 kn_35 rfl ?_
  refine ev_aload_n dX4_byTreaty_4 (pc' := 5) rfl rfl ?_
  refine ev_getR (y := 37) dX4_byTreaty_5 (pc' := 8) rfl fq_4_13 kn_35 rfl ?_
  obtain ⟨m1, x_m1, h⟩ := ob_of h
  refine ev_invS dX4_byTreaty_8 (pc' := 11) rfl sq_4_78 mt_X4_lays rfl ⟨_, rfl, Nat.le_of_ble_eq_true rfl, Nat.le_of_ble_eq_true rfl, rfl, rfl⟩ ?_
  refine X4_lays_ca kn_36 rfl kn_37 rfl x_m1 ?_
  refine ev_r0 ?_
  refine ev_aload_n dX4_byTreaty_11 (pc' := 12) rfl rfl ?_
  refine ev_getR (y := 37) dX4_byTreaty_12 (pc' := 15) rfl fq_4_13 kn_35 rfl ?_
  refine ev_iconst dX4_byTreaty_15 (pc' := 16) (v := 3) rfl (by decide) ?_
  refine ev_iload_n dX4_byTreaty_16 (pc' := 17) rfl rfl ?_
  refine ev_if_ne dX4_byTreaty_17 (pc' := 20) rfl (t := 24) rfl (fun c2 => ?_) (fun c2 => ?_)
  · replace h := it_f c2 h
    refine ev_bipush dX4_byTreaty_24 (pc' := 26) (v := 8) rfl (by decide) ?_
    refine ev_iastK (k0 := 3) dX4_byTreaty_26 (pc' := 27) rfl kn_37 (by decide) rfl ?_
    refine ev_topm (fun m11 e_m11 => ?_)
    replace h := nm_at e_m11 h
    refine ev_aload_n dX4_byTreaty_27 (pc' := 28) rfl rfl ?_
    refine ev_getR (y := 37) dX4_byTreaty_28 (pc' := 31) rfl fq_4_13 kn_35 rfl ?_
    refine ev_iconst dX4_byTreaty_31 (pc' := 32) (v := 2) rfl (by decide) ?_
    refine ev_iload_n dX4_byTreaty_32 (pc' := 33) rfl rfl ?_
    refine ev_if_ne dX4_byTreaty_33 (pc' := 36) rfl (t := 45) rfl (fun c12 => ?_) (fun c12 => ?_)
    · replace h := it_f c12 h
      refine ev_aload_n dX4_byTreaty_45 (pc' := 46) rfl rfl ?_
      refine ev_getR (y := 36) dX4_byTreaty_46 (pc' := 49) rfl fq_4_9 kn_35 rfl ?_
      refine ev_iconst dX4_byTreaty_49 (pc' := 50) (v := 2) rfl (by decide) ?_
      refine ev_ialdK (k0 := 2) dX4_byTreaty_50 (pc' := 51) rfl kn_36 (by decide) rfl ?_
      refine ev_iconst dX4_byTreaty_51 (pc' := 52) (v := 2) rfl (by decide) ?_
      refine ev_idiv dX4_byTreaty_52 (pc' := 53) rfl (by decide) ?_
      refine ev_iastK (k0 := 2) dX4_byTreaty_53 (pc' := 54) rfl kn_37 (by decide) rfl ?_
      refine ev_topm (fun m16 e_m16 => ?_)
      replace h := nm_at e_m16 h
      refine ev_aload_n dX4_byTreaty_54 (pc' := 55) rfl rfl ?_
      refine ev_aload_n dX4_byTreaty_55 (pc' := 56) rfl rfl ?_
      refine ev_getR (y := 37) dX4_byTreaty_56 (pc' := 59) rfl fq_4_13 kn_35 rfl ?_
      refine ev_iload_n dX4_byTreaty_59 (pc' := 60) rfl rfl ?_
      obtain ⟨m17, x_m17, h⟩ := ob_of h
      refine ev_invV dX4_byTreaty_60 (pc' := 63) rfl sq_4_82 mt_X4_yearsOn rfl (arecv_ob (x := 35) rfl rfl (by decide) kn_35) ⟨_, rfl, Nat.le_of_ble_eq_true rfl, Nat.le_of_ble_eq_true rfl, rfl, rfl⟩ ?_
      refine X4_yearsOn_ca kn_37 rfl x_m17 ?_
      refine ev_r0 ?_
      refine ev_aload_n dX4_byTreaty_63 (pc' := 64) rfl rfl ?_
      refine ev_getR (y := 37) dX4_byTreaty_64 (pc' := 67) rfl fq_4_13 kn_35 rfl ?_
      refine ev_iload dX4_byTreaty_67 (pc' := 69) rfl rfl ?_
      obtain ⟨y18, x_y18, h⟩ := ob_of h
      refine ev_invS dX4_byTreaty_69 (pc' := 72) rfl sq_4_135 mt_X4_sumOf rfl ⟨_, rfl, Nat.le_of_ble_eq_true rfl, Nat.le_of_ble_eq_true rfl, rfl, rfl⟩ ?_
      refine X4_sumOf_ca kn_37 rfl x_y18 ?_
      refine ev_r1 ?_
      obtain ⟨rfl, rfl⟩ := rt2 h
      exact ev_ireturn dX4_byTreaty_72 rfl q
    · replace h := it_t c12 h
      refine ev_aload_n dX4_byTreaty_36 (pc' := 37) rfl rfl ?_
      refine ev_getR (y := 36) dX4_byTreaty_37 (pc' := 40) rfl fq_4_9 kn_35 rfl ?_
      refine ev_iconst dX4_byTreaty_40 (pc' := 41) (v := 2) rfl (by decide) ?_
      refine ev_ialdK (k0 := 2) dX4_byTreaty_41 (pc' := 42) rfl kn_36 (by decide) rfl ?_
      refine ev_goto dX4_byTreaty_42 (t := 53) rfl ?_
      refine ev_iastK (k0 := 2) dX4_byTreaty_53 (pc' := 54) rfl kn_37 (by decide) rfl ?_
      refine ev_topm (fun m13 e_m13 => ?_)
      replace h := nm_at e_m13 h
      refine ev_aload_n dX4_byTreaty_54 (pc' := 55) rfl rfl ?_
      refine ev_aload_n dX4_byTreaty_55 (pc' := 56) rfl rfl ?_
      refine ev_getR (y := 37) dX4_byTreaty_56 (pc' := 59) rfl fq_4_13 kn_35 rfl ?_
      refine ev_iload_n dX4_byTreaty_59 (pc' := 60) rfl rfl ?_
      obtain ⟨m14, x_m14, h⟩ := ob_of h
      refine ev_invV dX4_byTreaty_60 (pc' := 63) rfl sq_4_82 mt_X4_yearsOn rfl (arecv_ob (x := 35) rfl rfl (by decide) kn_35) ⟨_, rfl, Nat.le_of_ble_eq_true rfl, Nat.le_of_ble_eq_true rfl, rfl, rfl⟩ ?_
      refine X4_yearsOn_ca kn_37 rfl x_m14 ?_
      refine ev_r0 ?_
      refine ev_aload_n dX4_byTreaty_63 (pc' := 64) rfl rfl ?_
      refine ev_getR (y := 37) dX4_byTreaty_64 (pc' := 67) rfl fq_4_13 kn_35 rfl ?_
      refine ev_iload dX4_byTreaty_67 (pc' := 69) rfl rfl ?_
      obtain ⟨y15, x_y15, h⟩ := ob_of h
      refine ev_invS dX4_byTreaty_69 (pc' := 72) rfl sq_4_135 mt_X4_sumOf rfl ⟨_, rfl, Nat.le_of_ble_eq_true rfl, Nat.le_of_ble_eq_true rfl, rfl, rfl⟩ ?_
      refine X4_sumOf_ca kn_37 rfl x_y15 ?_
      refine ev_r1 ?_
      obtain ⟨rfl, rfl⟩ := rt2 h
      exact ev_ireturn dX4_byTreaty_72 rfl q
  · replace h := it_t c2 h
    refine ev_iconst dX4_byTreaty_20 (pc' := 21) (v := 2) rfl (by decide) ?_
    refine ev_goto dX4_byTreaty_21 (t := 26) rfl ?_
    refine ev_iastK (k0 := 3) dX4_byTreaty_26 (pc' := 27) rfl kn_37 (by decide) rfl ?_
    refine ev_topm (fun m3 e_m3 => ?_)
    replace h := nm_at e_m3 h
    refine ev_aload_n dX4_byTreaty_27 (pc' := 28) rfl rfl ?_
    refine ev_getR (y := 37) dX4_byTreaty_28 (pc' := 31) rfl fq_4_13 kn_35 rfl ?_
    refine ev_iconst dX4_byTreaty_31 (pc' := 32) (v := 2) rfl (by decide) ?_
    refine ev_iload_n dX4_byTreaty_32 (pc' := 33) rfl rfl ?_
    refine ev_if_ne dX4_byTreaty_33 (pc' := 36) rfl (t := 45) rfl (fun c4 => ?_) (fun c4 => ?_)
    · replace h := it_f c4 h
      refine ev_aload_n dX4_byTreaty_45 (pc' := 46) rfl rfl ?_
      refine ev_getR (y := 36) dX4_byTreaty_46 (pc' := 49) rfl fq_4_9 kn_35 rfl ?_
      refine ev_iconst dX4_byTreaty_49 (pc' := 50) (v := 2) rfl (by decide) ?_
      refine ev_ialdK (k0 := 2) dX4_byTreaty_50 (pc' := 51) rfl kn_36 (by decide) rfl ?_
      refine ev_iconst dX4_byTreaty_51 (pc' := 52) (v := 2) rfl (by decide) ?_
      refine ev_idiv dX4_byTreaty_52 (pc' := 53) rfl (by decide) ?_
      refine ev_iastK (k0 := 2) dX4_byTreaty_53 (pc' := 54) rfl kn_37 (by decide) rfl ?_
      refine ev_topm (fun m8 e_m8 => ?_)
      replace h := nm_at e_m8 h
      refine ev_aload_n dX4_byTreaty_54 (pc' := 55) rfl rfl ?_
      refine ev_aload_n dX4_byTreaty_55 (pc' := 56) rfl rfl ?_
      refine ev_getR (y := 37) dX4_byTreaty_56 (pc' := 59) rfl fq_4_13 kn_35 rfl ?_
      refine ev_iload_n dX4_byTreaty_59 (pc' := 60) rfl rfl ?_
      obtain ⟨m9, x_m9, h⟩ := ob_of h
      refine ev_invV dX4_byTreaty_60 (pc' := 63) rfl sq_4_82 mt_X4_yearsOn rfl (arecv_ob (x := 35) rfl rfl (by decide) kn_35) ⟨_, rfl, Nat.le_of_ble_eq_true rfl, Nat.le_of_ble_eq_true rfl, rfl, rfl⟩ ?_
      refine X4_yearsOn_ca kn_37 rfl x_m9 ?_
      refine ev_r0 ?_
      refine ev_aload_n dX4_byTreaty_63 (pc' := 64) rfl rfl ?_
      refine ev_getR (y := 37) dX4_byTreaty_64 (pc' := 67) rfl fq_4_13 kn_35 rfl ?_
      refine ev_iload dX4_byTreaty_67 (pc' := 69) rfl rfl ?_
      obtain ⟨y10, x_y10, h⟩ := ob_of h
      refine ev_invS dX4_byTreaty_69 (pc' := 72) rfl sq_4_135 mt_X4_sumOf rfl ⟨_, rfl, Nat.le_of_ble_eq_true rfl, Nat.le_of_ble_eq_true rfl, rfl, rfl⟩ ?_
      refine X4_sumOf_ca kn_37 rfl x_y10 ?_
      refine ev_r1 ?_
      obtain ⟨rfl, rfl⟩ := rt2 h
      exact ev_ireturn dX4_byTreaty_72 rfl q
    · replace h := it_t c4 h
      refine ev_aload_n dX4_byTreaty_36 (pc' := 37) rfl rfl ?_
      refine ev_getR (y := 36) dX4_byTreaty_37 (pc' := 40) rfl fq_4_9 kn_35 rfl ?_
      refine ev_iconst dX4_byTreaty_40 (pc' := 41) (v := 2) rfl (by decide) ?_
      refine ev_ialdK (k0 := 2) dX4_byTreaty_41 (pc' := 42) rfl kn_36 (by decide) rfl ?_
      refine ev_goto dX4_byTreaty_42 (t := 53) rfl ?_
      refine ev_iastK (k0 := 2) dX4_byTreaty_53 (pc' := 54) rfl kn_37 (by decide) rfl ?_
      refine ev_topm (fun m5 e_m5 => ?_)
      replace h := nm_at e_m5 h
      refine ev_aload_n dX4_byTreaty_54 (pc' := 55) rfl rfl ?_
      refine ev_aload_n dX4_byTreaty_55 (pc' := 56) rfl rfl ?_
      refine ev_getR (y := 37) dX4_byTreaty_56 (pc' := 59) rfl fq_4_13 kn_35 rfl ?_
      refine ev_iload_n dX4_byTreaty_59 (pc' := 60) rfl rfl ?_
      obtain ⟨m6, x_m6, h⟩ := ob_of h
      refine ev_invV dX4_byTreaty_60 (pc' := 63) rfl sq_4_82 mt_X4_yearsOn rfl (arecv_ob (x := 35) rfl rfl (by decide) kn_35) ⟨_, rfl, Nat.le_of_ble_eq_true rfl, Nat.le_of_ble_eq_true rfl, rfl, rfl⟩ ?_
      refine X4_yearsOn_ca kn_37 rfl x_m6 ?_
      refine ev_r0 ?_
      refine ev_aload_n dX4_byTreaty_63 (pc' := 64) rfl rfl ?_
      refine ev_getR (y := 37) dX4_byTreaty_64 (pc' := 67) rfl fq_4_13 kn_35 rfl ?_
      refine ev_iload dX4_byTreaty_67 (pc' := 69) rfl rfl ?_
      obtain ⟨y7, x_y7, h⟩ := ob_of h
      refine ev_invS dX4_byTreaty_69 (pc' := 72) rfl sq_4_135 mt_X4_sumOf rfl ⟨_, rfl, Nat.le_of_ble_eq_true rfl, Nat.le_of_ble_eq_true rfl, rfl, rfl⟩ ?_
      refine X4_sumOf_ca kn_37 rfl x_y7 ?_
      refine ev_r1 ?_
      obtain ⟨rfl, rfl⟩ := rt2 h
      exact ev_ireturn dX4_byTreaty_72 rfl q
def X4_treaty_L17  (a3 : Int32) : Nat → Int32 → Mm → Option (Int32 × Mm)
  | 0, _, _ => none
  | n + 1, w4, m5 => if 4 ≤ w4 then (some ((-9), m5)) else (nm (w4 / 2) (fun v7 => nm (airem w4 2) (fun v8 => ob2 (X4_byTreaty 35 a3 v7 v8 2 m5) (fun y9 m10 => ob2 (X4_byTreaty 35 a3 (1 - v7) v8 2 m10) (fun y11 m12 => if y9 < y11 then (nm (w4 + 1) (fun v14 => X4_treaty_L17 a3 n v14 m12)) else (ob2 (X4_byTreaty 35 a3 v7 v8 5 m12) (fun y15 m16 => ob2 (X4_byTreaty 35 a3 v7 (1 - v8) 5 m16) (fun y17 m18 => if y15 < y17 then (nm (w4 + 1) (fun v20 => X4_treaty_L17 a3 n v20 m18)) else (some (((10 * v7) + v8), m18))))))))))
def X4_treaty (_o : Nat) (a1 : Int32) (mem : Mm) : Option (Int32 × Mm) := nm (X4_wrongYears a1) (fun v1 => if v1 = 0 then (X4_treaty_L17 a1 LF 0 mem) else (ob2 (X4_no 35 v1 mem) (fun y21 m22 => some (y21, m22))))
set_option maxRecDepth 100000 in
set_option maxHeartbeats 8000000 in
theorem X4_treaty_L17_ev {S : Sc} {d : Nat}  {a3 : Int32} {rr : Int32} {mr : Mm} {Q : Po}  (q : Q (some (.int rr)) mr) : ∀ (n : Nat) (w4 : Int32) (m5 : Mm), X4_treaty_L17 a3 n w4 m5 = some (rr, mr) → Ev S (d + 6) 4 cX4_treaty (some .int) 17 [some (.ref 35), some (.int a3), none, some (.int w4), none, none, none] [] m5 Q := by
  intro n
  induction n with
  | zero => intro w4 m5 h; cases h
  | succ n ih =>
    intro w4 m5 h
    unfold X4_treaty_L17 at h
    refine ev_iload_n dX4_treaty_17 (pc' := 18) rfl rfl ?_
    refine ev_iconst dX4_treaty_18 (pc' := 19) (v := 4) rfl (by decide) ?_
    refine ev_icmp_ge dX4_treaty_19 (pc' := 22) rfl (t := 109) rfl (fun c6 => ?_) (fun c6 => ?_)
    · replace h := it_t c6 h
      refine ev_bipush dX4_treaty_109 (pc' := 111) (v := (-9)) rfl (by decide) ?_
      obtain ⟨rfl, rfl⟩ := rt2 h
      exact ev_ireturn dX4_treaty_111 rfl q
    · replace h := it_f c6 h
      refine ev_iload_n dX4_treaty_22 (pc' := 23) rfl rfl ?_
      refine ev_iconst dX4_treaty_23 (pc' := 24) (v := 2) rfl (by decide) ?_
      refine ev_idiv dX4_treaty_24 (pc' := 25) rfl (by decide) ?_
      refine ev_topi (fun v7 e_v7 => ?_)
      replace h := nm_at e_v7 h
      refine ev_istore dX4_treaty_25 (pc' := 27) (ls' := [some (.ref 35), some (.int a3), none, some (.int w4), some (.int v7), none, none]) rfl (Nat.le_of_ble_eq_true rfl) rfl ?_
      refine ev_iload_n dX4_treaty_27 (pc' := 28) rfl rfl ?_
      refine ev_iconst dX4_treaty_28 (pc' := 29) (v := 2) rfl (by decide) ?_
      refine ev_irem dX4_treaty_29 (pc' := 30) rfl (by decide) ?_
      refine ev_topi (fun v8 e_v8 => ?_)
      replace h := nm_at e_v8 h
      refine ev_istore dX4_treaty_30 (pc' := 32) (ls' := [some (.ref 35), some (.int a3), none, some (.int w4), some (.int v7), some (.int v8), none]) rfl (Nat.le_of_ble_eq_true rfl) rfl ?_
      refine ev_aload_n dX4_treaty_32 (pc' := 33) rfl rfl ?_
      refine ev_iload_n dX4_treaty_33 (pc' := 34) rfl rfl ?_
      refine ev_iload dX4_treaty_34 (pc' := 36) rfl rfl ?_
      refine ev_iload dX4_treaty_36 (pc' := 38) rfl rfl ?_
      refine ev_iconst dX4_treaty_38 (pc' := 39) (v := 2) rfl (by decide) ?_
      obtain ⟨y9, m10, x_y9, h⟩ := ob2_of h
      refine ev_invV dX4_treaty_39 (pc' := 42) rfl sq_4_164 mt_X4_byTreaty rfl (arecv_ob (x := 35) rfl rfl (by decide) kn_35) ⟨_, rfl, Nat.le_of_ble_eq_true rfl, Nat.le_of_ble_eq_true rfl, rfl, rfl⟩ ?_
      refine X4_byTreaty_ca  x_y9 ?_
      refine ev_r1 ?_
      refine ev_aload_n dX4_treaty_42 (pc' := 43) rfl rfl ?_
      refine ev_iload_n dX4_treaty_43 (pc' := 44) rfl rfl ?_
      refine ev_iconst dX4_treaty_44 (pc' := 45) (v := 1) rfl (by decide) ?_
      refine ev_iload dX4_treaty_45 (pc' := 47) rfl rfl ?_
      refine ev_isub dX4_treaty_47 (pc' := 48) rfl ?_
      refine ev_iload dX4_treaty_48 (pc' := 50) rfl rfl ?_
      refine ev_iconst dX4_treaty_50 (pc' := 51) (v := 2) rfl (by decide) ?_
      obtain ⟨y11, m12, x_y11, h⟩ := ob2_of h
      refine ev_invV dX4_treaty_51 (pc' := 54) rfl sq_4_164 mt_X4_byTreaty rfl (arecv_ob (x := 35) rfl rfl (by decide) kn_35) ⟨_, rfl, Nat.le_of_ble_eq_true rfl, Nat.le_of_ble_eq_true rfl, rfl, rfl⟩ ?_
      refine X4_byTreaty_ca  x_y11 ?_
      refine ev_r1 ?_
      refine ev_icmp_lt dX4_treaty_54 (pc' := 57) rfl (t := 61) rfl (fun c13 => ?_) (fun c13 => ?_)
      · replace h := it_t c13 h
        refine ev_iconst dX4_treaty_61 (pc' := 62) (v := 0) rfl (by decide) ?_
        refine ev_istore dX4_treaty_62 (pc' := 64) (ls' := [some (.ref 35), some (.int a3), none, some (.int w4), some (.int v7), some (.int v8), some (.int 0)]) rfl (Nat.le_of_ble_eq_true rfl) rfl ?_
        refine ev_iload dX4_treaty_64 (pc' := 66) rfl rfl ?_
        refine ev_if_eq dX4_treaty_66 (pc' := 69) rfl (t := 103) rfl (fun _ => ?_) (fun q => absurd (by decide) q)
        obtain ⟨v14, e_v14⟩ : ∃ y : Int32, y = (w4 + 1) := ⟨_, rfl⟩
        replace h := nm_at e_v14 h
        refine ev_iinc dX4_treaty_103 (pc' := 106) (v := v14) (ls' := [some (.ref 35), some (.int a3), none, some (.int v14), some (.int v7), some (.int v8), some (.int 0)]) rfl rfl (by rw [e_v14]; rfl) (Nat.le_of_ble_eq_true rfl) rfl ?_
        refine ev_goto dX4_treaty_106 (t := 17) rfl ?_
        exact ev_sub (lsub_c (lsub_c (lsub_c (lsub_c (lsub_n (lsub_n (lsub_n lsub_nil))))))) (ih v14 m12 h)
      · replace h := it_f c13 h
        refine ev_iconst dX4_treaty_57 (pc' := 58) (v := 1) rfl (by decide) ?_
        refine ev_goto dX4_treaty_58 (t := 62) rfl ?_
        refine ev_istore dX4_treaty_62 (pc' := 64) (ls' := [some (.ref 35), some (.int a3), none, some (.int w4), some (.int v7), some (.int v8), some (.int 1)]) rfl (Nat.le_of_ble_eq_true rfl) rfl ?_
        refine ev_iload dX4_treaty_64 (pc' := 66) rfl rfl ?_
        refine ev_if_eq dX4_treaty_66 (pc' := 69) rfl (t := 103) rfl (fun q => absurd q (by decide)) (fun _ => ?_)
        refine ev_aload_n dX4_treaty_69 (pc' := 70) rfl rfl ?_
        refine ev_iload_n dX4_treaty_70 (pc' := 71) rfl rfl ?_
        refine ev_iload dX4_treaty_71 (pc' := 73) rfl rfl ?_
        refine ev_iload dX4_treaty_73 (pc' := 75) rfl rfl ?_
        refine ev_iconst dX4_treaty_75 (pc' := 76) (v := 5) rfl (by decide) ?_
        obtain ⟨y15, m16, x_y15, h⟩ := ob2_of h
        refine ev_invV dX4_treaty_76 (pc' := 79) rfl sq_4_164 mt_X4_byTreaty rfl (arecv_ob (x := 35) rfl rfl (by decide) kn_35) ⟨_, rfl, Nat.le_of_ble_eq_true rfl, Nat.le_of_ble_eq_true rfl, rfl, rfl⟩ ?_
        refine X4_byTreaty_ca  x_y15 ?_
        refine ev_r1 ?_
        refine ev_aload_n dX4_treaty_79 (pc' := 80) rfl rfl ?_
        refine ev_iload_n dX4_treaty_80 (pc' := 81) rfl rfl ?_
        refine ev_iload dX4_treaty_81 (pc' := 83) rfl rfl ?_
        refine ev_iconst dX4_treaty_83 (pc' := 84) (v := 1) rfl (by decide) ?_
        refine ev_iload dX4_treaty_84 (pc' := 86) rfl rfl ?_
        refine ev_isub dX4_treaty_86 (pc' := 87) rfl ?_
        refine ev_iconst dX4_treaty_87 (pc' := 88) (v := 5) rfl (by decide) ?_
        obtain ⟨y17, m18, x_y17, h⟩ := ob2_of h
        refine ev_invV dX4_treaty_88 (pc' := 91) rfl sq_4_164 mt_X4_byTreaty rfl (arecv_ob (x := 35) rfl rfl (by decide) kn_35) ⟨_, rfl, Nat.le_of_ble_eq_true rfl, Nat.le_of_ble_eq_true rfl, rfl, rfl⟩ ?_
        refine X4_byTreaty_ca  x_y17 ?_
        refine ev_r1 ?_
        refine ev_icmp_lt dX4_treaty_91 (pc' := 94) rfl (t := 103) rfl (fun c19 => ?_) (fun c19 => ?_)
        · replace h := it_t c19 h
          obtain ⟨v20, e_v20⟩ : ∃ y : Int32, y = (w4 + 1) := ⟨_, rfl⟩
          replace h := nm_at e_v20 h
          refine ev_iinc dX4_treaty_103 (pc' := 106) (v := v20) (ls' := [some (.ref 35), some (.int a3), none, some (.int v20), some (.int v7), some (.int v8), some (.int 1)]) rfl rfl (by rw [e_v20]; rfl) (Nat.le_of_ble_eq_true rfl) rfl ?_
          refine ev_goto dX4_treaty_106 (t := 17) rfl ?_
          exact ev_sub (lsub_c (lsub_c (lsub_c (lsub_c (lsub_n (lsub_n (lsub_n lsub_nil))))))) (ih v20 m18 h)
        · replace h := it_f c19 h
          refine ev_bipush dX4_treaty_94 (pc' := 96) (v := 10) rfl (by decide) ?_
          refine ev_iload dX4_treaty_96 (pc' := 98) rfl rfl ?_
          refine ev_imul dX4_treaty_98 (pc' := 99) rfl ?_
          refine ev_iload dX4_treaty_99 (pc' := 101) rfl rfl ?_
          refine ev_iadd dX4_treaty_101 (pc' := 102) rfl ?_
          obtain ⟨rfl, rfl⟩ := rt2 h
          exact ev_ireturn dX4_treaty_102 rfl q
set_option maxRecDepth 100000 in
set_option maxHeartbeats 8000000 in
theorem X4_treaty_ca {S : Sc} {d : Nat} {a1 : Int32} {mem : Mm} {rr : Int32} {mr : Mm} {Q : Po}  (h : X4_treaty 35 a1 mem = some (rr, mr)) (q : Q (some (.int rr)) mr) : Ca S (d + 7) 163 [.ref 35, .int a1] mem Q := by
  unfold X4_treaty at h
  refine ca_in (by decide) mt_X4_treaty (Nat.le_of_ble_eq_true rfl) ?_
  show Ev S (d + 6) 4 cX4_treaty (some .int) 0 [some (.ref 35), some (.int a1), none, none, none, none, none] [] mem Q
  refine ev_iload_n dX4_treaty_0 (pc' := 1) rfl rfl ?_
  refine ev_invS dX4_treaty_1 (pc' := 4) rfl sq_4_128 mt_X4_wrongYears rfl ⟨_, rfl, Nat.le_of_ble_eq_true rfl, Nat.le_of_ble_eq_true rfl, rfl, rfl⟩ ?_
  refine X4_wrongYears_ca  rfl ?_
  refine ev_r1 ?_
  refine ev_topi (fun v1 e_v1 => ?_)
  replace h := nm_at e_v1 h
  refine ev_istore_n dX4_treaty_4 (pc' := 5) (ls' := [some (.ref 35), some (.int a1), some (.int v1), none, none, none, none]) rfl (Nat.le_of_ble_eq_true rfl) rfl ?_
  refine ev_iload_n dX4_treaty_5 (pc' := 6) rfl rfl ?_
  refine ev_if_eq dX4_treaty_6 (pc' := 9) rfl (t := 15) rfl (fun c2 => ?_) (fun c2 => ?_)
  · replace h := it_t c2 h
    refine ev_iconst dX4_treaty_15 (pc' := 16) (v := 0) rfl (by decide) ?_
    refine ev_istore_n dX4_treaty_16 (pc' := 17) (ls' := [some (.ref 35), some (.int a1), some (.int v1), some (.int 0), none, none, none]) rfl (Nat.le_of_ble_eq_true rfl) rfl ?_
    exact ev_sub (lsub_c (lsub_c (lsub_n (lsub_c (lsub_c (lsub_c (lsub_c lsub_nil))))))) (X4_treaty_L17_ev  q LF 0 mem h)
  · replace h := it_f c2 h
    refine ev_aload_n dX4_treaty_9 (pc' := 10) rfl rfl ?_
    refine ev_iload_n dX4_treaty_10 (pc' := 11) rfl rfl ?_
    obtain ⟨y21, m22, x_y21, h⟩ := ob2_of h
    refine ev_invV dX4_treaty_11 (pc' := 14) rfl sq_4_36 mt_X4_no rfl (arecv_ob (x := 35) rfl rfl (by decide) kn_35) ⟨_, rfl, Nat.le_of_ble_eq_true rfl, Nat.le_of_ble_eq_true rfl, rfl, rfl⟩ ?_
    refine X4_no_ca  x_y21 ?_
    refine ev_r1 ?_
    obtain ⟨rfl, rfl⟩ := rt2 h
    exact ev_ireturn dX4_treaty_14 rfl q
def X4_bestSet_L45  (a6 : Int32) (a7 : Int32) : Nat → Int32 → Int64 → Int64 → Int32 → Mm → Option (Int32 × Mm)
  | 0, _, _, _, _, _ => none
  | n + 1, w8, w9, w10, w11, m12 => if a7 = 0 then (if 40 < w11 then (some (w8, m12)) else (ob (X4_lays 36 37 m12) (fun m15 => gd (vin (2 + a7) 47) (nm (mset m15 37 ((2 + a7)).toNatClampNeg w11) (fun m17 => ob (X4_yearsOn 35 37 a6 m17) (fun m18 => ob (X4_sumOf 37 5 m18) (fun y19 => nm (y19).toInt64 (fun v20 => ob (X4_sumOf 37 2 m18) (fun y21 => nm (v20 + (y21).toInt64) (fun v22 => if (lg_cmp v22 0) = 0 then (if 0 < (lg_cmp (v20 * w10) (w9 * 1)) then (nm (w11 + 1) (fun v25 => X4_bestSet_L45 a6 a7 n w11 v20 1 v25 m18)) else (nm (w11 + 1) (fun v26 => X4_bestSet_L45 a6 a7 n w8 w9 w10 v26 m18))) else (if 0 < (lg_cmp (v20 * w10) (w9 * v22)) then (nm (w11 + 1) (fun v28 => X4_bestSet_L45 a6 a7 n w11 v20 v22 v28 m18)) else (nm (w11 + 1) (fun v29 => X4_bestSet_L45 a6 a7 n w8 w9 w10 v29 m18))))))))))))) else (if 9 < w11 then (some (w8, m12)) else (ob (X4_lays 36 37 m12) (fun m31 => gd (vin (2 + a7) 47) (nm (mset m31 37 ((2 + a7)).toNatClampNeg w11) (fun m33 => ob (X4_yearsOn 35 37 a6 m33) (fun m34 => ob (X4_sumOf 37 5 m34) (fun y35 => nm (y35).toInt64 (fun v36 => ob (X4_sumOf 37 2 m34) (fun y37 => nm (v36 + (y37).toInt64) (fun v38 => if (lg_cmp v38 0) = 0 then (if 0 < (lg_cmp (v36 * w10) (w9 * 1)) then (nm (w11 + 1) (fun v41 => X4_bestSet_L45 a6 a7 n w11 v36 1 v41 m34)) else (nm (w11 + 1) (fun v42 => X4_bestSet_L45 a6 a7 n w8 w9 w10 v42 m34))) else (if 0 < (lg_cmp (v36 * w10) (w9 * v38)) then (nm (w11 + 1) (fun v44 => X4_bestSet_L45 a6 a7 n w11 v36 v38 v44 m34)) else (nm (w11 + 1) (fun v45 => X4_bestSet_L45 a6 a7 n w8 w9 w10 v45 m34)))))))))))))
def X4_bestSet (_o : Nat) (a1 : Int32) (a2 : Int32) (mem : Mm) : Option (Int32 × Mm) := nm (X4_wrongYears a1) (fun v1 => if v1 = 0 then (if (X4_isIn a2 0 1) = 0 then (ob2 (X4_no 35 (-2) mem) (fun y4 m5 => some (y4, m5))) else (X4_bestSet_L45 a1 a2 LF a2 (-1) 1 a2 mem)) else (ob2 (X4_no 35 v1 mem) (fun y46 m47 => some (y46, m47))))
set_option maxRecDepth 100000 in
set_option maxHeartbeats 8000000 in
theorem X4_bestSet_L45_ev {S : Sc} {d : Nat}  {a6 : Int32} {a7 : Int32} {rr : Int32} {mr : Mm} {Q : Po}  (q : Q (some (.int rr)) mr) : ∀ (n : Nat) (w8 : Int32) (w9 : Int64) (w10 : Int64) (w11 : Int32) (m12 : Mm), X4_bestSet_L45 a6 a7 n w8 w9 w10 w11 m12 = some (rr, mr) → Ev S (d + 5) 4 cX4_bestSet (some .int) 45 [some (.ref 35), some (.int a6), some (.int a7), none, some (.int w8), some (.long w9), none, some (.long w10), none, some (.int w11), none, none, none, none] [] m12 Q := by
  intro n
  induction n with
  | zero => intro w8 w9 w10 w11 m12 h; cases h
  | succ n ih =>
    intro w8 w9 w10 w11 m12 h
    unfold X4_bestSet_L45 at h
    refine ev_iload dX4_bestSet_45 (pc' := 47) rfl rfl ?_
    refine ev_iload_n dX4_bestSet_47 (pc' := 48) rfl rfl ?_
    refine ev_if_ne dX4_bestSet_48 (pc' := 51) rfl (t := 56) rfl (fun c13 => ?_) (fun c13 => ?_)
    · replace h := it_f c13 h
      refine ev_bipush dX4_bestSet_56 (pc' := 58) (v := 9) rfl (by decide) ?_
      refine ev_icmp_gt dX4_bestSet_58 (pc' := 61) rfl (t := 161) rfl (fun c30 => ?_) (fun c30 => ?_)
      · replace h := it_t c30 h
        refine ev_iload dX4_bestSet_161 (pc' := 163) rfl rfl ?_
        obtain ⟨rfl, rfl⟩ := rt2 h
        exact ev_ireturn dX4_bestSet_163 rfl q
      · replace h := it_f c30 h
        refine ev_aload_n dX4_bestSet_61 (pc' := 62) rfl rfl ?_
        refine ev_getR (y := 36) dX4_bestSet_62 (pc' := 65) rfl fq_4_9 kn_35 rfl ?_
        refine ev_aload_n dX4_bestSet_65 (pc' := 66) rfl rfl ?_
        refine ev_getR (y := 37) dX4_bestSet_66 (pc' := 69) rfl fq_4_13 kn_35 rfl ?_
        obtain ⟨m31, x_m31, h⟩ := ob_of h
        refine ev_invS dX4_bestSet_69 (pc' := 72) rfl sq_4_78 mt_X4_lays rfl ⟨_, rfl, Nat.le_of_ble_eq_true rfl, Nat.le_of_ble_eq_true rfl, rfl, rfl⟩ ?_
        refine X4_lays_ca kn_36 rfl kn_37 rfl x_m31 ?_
        refine ev_r0 ?_
        refine ev_aload_n dX4_bestSet_72 (pc' := 73) rfl rfl ?_
        refine ev_getR (y := 37) dX4_bestSet_73 (pc' := 76) rfl fq_4_13 kn_35 rfl ?_
        refine ev_iconst dX4_bestSet_76 (pc' := 77) (v := 2) rfl (by decide) ?_
        refine ev_iload_n dX4_bestSet_77 (pc' := 78) rfl rfl ?_
        refine ev_iadd dX4_bestSet_78 (pc' := 79) rfl ?_
        refine ev_iload dX4_bestSet_79 (pc' := 81) rfl rfl ?_
        obtain ⟨g32, h⟩ := gd_of h
        refine ev_iastK (k0 := ((2 + a7)).toNatClampNeg) dX4_bestSet_81 (pc' := 82) rfl kn_37 g32 rfl ?_
        refine ev_topm (fun m33 e_m33 => ?_)
        replace h := nm_at e_m33 h
        refine ev_aload_n dX4_bestSet_82 (pc' := 83) rfl rfl ?_
        refine ev_aload_n dX4_bestSet_83 (pc' := 84) rfl rfl ?_
        refine ev_getR (y := 37) dX4_bestSet_84 (pc' := 87) rfl fq_4_13 kn_35 rfl ?_
        refine ev_iload_n dX4_bestSet_87 (pc' := 88) rfl rfl ?_
        obtain ⟨m34, x_m34, h⟩ := ob_of h
        refine ev_invV dX4_bestSet_88 (pc' := 91) rfl sq_4_82 mt_X4_yearsOn rfl (arecv_ob (x := 35) rfl rfl (by decide) kn_35) ⟨_, rfl, Nat.le_of_ble_eq_true rfl, Nat.le_of_ble_eq_true rfl, rfl, rfl⟩ ?_
        refine X4_yearsOn_ca kn_37 rfl x_m34 ?_
        refine ev_r0 ?_
        refine ev_aload_n dX4_bestSet_91 (pc' := 92) rfl rfl ?_
        refine ev_getR (y := 37) dX4_bestSet_92 (pc' := 95) rfl fq_4_13 kn_35 rfl ?_
        refine ev_iconst dX4_bestSet_95 (pc' := 96) (v := 5) rfl (by decide) ?_
        obtain ⟨y35, x_y35, h⟩ := ob_of h
        refine ev_invS dX4_bestSet_96 (pc' := 99) rfl sq_4_135 mt_X4_sumOf rfl ⟨_, rfl, Nat.le_of_ble_eq_true rfl, Nat.le_of_ble_eq_true rfl, rfl, rfl⟩ ?_
        refine X4_sumOf_ca kn_37 rfl x_y35 ?_
        refine ev_r1 ?_
        refine ev_i2l dX4_bestSet_99 (pc' := 100) rfl ?_
        refine ev_topl (fun v36 e_v36 => ?_)
        replace h := nm_at e_v36 h
        refine ev_lstore dX4_bestSet_100 (pc' := 102) (ls' := [some (.ref 35), some (.int a6), some (.int a7), none, some (.int w8), some (.long w9), none, some (.long w10), none, some (.int w11), some (.long v36), none, none, none]) rfl (Nat.le_of_ble_eq_true rfl) rfl ?_
        refine ev_lload dX4_bestSet_102 (pc' := 104) rfl rfl ?_
        refine ev_aload_n dX4_bestSet_104 (pc' := 105) rfl rfl ?_
        refine ev_getR (y := 37) dX4_bestSet_105 (pc' := 108) rfl fq_4_13 kn_35 rfl ?_
        refine ev_iconst dX4_bestSet_108 (pc' := 109) (v := 2) rfl (by decide) ?_
        obtain ⟨y37, x_y37, h⟩ := ob_of h
        refine ev_invS dX4_bestSet_109 (pc' := 112) rfl sq_4_135 mt_X4_sumOf rfl ⟨_, rfl, Nat.le_of_ble_eq_true rfl, Nat.le_of_ble_eq_true rfl, rfl, rfl⟩ ?_
        refine X4_sumOf_ca kn_37 rfl x_y37 ?_
        refine ev_r1 ?_
        refine ev_i2l dX4_bestSet_112 (pc' := 113) rfl ?_
        refine ev_ladd dX4_bestSet_113 (pc' := 114) rfl ?_
        refine ev_topl (fun v38 e_v38 => ?_)
        replace h := nm_at e_v38 h
        refine ev_lstore dX4_bestSet_114 (pc' := 116) (ls' := [some (.ref 35), some (.int a6), some (.int a7), none, some (.int w8), some (.long w9), none, some (.long w10), none, some (.int w11), some (.long v36), none, some (.long v38), none]) rfl (Nat.le_of_ble_eq_true rfl) rfl ?_
        refine ev_lload dX4_bestSet_116 (pc' := 118) rfl rfl ?_
        refine ev_lconst dX4_bestSet_118 (pc' := 119) (v := 0) rfl (by decide) ?_
        refine ev_lcmp dX4_bestSet_119 (pc' := 120) rfl ?_
        refine ev_if_ne dX4_bestSet_120 (pc' := 123) rfl (t := 126) rfl (fun c39 => ?_) (fun c39 => ?_)
        · replace h := it_f c39 h
          refine ev_lload dX4_bestSet_126 (pc' := 128) rfl rfl ?_
          refine ev_lload dX4_bestSet_128 (pc' := 130) rfl rfl ?_
          refine ev_lmul dX4_bestSet_130 (pc' := 131) rfl ?_
          refine ev_lload dX4_bestSet_131 (pc' := 133) rfl rfl ?_
          refine ev_lload dX4_bestSet_133 (pc' := 135) rfl rfl ?_
          refine ev_lmul dX4_bestSet_135 (pc' := 136) rfl ?_
          refine ev_lcmp dX4_bestSet_136 (pc' := 137) rfl ?_
          refine ev_if_gt dX4_bestSet_137 (pc' := 140) rfl (t := 143) rfl (fun c43 => ?_) (fun c43 => ?_)
          · replace h := it_t c43 h
            refine ev_iload dX4_bestSet_143 (pc' := 145) rfl rfl ?_
            refine ev_istore dX4_bestSet_145 (pc' := 147) (ls' := [some (.ref 35), some (.int a6), some (.int a7), none, some (.int w11), some (.long w9), none, some (.long w10), none, some (.int w11), some (.long v36), none, some (.long v38), none]) rfl (Nat.le_of_ble_eq_true rfl) rfl ?_
            refine ev_lload dX4_bestSet_147 (pc' := 149) rfl rfl ?_
            refine ev_lstore dX4_bestSet_149 (pc' := 151) (ls' := [some (.ref 35), some (.int a6), some (.int a7), none, some (.int w11), some (.long v36), none, some (.long w10), none, some (.int w11), some (.long v36), none, some (.long v38), none]) rfl (Nat.le_of_ble_eq_true rfl) rfl ?_
            refine ev_lload dX4_bestSet_151 (pc' := 153) rfl rfl ?_
            refine ev_lstore dX4_bestSet_153 (pc' := 155) (ls' := [some (.ref 35), some (.int a6), some (.int a7), none, some (.int w11), some (.long v36), none, some (.long v38), none, some (.int w11), some (.long v36), none, some (.long v38), none]) rfl (Nat.le_of_ble_eq_true rfl) rfl ?_
            obtain ⟨v44, e_v44⟩ : ∃ y : Int32, y = (w11 + 1) := ⟨_, rfl⟩
            replace h := nm_at e_v44 h
            refine ev_iinc dX4_bestSet_155 (pc' := 158) (v := v44) (ls' := [some (.ref 35), some (.int a6), some (.int a7), none, some (.int w11), some (.long v36), none, some (.long v38), none, some (.int v44), some (.long v36), none, some (.long v38), none]) rfl rfl (by rw [e_v44]; rfl) (Nat.le_of_ble_eq_true rfl) rfl ?_
            refine ev_goto dX4_bestSet_158 (t := 45) rfl ?_
            exact ev_sub (lsub_c (lsub_c (lsub_c (lsub_c (lsub_c (lsub_c (lsub_c (lsub_c (lsub_c (lsub_c (lsub_n (lsub_c (lsub_n (lsub_c lsub_nil)))))))))))))) (ih w11 v36 v38 v44 m34 h)
          · replace h := it_f c43 h
            refine ev_goto dX4_bestSet_140 (t := 155) rfl ?_
            obtain ⟨v45, e_v45⟩ : ∃ y : Int32, y = (w11 + 1) := ⟨_, rfl⟩
            replace h := nm_at e_v45 h
            refine ev_iinc dX4_bestSet_155 (pc' := 158) (v := v45) (ls' := [some (.ref 35), some (.int a6), some (.int a7), none, some (.int w8), some (.long w9), none, some (.long w10), none, some (.int v45), some (.long v36), none, some (.long v38), none]) rfl rfl (by rw [e_v45]; rfl) (Nat.le_of_ble_eq_true rfl) rfl ?_
            refine ev_goto dX4_bestSet_158 (t := 45) rfl ?_
            exact ev_sub (lsub_c (lsub_c (lsub_c (lsub_c (lsub_c (lsub_c (lsub_c (lsub_c (lsub_c (lsub_c (lsub_n (lsub_c (lsub_n (lsub_c lsub_nil)))))))))))))) (ih w8 w9 w10 v45 m34 h)
        · replace h := it_t c39 h
          refine ev_lconst dX4_bestSet_123 (pc' := 124) (v := 1) rfl (by decide) ?_
          refine ev_lstore dX4_bestSet_124 (pc' := 126) (ls' := [some (.ref 35), some (.int a6), some (.int a7), none, some (.int w8), some (.long w9), none, some (.long w10), none, some (.int w11), some (.long v36), none, some (.long 1), none]) rfl (Nat.le_of_ble_eq_true rfl) rfl ?_
          refine ev_lload dX4_bestSet_126 (pc' := 128) rfl rfl ?_
          refine ev_lload dX4_bestSet_128 (pc' := 130) rfl rfl ?_
          refine ev_lmul dX4_bestSet_130 (pc' := 131) rfl ?_
          refine ev_lload dX4_bestSet_131 (pc' := 133) rfl rfl ?_
          refine ev_lload dX4_bestSet_133 (pc' := 135) rfl rfl ?_
          refine ev_lmul dX4_bestSet_135 (pc' := 136) rfl ?_
          refine ev_lcmp dX4_bestSet_136 (pc' := 137) rfl ?_
          refine ev_if_gt dX4_bestSet_137 (pc' := 140) rfl (t := 143) rfl (fun c40 => ?_) (fun c40 => ?_)
          · replace h := it_t c40 h
            refine ev_iload dX4_bestSet_143 (pc' := 145) rfl rfl ?_
            refine ev_istore dX4_bestSet_145 (pc' := 147) (ls' := [some (.ref 35), some (.int a6), some (.int a7), none, some (.int w11), some (.long w9), none, some (.long w10), none, some (.int w11), some (.long v36), none, some (.long 1), none]) rfl (Nat.le_of_ble_eq_true rfl) rfl ?_
            refine ev_lload dX4_bestSet_147 (pc' := 149) rfl rfl ?_
            refine ev_lstore dX4_bestSet_149 (pc' := 151) (ls' := [some (.ref 35), some (.int a6), some (.int a7), none, some (.int w11), some (.long v36), none, some (.long w10), none, some (.int w11), some (.long v36), none, some (.long 1), none]) rfl (Nat.le_of_ble_eq_true rfl) rfl ?_
            refine ev_lload dX4_bestSet_151 (pc' := 153) rfl rfl ?_
            refine ev_lstore dX4_bestSet_153 (pc' := 155) (ls' := [some (.ref 35), some (.int a6), some (.int a7), none, some (.int w11), some (.long v36), none, some (.long 1), none, some (.int w11), some (.long v36), none, some (.long 1), none]) rfl (Nat.le_of_ble_eq_true rfl) rfl ?_
            obtain ⟨v41, e_v41⟩ : ∃ y : Int32, y = (w11 + 1) := ⟨_, rfl⟩
            replace h := nm_at e_v41 h
            refine ev_iinc dX4_bestSet_155 (pc' := 158) (v := v41) (ls' := [some (.ref 35), some (.int a6), some (.int a7), none, some (.int w11), some (.long v36), none, some (.long 1), none, some (.int v41), some (.long v36), none, some (.long 1), none]) rfl rfl (by rw [e_v41]; rfl) (Nat.le_of_ble_eq_true rfl) rfl ?_
            refine ev_goto dX4_bestSet_158 (t := 45) rfl ?_
            exact ev_sub (lsub_c (lsub_c (lsub_c (lsub_c (lsub_c (lsub_c (lsub_c (lsub_c (lsub_c (lsub_c (lsub_n (lsub_c (lsub_n (lsub_c lsub_nil)))))))))))))) (ih w11 v36 1 v41 m34 h)
          · replace h := it_f c40 h
            refine ev_goto dX4_bestSet_140 (t := 155) rfl ?_
            obtain ⟨v42, e_v42⟩ : ∃ y : Int32, y = (w11 + 1) := ⟨_, rfl⟩
            replace h := nm_at e_v42 h
            refine ev_iinc dX4_bestSet_155 (pc' := 158) (v := v42) (ls' := [some (.ref 35), some (.int a6), some (.int a7), none, some (.int w8), some (.long w9), none, some (.long w10), none, some (.int v42), some (.long v36), none, some (.long 1), none]) rfl rfl (by rw [e_v42]; rfl) (Nat.le_of_ble_eq_true rfl) rfl ?_
            refine ev_goto dX4_bestSet_158 (t := 45) rfl ?_
            exact ev_sub (lsub_c (lsub_c (lsub_c (lsub_c (lsub_c (lsub_c (lsub_c (lsub_c (lsub_c (lsub_c (lsub_n (lsub_c (lsub_n (lsub_c lsub_nil)))))))))))))) (ih w8 w9 w10 v42 m34 h)
    · replace h := it_t c13 h
      refine ev_bipush dX4_bestSet_51 (pc' := 53) (v := 40) rfl (by decide) ?_
      refine ev_goto dX4_bestSet_53 (t := 58) rfl ?_
      refine ev_icmp_gt dX4_bestSet_58 (pc' := 61) rfl (t := 161) rfl (fun c14 => ?_) (fun c14 => ?_)
      · replace h := it_t c14 h
        refine ev_iload dX4_bestSet_161 (pc' := 163) rfl rfl ?_
        obtain ⟨rfl, rfl⟩ := rt2 h
        exact ev_ireturn dX4_bestSet_163 rfl q
      · replace h := it_f c14 h
        refine ev_aload_n dX4_bestSet_61 (pc' := 62) rfl rfl ?_
        refine ev_getR (y := 36) dX4_bestSet_62 (pc' := 65) rfl fq_4_9 kn_35 rfl ?_
        refine ev_aload_n dX4_bestSet_65 (pc' := 66) rfl rfl ?_
        refine ev_getR (y := 37) dX4_bestSet_66 (pc' := 69) rfl fq_4_13 kn_35 rfl ?_
        obtain ⟨m15, x_m15, h⟩ := ob_of h
        refine ev_invS dX4_bestSet_69 (pc' := 72) rfl sq_4_78 mt_X4_lays rfl ⟨_, rfl, Nat.le_of_ble_eq_true rfl, Nat.le_of_ble_eq_true rfl, rfl, rfl⟩ ?_
        refine X4_lays_ca kn_36 rfl kn_37 rfl x_m15 ?_
        refine ev_r0 ?_
        refine ev_aload_n dX4_bestSet_72 (pc' := 73) rfl rfl ?_
        refine ev_getR (y := 37) dX4_bestSet_73 (pc' := 76) rfl fq_4_13 kn_35 rfl ?_
        refine ev_iconst dX4_bestSet_76 (pc' := 77) (v := 2) rfl (by decide) ?_
        refine ev_iload_n dX4_bestSet_77 (pc' := 78) rfl rfl ?_
        refine ev_iadd dX4_bestSet_78 (pc' := 79) rfl ?_
        refine ev_iload dX4_bestSet_79 (pc' := 81) rfl rfl ?_
        obtain ⟨g16, h⟩ := gd_of h
        refine ev_iastK (k0 := ((2 + a7)).toNatClampNeg) dX4_bestSet_81 (pc' := 82) rfl kn_37 g16 rfl ?_
        refine ev_topm (fun m17 e_m17 => ?_)
        replace h := nm_at e_m17 h
        refine ev_aload_n dX4_bestSet_82 (pc' := 83) rfl rfl ?_
        refine ev_aload_n dX4_bestSet_83 (pc' := 84) rfl rfl ?_
        refine ev_getR (y := 37) dX4_bestSet_84 (pc' := 87) rfl fq_4_13 kn_35 rfl ?_
        refine ev_iload_n dX4_bestSet_87 (pc' := 88) rfl rfl ?_
        obtain ⟨m18, x_m18, h⟩ := ob_of h
        refine ev_invV dX4_bestSet_88 (pc' := 91) rfl sq_4_82 mt_X4_yearsOn rfl (arecv_ob (x := 35) rfl rfl (by decide) kn_35) ⟨_, rfl, Nat.le_of_ble_eq_true rfl, Nat.le_of_ble_eq_true rfl, rfl, rfl⟩ ?_
        refine X4_yearsOn_ca kn_37 rfl x_m18 ?_
        refine ev_r0 ?_
        refine ev_aload_n dX4_bestSet_91 (pc' := 92) rfl rfl ?_
        refine ev_getR (y := 37) dX4_bestSet_92 (pc' := 95) rfl fq_4_13 kn_35 rfl ?_
        refine ev_iconst dX4_bestSet_95 (pc' := 96) (v := 5) rfl (by decide) ?_
        obtain ⟨y19, x_y19, h⟩ := ob_of h
        refine ev_invS dX4_bestSet_96 (pc' := 99) rfl sq_4_135 mt_X4_sumOf rfl ⟨_, rfl, Nat.le_of_ble_eq_true rfl, Nat.le_of_ble_eq_true rfl, rfl, rfl⟩ ?_
        refine X4_sumOf_ca kn_37 rfl x_y19 ?_
        refine ev_r1 ?_
        refine ev_i2l dX4_bestSet_99 (pc' := 100) rfl ?_
        refine ev_topl (fun v20 e_v20 => ?_)
        replace h := nm_at e_v20 h
        refine ev_lstore dX4_bestSet_100 (pc' := 102) (ls' := [some (.ref 35), some (.int a6), some (.int a7), none, some (.int w8), some (.long w9), none, some (.long w10), none, some (.int w11), some (.long v20), none, none, none]) rfl (Nat.le_of_ble_eq_true rfl) rfl ?_
        refine ev_lload dX4_bestSet_102 (pc' := 104) rfl rfl ?_
        refine ev_aload_n dX4_bestSet_104 (pc' := 105) rfl rfl ?_
        refine ev_getR (y := 37) dX4_bestSet_105 (pc' := 108) rfl fq_4_13 kn_35 rfl ?_
        refine ev_iconst dX4_bestSet_108 (pc' := 109) (v := 2) rfl (by decide) ?_
        obtain ⟨y21, x_y21, h⟩ := ob_of h
        refine ev_invS dX4_bestSet_109 (pc' := 112) rfl sq_4_135 mt_X4_sumOf rfl ⟨_, rfl, Nat.le_of_ble_eq_true rfl, Nat.le_of_ble_eq_true rfl, rfl, rfl⟩ ?_
        refine X4_sumOf_ca kn_37 rfl x_y21 ?_
        refine ev_r1 ?_
        refine ev_i2l dX4_bestSet_112 (pc' := 113) rfl ?_
        refine ev_ladd dX4_bestSet_113 (pc' := 114) rfl ?_
        refine ev_topl (fun v22 e_v22 => ?_)
        replace h := nm_at e_v22 h
        refine ev_lstore dX4_bestSet_114 (pc' := 116) (ls' := [some (.ref 35), some (.int a6), some (.int a7), none, some (.int w8), some (.long w9), none, some (.long w10), none, some (.int w11), some (.long v20), none, some (.long v22), none]) rfl (Nat.le_of_ble_eq_true rfl) rfl ?_
        refine ev_lload dX4_bestSet_116 (pc' := 118) rfl rfl ?_
        refine ev_lconst dX4_bestSet_118 (pc' := 119) (v := 0) rfl (by decide) ?_
        refine ev_lcmp dX4_bestSet_119 (pc' := 120) rfl ?_
        refine ev_if_ne dX4_bestSet_120 (pc' := 123) rfl (t := 126) rfl (fun c23 => ?_) (fun c23 => ?_)
        · replace h := it_f c23 h
          refine ev_lload dX4_bestSet_126 (pc' := 128) rfl rfl ?_
          refine ev_lload dX4_bestSet_128 (pc' := 130) rfl rfl ?_
          refine ev_lmul dX4_bestSet_130 (pc' := 131) rfl ?_
          refine ev_lload dX4_bestSet_131 (pc' := 133) rfl rfl ?_
          refine ev_lload dX4_bestSet_133 (pc' := 135) rfl rfl ?_
          refine ev_lmul dX4_bestSet_135 (pc' := 136) rfl ?_
          refine ev_lcmp dX4_bestSet_136 (pc' := 137) rfl ?_
          refine ev_if_gt dX4_bestSet_137 (pc' := 140) rfl (t := 143) rfl (fun c27 => ?_) (fun c27 => ?_)
          · replace h := it_t c27 h
            refine ev_iload dX4_bestSet_143 (pc' := 145) rfl rfl ?_
            refine ev_istore dX4_bestSet_145 (pc' := 147) (ls' := [some (.ref 35), some (.int a6), some (.int a7), none, some (.int w11), some (.long w9), none, some (.long w10), none, some (.int w11), some (.long v20), none, some (.long v22), none]) rfl (Nat.le_of_ble_eq_true rfl) rfl ?_
            refine ev_lload dX4_bestSet_147 (pc' := 149) rfl rfl ?_
            refine ev_lstore dX4_bestSet_149 (pc' := 151) (ls' := [some (.ref 35), some (.int a6), some (.int a7), none, some (.int w11), some (.long v20), none, some (.long w10), none, some (.int w11), some (.long v20), none, some (.long v22), none]) rfl (Nat.le_of_ble_eq_true rfl) rfl ?_
            refine ev_lload dX4_bestSet_151 (pc' := 153) rfl rfl ?_
            refine ev_lstore dX4_bestSet_153 (pc' := 155) (ls' := [some (.ref 35), some (.int a6), some (.int a7), none, some (.int w11), some (.long v20), none, some (.long v22), none, some (.int w11), some (.long v20), none, some (.long v22), none]) rfl (Nat.le_of_ble_eq_true rfl) rfl ?_
            obtain ⟨v28, e_v28⟩ : ∃ y : Int32, y = (w11 + 1) := ⟨_, rfl⟩
            replace h := nm_at e_v28 h
            refine ev_iinc dX4_bestSet_155 (pc' := 158) (v := v28) (ls' := [some (.ref 35), some (.int a6), some (.int a7), none, some (.int w11), some (.long v20), none, some (.long v22), none, some (.int v28), some (.long v20), none, some (.long v22), none]) rfl rfl (by rw [e_v28]; rfl) (Nat.le_of_ble_eq_true rfl) rfl ?_
            refine ev_goto dX4_bestSet_158 (t := 45) rfl ?_
            exact ev_sub (lsub_c (lsub_c (lsub_c (lsub_c (lsub_c (lsub_c (lsub_c (lsub_c (lsub_c (lsub_c (lsub_n (lsub_c (lsub_n (lsub_c lsub_nil)))))))))))))) (ih w11 v20 v22 v28 m18 h)
          · replace h := it_f c27 h
            refine ev_goto dX4_bestSet_140 (t := 155) rfl ?_
            obtain ⟨v29, e_v29⟩ : ∃ y : Int32, y = (w11 + 1) := ⟨_, rfl⟩
            replace h := nm_at e_v29 h
            refine ev_iinc dX4_bestSet_155 (pc' := 158) (v := v29) (ls' := [some (.ref 35), some (.int a6), some (.int a7), none, some (.int w8), some (.long w9), none, some (.long w10), none, some (.int v29), some (.long v20), none, some (.long v22), none]) rfl rfl (by rw [e_v29]; rfl) (Nat.le_of_ble_eq_true rfl) rfl ?_
            refine ev_goto dX4_bestSet_158 (t := 45) rfl ?_
            exact ev_sub (lsub_c (lsub_c (lsub_c (lsub_c (lsub_c (lsub_c (lsub_c (lsub_c (lsub_c (lsub_c (lsub_n (lsub_c (lsub_n (lsub_c lsub_nil)))))))))))))) (ih w8 w9 w10 v29 m18 h)
        · replace h := it_t c23 h
          refine ev_lconst dX4_bestSet_123 (pc' := 124) (v := 1) rfl (by decide) ?_
          refine ev_lstore dX4_bestSet_124 (pc' := 126) (ls' := [some (.ref 35), some (.int a6), some (.int a7), none, some (.int w8), some (.long w9), none, some (.long w10), none, some (.int w11), some (.long v20), none, some (.long 1), none]) rfl (Nat.le_of_ble_eq_true rfl) rfl ?_
          refine ev_lload dX4_bestSet_126 (pc' := 128) rfl rfl ?_
          refine ev_lload dX4_bestSet_128 (pc' := 130) rfl rfl ?_
          refine ev_lmul dX4_bestSet_130 (pc' := 131) rfl ?_
          refine ev_lload dX4_bestSet_131 (pc' := 133) rfl rfl ?_
          refine ev_lload dX4_bestSet_133 (pc' := 135) rfl rfl ?_
          refine ev_lmul dX4_bestSet_135 (pc' := 136) rfl ?_
          refine ev_lcmp dX4_bestSet_136 (pc' := 137) rfl ?_
          refine ev_if_gt dX4_bestSet_137 (pc' := 140) rfl (t := 143) rfl (fun c24 => ?_) (fun c24 => ?_)
          · replace h := it_t c24 h
            refine ev_iload dX4_bestSet_143 (pc' := 145) rfl rfl ?_
            refine ev_istore dX4_bestSet_145 (pc' := 147) (ls' := [some (.ref 35), some (.int a6), some (.int a7), none, some (.int w11), some (.long w9), none, some (.long w10), none, some (.int w11), some (.long v20), none, some (.long 1), none]) rfl (Nat.le_of_ble_eq_true rfl) rfl ?_
            refine ev_lload dX4_bestSet_147 (pc' := 149) rfl rfl ?_
            refine ev_lstore dX4_bestSet_149 (pc' := 151) (ls' := [some (.ref 35), some (.int a6), some (.int a7), none, some (.int w11), some (.long v20), none, some (.long w10), none, some (.int w11), some (.long v20), none, some (.long 1), none]) rfl (Nat.le_of_ble_eq_true rfl) rfl ?_
            refine ev_lload dX4_bestSet_151 (pc' := 153) rfl rfl ?_
            refine ev_lstore dX4_bestSet_153 (pc' := 155) (ls' := [some (.ref 35), some (.int a6), some (.int a7), none, some (.int w11), some (.long v20), none, some (.long 1), none, some (.int w11), some (.long v20), none, some (.long 1), none]) rfl (Nat.le_of_ble_eq_true rfl) rfl ?_
            obtain ⟨v25, e_v25⟩ : ∃ y : Int32, y = (w11 + 1) := ⟨_, rfl⟩
            replace h := nm_at e_v25 h
            refine ev_iinc dX4_bestSet_155 (pc' := 158) (v := v25) (ls' := [some (.ref 35), some (.int a6), some (.int a7), none, some (.int w11), some (.long v20), none, some (.long 1), none, some (.int v25), some (.long v20), none, some (.long 1), none]) rfl rfl (by rw [e_v25]; rfl) (Nat.le_of_ble_eq_true rfl) rfl ?_
            refine ev_goto dX4_bestSet_158 (t := 45) rfl ?_
            exact ev_sub (lsub_c (lsub_c (lsub_c (lsub_c (lsub_c (lsub_c (lsub_c (lsub_c (lsub_c (lsub_c (lsub_n (lsub_c (lsub_n (lsub_c lsub_nil)))))))))))))) (ih w11 v20 1 v25 m18 h)
          · replace h := it_f c24 h
            refine ev_goto dX4_bestSet_140 (t := 155) rfl ?_
            obtain ⟨v26, e_v26⟩ : ∃ y : Int32, y = (w11 + 1) := ⟨_, rfl⟩
            replace h := nm_at e_v26 h
            refine ev_iinc dX4_bestSet_155 (pc' := 158) (v := v26) (ls' := [some (.ref 35), some (.int a6), some (.int a7), none, some (.int w8), some (.long w9), none, some (.long w10), none, some (.int v26), some (.long v20), none, some (.long 1), none]) rfl rfl (by rw [e_v26]; rfl) (Nat.le_of_ble_eq_true rfl) rfl ?_
            refine ev_goto dX4_bestSet_158 (t := 45) rfl ?_
            exact ev_sub (lsub_c (lsub_c (lsub_c (lsub_c (lsub_c (lsub_c (lsub_c (lsub_c (lsub_c (lsub_c (lsub_n (lsub_c (lsub_n (lsub_c lsub_nil)))))))))))))) (ih w8 w9 w10 v26 m18 h)
set_option maxRecDepth 100000 in
set_option maxHeartbeats 8000000 in
theorem X4_bestSet_ca {S : Sc} {d : Nat} {a1 : Int32} {a2 : Int32} {mem : Mm} {rr : Int32} {mr : Mm} {Q : Po}  (h : X4_bestSet 35 a1 a2 mem = some (rr, mr)) (q : Q (some (.int rr)) mr) : Ca S (d + 6) 164 [.ref 35, .int a1, .int a2] mem Q := by
  unfold X4_bestSet at h
  refine ca_in (by decide) mt_X4_bestSet (Nat.le_of_ble_eq_true rfl) ?_
  show Ev S (d + 5) 4 cX4_bestSet (some .int) 0 [some (.ref 35), some (.int a1), some (.int a2), none, none, none, none, none, none, none, none, none, none, none] [] mem Q
  refine ev_iload_n dX4_bestSet_0 (pc' := 1) rfl rfl ?_
  refine ev_invS dX4_bestSet_1 (pc' := 4) rfl sq_4_128 mt_X4_wrongYears rfl ⟨_, rfl, Nat.le_of_ble_eq_true rfl, Nat.le_of_ble_eq_true rfl, rfl, rfl⟩ ?_
  refine X4_wrongYears_ca  rfl ?_
  refine ev_r1 ?_
  refine ev_topi (fun v1 e_v1 => ?_)
  replace h := nm_at e_v1 h
  refine ev_istore_n dX4_bestSet_4 (pc' := 5) (ls' := [some (.ref 35), some (.int a1), some (.int a2), some (.int v1), none, none, none, none, none, none, none, none, none, none]) rfl (Nat.le_of_ble_eq_true rfl) rfl ?_
  refine ev_iload_n dX4_bestSet_5 (pc' := 6) rfl rfl ?_
  refine ev_if_ne dX4_bestSet_6 (pc' := 9) rfl (t := 21) rfl (fun c2 => ?_) (fun c2 => ?_)
  · replace h := it_f c2 h
    refine ev_iload_n dX4_bestSet_21 (pc' := 22) rfl rfl ?_
    refine ev_if_eq dX4_bestSet_22 (pc' := 25) rfl (t := 31) rfl (fun q => absurd q c2) (fun _ => ?_)
    refine ev_aload_n dX4_bestSet_25 (pc' := 26) rfl rfl ?_
    refine ev_iload_n dX4_bestSet_26 (pc' := 27) rfl rfl ?_
    obtain ⟨y46, m47, x_y46, h⟩ := ob2_of h
    refine ev_invV dX4_bestSet_27 (pc' := 30) rfl sq_4_36 mt_X4_no rfl (arecv_ob (x := 35) rfl rfl (by decide) kn_35) ⟨_, rfl, Nat.le_of_ble_eq_true rfl, Nat.le_of_ble_eq_true rfl, rfl, rfl⟩ ?_
    refine X4_no_ca  x_y46 ?_
    refine ev_r1 ?_
    obtain ⟨rfl, rfl⟩ := rt2 h
    exact ev_ireturn dX4_bestSet_30 rfl q
  · replace h := it_t c2 h
    refine ev_iload_n dX4_bestSet_9 (pc' := 10) rfl rfl ?_
    refine ev_iconst dX4_bestSet_10 (pc' := 11) (v := 0) rfl (by decide) ?_
    refine ev_iconst dX4_bestSet_11 (pc' := 12) (v := 1) rfl (by decide) ?_
    refine ev_invS dX4_bestSet_12 (pc' := 15) rfl sq_4_40 mt_X4_isIn rfl ⟨_, rfl, Nat.le_of_ble_eq_true rfl, Nat.le_of_ble_eq_true rfl, rfl, rfl⟩ ?_
    refine X4_isIn_ca  rfl ?_
    refine ev_r1 ?_
    refine ev_if_ne dX4_bestSet_15 (pc' := 18) rfl (t := 21) rfl (fun c3 => ?_) (fun c3 => ?_)
    · replace h := it_f c3 h
      refine ev_iload_n dX4_bestSet_21 (pc' := 22) rfl rfl ?_
      refine ev_if_eq dX4_bestSet_22 (pc' := 25) rfl (t := 31) rfl (fun _ => ?_) (fun q => absurd c2 q)
      refine ev_iload_n dX4_bestSet_31 (pc' := 32) rfl rfl ?_
      refine ev_istore dX4_bestSet_32 (pc' := 34) (ls' := [some (.ref 35), some (.int a1), some (.int a2), some (.int v1), some (.int a2), none, none, none, none, none, none, none, none, none]) rfl (Nat.le_of_ble_eq_true rfl) rfl ?_
      refine ev_ldc2 dX4_bestSet_34 (pc' := 37) rfl lq_4_168 ?_
      refine ev_lstore dX4_bestSet_37 (pc' := 39) (ls' := [some (.ref 35), some (.int a1), some (.int a2), some (.int v1), some (.int a2), some (.long (-1)), none, none, none, none, none, none, none, none]) rfl (Nat.le_of_ble_eq_true rfl) rfl ?_
      refine ev_lconst dX4_bestSet_39 (pc' := 40) (v := 1) rfl (by decide) ?_
      refine ev_lstore dX4_bestSet_40 (pc' := 42) (ls' := [some (.ref 35), some (.int a1), some (.int a2), some (.int v1), some (.int a2), some (.long (-1)), none, some (.long 1), none, none, none, none, none, none]) rfl (Nat.le_of_ble_eq_true rfl) rfl ?_
      refine ev_iload_n dX4_bestSet_42 (pc' := 43) rfl rfl ?_
      refine ev_istore dX4_bestSet_43 (pc' := 45) (ls' := [some (.ref 35), some (.int a1), some (.int a2), some (.int v1), some (.int a2), some (.long (-1)), none, some (.long 1), none, some (.int a2), none, none, none, none]) rfl (Nat.le_of_ble_eq_true rfl) rfl ?_
      exact ev_sub (lsub_c (lsub_c (lsub_c (lsub_n (lsub_c (lsub_c (lsub_c (lsub_c (lsub_c (lsub_c (lsub_c (lsub_c (lsub_c (lsub_c lsub_nil)))))))))))))) (X4_bestSet_L45_ev  q LF a2 (-1) 1 a2 mem h)
    · replace h := it_t c3 h
      refine ev_bipush dX4_bestSet_18 (pc' := 20) (v := (-2)) rfl (by decide) ?_
      refine ev_istore_n dX4_bestSet_20 (pc' := 21) (ls' := [some (.ref 35), some (.int a1), some (.int a2), some (.int (-2)), none, none, none, none, none, none, none, none, none, none]) rfl (Nat.le_of_ble_eq_true rfl) rfl ?_
      refine ev_iload_n dX4_bestSet_21 (pc' := 22) rfl rfl ?_
      refine ev_if_eq dX4_bestSet_22 (pc' := 25) rfl (t := 31) rfl (fun q => absurd q (by decide)) (fun _ => ?_)
      refine ev_aload_n dX4_bestSet_25 (pc' := 26) rfl rfl ?_
      refine ev_iload_n dX4_bestSet_26 (pc' := 27) rfl rfl ?_
      obtain ⟨y4, m5, x_y4, h⟩ := ob2_of h
      refine ev_invV dX4_bestSet_27 (pc' := 30) rfl sq_4_36 mt_X4_no rfl (arecv_ob (x := 35) rfl rfl (by decide) kn_35) ⟨_, rfl, Nat.le_of_ble_eq_true rfl, Nat.le_of_ble_eq_true rfl, rfl, rfl⟩ ?_
      refine X4_no_ca  x_y4 ?_
      refine ev_r1 ?_
      obtain ⟨rfl, rfl⟩ := rt2 h
      exact ev_ireturn dX4_bestSet_30 rfl q
def X4_iron_L36  (a5 : Int32) : Nat → Int32 → Int32 → Int32 → Mm → Option (Int32 × Mm)
  | 0, _, _, _, _ => none
  | n + 1, w6, w7, w8, m9 => if (m9 36 0) ≤ w8 then (some (w7, m9)) else (ob (X4_lays 36 37 m9) (fun m11 => gd (vin (X4_at w8 0) 47) (nm (mset m11 37 ((X4_at w8 0)).toNatClampNeg 3) (fun m13 => ob (X4_yearsOn 35 37 a5 m13) (fun m14 => ob (X4_sumOf 37 2 m14) (fun y15 => if w6 < y15 then (nm (w8 + 1) (fun v17 => X4_iron_L36 a5 n y15 w8 v17 m14)) else (nm (w8 + 1) (fun v18 => X4_iron_L36 a5 n w6 w7 v18 m14))))))))
def X4_iron (_o : Nat) (a1 : Int32) (mem : Mm) : Option (Int32 × Mm) := nm (X4_wrongYears a1) (fun v1 => if v1 = 0 then (ob (X4_inMind 35 a1 mem) (fun m3 => ob (X4_sumOf 37 2 m3) (fun y4 => X4_iron_L36 a1 LF y4 (-9) 0 m3))) else (ob2 (X4_no 35 v1 mem) (fun y19 m20 => some (y19, m20))))
set_option maxRecDepth 100000 in
set_option maxHeartbeats 8000000 in
theorem X4_iron_L36_ev {S : Sc} {d : Nat}  {a5 : Int32} {rr : Int32} {mr : Mm} {Q : Po}  (q : Q (some (.int rr)) mr) : ∀ (n : Nat) (w6 : Int32) (w7 : Int32) (w8 : Int32) (m9 : Mm), X4_iron_L36 a5 n w6 w7 w8 m9 = some (rr, mr) → Ev S (d + 6) 4 cX4_iron (some .int) 36 [some (.ref 35), some (.int a5), none, some (.int w6), some (.int w7), some (.int w8), none] [] m9 Q := by
  intro n
  induction n with
  | zero => intro w6 w7 w8 m9 h; cases h
  | succ n ih =>
    intro w6 w7 w8 m9 h
    unfold X4_iron_L36 at h
    refine ev_iload dX4_iron_36 (pc' := 38) rfl rfl ?_
    refine ev_aload_n dX4_iron_38 (pc' := 39) rfl rfl ?_
    refine ev_getR (y := 36) dX4_iron_39 (pc' := 42) rfl fq_4_9 kn_35 rfl ?_
    refine ev_iconst dX4_iron_42 (pc' := 43) (v := 0) rfl (by decide) ?_
    refine ev_ialdK (k0 := 0) dX4_iron_43 (pc' := 44) rfl kn_36 (by decide) rfl ?_
    refine ev_icmp_ge dX4_iron_44 (pc' := 47) rfl (t := 111) rfl (fun c10 => ?_) (fun c10 => ?_)
    · replace h := it_t c10 h
      refine ev_iload dX4_iron_111 (pc' := 113) rfl rfl ?_
      obtain ⟨rfl, rfl⟩ := rt2 h
      exact ev_ireturn dX4_iron_113 rfl q
    · replace h := it_f c10 h
      refine ev_aload_n dX4_iron_47 (pc' := 48) rfl rfl ?_
      refine ev_getR (y := 36) dX4_iron_48 (pc' := 51) rfl fq_4_9 kn_35 rfl ?_
      refine ev_aload_n dX4_iron_51 (pc' := 52) rfl rfl ?_
      refine ev_getR (y := 37) dX4_iron_52 (pc' := 55) rfl fq_4_13 kn_35 rfl ?_
      obtain ⟨m11, x_m11, h⟩ := ob_of h
      refine ev_invS dX4_iron_55 (pc' := 58) rfl sq_4_78 mt_X4_lays rfl ⟨_, rfl, Nat.le_of_ble_eq_true rfl, Nat.le_of_ble_eq_true rfl, rfl, rfl⟩ ?_
      refine X4_lays_ca kn_36 rfl kn_37 rfl x_m11 ?_
      refine ev_r0 ?_
      refine ev_aload_n dX4_iron_58 (pc' := 59) rfl rfl ?_
      refine ev_getR (y := 37) dX4_iron_59 (pc' := 62) rfl fq_4_13 kn_35 rfl ?_
      refine ev_iload dX4_iron_62 (pc' := 64) rfl rfl ?_
      refine ev_iconst dX4_iron_64 (pc' := 65) (v := 0) rfl (by decide) ?_
      refine ev_invS dX4_iron_65 (pc' := 68) rfl sq_4_44 mt_X4_at rfl ⟨_, rfl, Nat.le_of_ble_eq_true rfl, Nat.le_of_ble_eq_true rfl, rfl, rfl⟩ ?_
      refine X4_at_ca  rfl ?_
      refine ev_r1 ?_
      refine ev_iconst dX4_iron_68 (pc' := 69) (v := 3) rfl (by decide) ?_
      obtain ⟨g12, h⟩ := gd_of h
      refine ev_iastK (k0 := ((X4_at w8 0)).toNatClampNeg) dX4_iron_69 (pc' := 70) rfl kn_37 g12 rfl ?_
      refine ev_topm (fun m13 e_m13 => ?_)
      replace h := nm_at e_m13 h
      refine ev_aload_n dX4_iron_70 (pc' := 71) rfl rfl ?_
      refine ev_aload_n dX4_iron_71 (pc' := 72) rfl rfl ?_
      refine ev_getR (y := 37) dX4_iron_72 (pc' := 75) rfl fq_4_13 kn_35 rfl ?_
      refine ev_iload_n dX4_iron_75 (pc' := 76) rfl rfl ?_
      obtain ⟨m14, x_m14, h⟩ := ob_of h
      refine ev_invV dX4_iron_76 (pc' := 79) rfl sq_4_82 mt_X4_yearsOn rfl (arecv_ob (x := 35) rfl rfl (by decide) kn_35) ⟨_, rfl, Nat.le_of_ble_eq_true rfl, Nat.le_of_ble_eq_true rfl, rfl, rfl⟩ ?_
      refine X4_yearsOn_ca kn_37 rfl x_m14 ?_
      refine ev_r0 ?_
      refine ev_aload_n dX4_iron_79 (pc' := 80) rfl rfl ?_
      refine ev_getR (y := 37) dX4_iron_80 (pc' := 83) rfl fq_4_13 kn_35 rfl ?_
      refine ev_iconst dX4_iron_83 (pc' := 84) (v := 2) rfl (by decide) ?_
      obtain ⟨y15, x_y15, h⟩ := ob_of h
      refine ev_invS dX4_iron_84 (pc' := 87) rfl sq_4_135 mt_X4_sumOf rfl ⟨_, rfl, Nat.le_of_ble_eq_true rfl, Nat.le_of_ble_eq_true rfl, rfl, rfl⟩ ?_
      refine X4_sumOf_ca kn_37 rfl x_y15 ?_
      refine ev_r1 ?_
      refine ev_istore dX4_iron_87 (pc' := 89) (ls' := [some (.ref 35), some (.int a5), none, some (.int w6), some (.int w7), some (.int w8), some (.int y15)]) rfl (Nat.le_of_ble_eq_true rfl) rfl ?_
      refine ev_iload dX4_iron_89 (pc' := 91) rfl rfl ?_
      refine ev_iload_n dX4_iron_91 (pc' := 92) rfl rfl ?_
      refine ev_icmp_gt dX4_iron_92 (pc' := 95) rfl (t := 98) rfl (fun c16 => ?_) (fun c16 => ?_)
      · replace h := it_t c16 h
        refine ev_iload dX4_iron_98 (pc' := 100) rfl rfl ?_
        refine ev_istore dX4_iron_100 (pc' := 102) (ls' := [some (.ref 35), some (.int a5), none, some (.int w6), some (.int w8), some (.int w8), some (.int y15)]) rfl (Nat.le_of_ble_eq_true rfl) rfl ?_
        refine ev_iload dX4_iron_102 (pc' := 104) rfl rfl ?_
        refine ev_istore_n dX4_iron_104 (pc' := 105) (ls' := [some (.ref 35), some (.int a5), none, some (.int y15), some (.int w8), some (.int w8), some (.int y15)]) rfl (Nat.le_of_ble_eq_true rfl) rfl ?_
        obtain ⟨v17, e_v17⟩ : ∃ y : Int32, y = (w8 + 1) := ⟨_, rfl⟩
        replace h := nm_at e_v17 h
        refine ev_iinc dX4_iron_105 (pc' := 108) (v := v17) (ls' := [some (.ref 35), some (.int a5), none, some (.int y15), some (.int w8), some (.int v17), some (.int y15)]) rfl rfl (by rw [e_v17]; rfl) (Nat.le_of_ble_eq_true rfl) rfl ?_
        refine ev_goto dX4_iron_108 (t := 36) rfl ?_
        exact ev_sub (lsub_c (lsub_c (lsub_c (lsub_c (lsub_c (lsub_c (lsub_n lsub_nil))))))) (ih y15 w8 v17 m14 h)
      · replace h := it_f c16 h
        refine ev_goto dX4_iron_95 (t := 105) rfl ?_
        obtain ⟨v18, e_v18⟩ : ∃ y : Int32, y = (w8 + 1) := ⟨_, rfl⟩
        replace h := nm_at e_v18 h
        refine ev_iinc dX4_iron_105 (pc' := 108) (v := v18) (ls' := [some (.ref 35), some (.int a5), none, some (.int w6), some (.int w7), some (.int v18), some (.int y15)]) rfl rfl (by rw [e_v18]; rfl) (Nat.le_of_ble_eq_true rfl) rfl ?_
        refine ev_goto dX4_iron_108 (t := 36) rfl ?_
        exact ev_sub (lsub_c (lsub_c (lsub_c (lsub_c (lsub_c (lsub_c (lsub_n lsub_nil))))))) (ih w6 w7 v18 m14 h)
set_option maxRecDepth 100000 in
set_option maxHeartbeats 8000000 in
theorem X4_iron_ca {S : Sc} {d : Nat} {a1 : Int32} {mem : Mm} {rr : Int32} {mr : Mm} {Q : Po}  (h : X4_iron 35 a1 mem = some (rr, mr)) (q : Q (some (.int rr)) mr) : Ca S (d + 7) 165 [.ref 35, .int a1] mem Q := by
  unfold X4_iron at h
  refine ca_in (by decide) mt_X4_iron (Nat.le_of_ble_eq_true rfl) ?_
  show Ev S (d + 6) 4 cX4_iron (some .int) 0 [some (.ref 35), some (.int a1), none, none, none, none, none] [] mem Q
  refine ev_iload_n dX4_iron_0 (pc' := 1) rfl rfl ?_
  refine ev_invS dX4_iron_1 (pc' := 4) rfl sq_4_128 mt_X4_wrongYears rfl ⟨_, rfl, Nat.le_of_ble_eq_true rfl, Nat.le_of_ble_eq_true rfl, rfl, rfl⟩ ?_
  refine X4_wrongYears_ca  rfl ?_
  refine ev_r1 ?_
  refine ev_topi (fun v1 e_v1 => ?_)
  replace h := nm_at e_v1 h
  refine ev_istore_n dX4_iron_4 (pc' := 5) (ls' := [some (.ref 35), some (.int a1), some (.int v1), none, none, none, none]) rfl (Nat.le_of_ble_eq_true rfl) rfl ?_
  refine ev_iload_n dX4_iron_5 (pc' := 6) rfl rfl ?_
  refine ev_if_eq dX4_iron_6 (pc' := 9) rfl (t := 15) rfl (fun c2 => ?_) (fun c2 => ?_)
  · replace h := it_t c2 h
    refine ev_aload_n dX4_iron_15 (pc' := 16) rfl rfl ?_
    refine ev_iload_n dX4_iron_16 (pc' := 17) rfl rfl ?_
    obtain ⟨m3, x_m3, h⟩ := ob_of h
    refine ev_invV dX4_iron_17 (pc' := 20) rfl sq_4_131 mt_X4_inMind rfl (arecv_ob (x := 35) rfl rfl (by decide) kn_35) ⟨_, rfl, Nat.le_of_ble_eq_true rfl, Nat.le_of_ble_eq_true rfl, rfl, rfl⟩ ?_
    refine X4_inMind_ca  x_m3 ?_
    refine ev_r0 ?_
    refine ev_aload_n dX4_iron_20 (pc' := 21) rfl rfl ?_
    refine ev_getR (y := 37) dX4_iron_21 (pc' := 24) rfl fq_4_13 kn_35 rfl ?_
    refine ev_iconst dX4_iron_24 (pc' := 25) (v := 2) rfl (by decide) ?_
    obtain ⟨y4, x_y4, h⟩ := ob_of h
    refine ev_invS dX4_iron_25 (pc' := 28) rfl sq_4_135 mt_X4_sumOf rfl ⟨_, rfl, Nat.le_of_ble_eq_true rfl, Nat.le_of_ble_eq_true rfl, rfl, rfl⟩ ?_
    refine X4_sumOf_ca kn_37 rfl x_y4 ?_
    refine ev_r1 ?_
    refine ev_istore_n dX4_iron_28 (pc' := 29) (ls' := [some (.ref 35), some (.int a1), some (.int v1), some (.int y4), none, none, none]) rfl (Nat.le_of_ble_eq_true rfl) rfl ?_
    refine ev_bipush dX4_iron_29 (pc' := 31) (v := (-9)) rfl (by decide) ?_
    refine ev_istore dX4_iron_31 (pc' := 33) (ls' := [some (.ref 35), some (.int a1), some (.int v1), some (.int y4), some (.int (-9)), none, none]) rfl (Nat.le_of_ble_eq_true rfl) rfl ?_
    refine ev_iconst dX4_iron_33 (pc' := 34) (v := 0) rfl (by decide) ?_
    refine ev_istore dX4_iron_34 (pc' := 36) (ls' := [some (.ref 35), some (.int a1), some (.int v1), some (.int y4), some (.int (-9)), some (.int 0), none]) rfl (Nat.le_of_ble_eq_true rfl) rfl ?_
    exact ev_sub (lsub_c (lsub_c (lsub_n (lsub_c (lsub_c (lsub_c (lsub_c lsub_nil))))))) (X4_iron_L36_ev  q LF y4 (-9) 0 m3 h)
  · replace h := it_f c2 h
    refine ev_aload_n dX4_iron_9 (pc' := 10) rfl rfl ?_
    refine ev_iload_n dX4_iron_10 (pc' := 11) rfl rfl ?_
    obtain ⟨y19, m20, x_y19, h⟩ := ob2_of h
    refine ev_invV dX4_iron_11 (pc' := 14) rfl sq_4_36 mt_X4_no rfl (arecv_ob (x := 35) rfl rfl (by decide) kn_35) ⟨_, rfl, Nat.le_of_ble_eq_true rfl, Nat.le_of_ble_eq_true rfl, rfl, rfl⟩ ?_
    refine X4_no_ca  x_y19 ?_
    refine ev_r1 ?_
    obtain ⟨rfl, rfl⟩ := rt2 h
    exact ev_ireturn dX4_iron_14 rfl q
def X4_row (_o : Nat) (a1 : Int32) (mem : Mm) : Option (Int32 × Mm) := if 0 ≤ a1 then (if 99 < a1 then (ob2 (X4_no 35 (-6) mem) (fun y3 m4 => some (y3, m4))) else (if (mem 35 9) = 12 then (ob2 (X4_no 35 (-6) mem) (fun y6 m7 => some (y6, m7))) else (gd (vin (mem 35 9) 12) (nm (mset mem 41 ((mem 35 9)).toNatClampNeg a1) (fun m9 => nm (mset m9 35 9 ((m9 35 9) + 1)) (fun m10 => some ((m10 35 9), m10))))))) else (ob2 (X4_no 35 (-4) mem) (fun y11 m12 => some (y11, m12)))
set_option maxRecDepth 100000 in
set_option maxHeartbeats 8000000 in
theorem X4_row_ca {S : Sc} {d : Nat} {a1 : Int32} {mem : Mm} {rr : Int32} {mr : Mm} {Q : Po}  (h : X4_row 35 a1 mem = some (rr, mr)) (q : Q (some (.int rr)) mr) : Ca S (d + 2) 166 [.ref 35, .int a1] mem Q := by
  unfold X4_row at h
  refine ca_in (by decide) mt_X4_row (Nat.le_of_ble_eq_true rfl) ?_
  show Ev S (d + 1) 4 cX4_row (some .int) 0 [some (.ref 35), some (.int a1)] [] mem Q
  refine ev_iload_n dX4_row_0 (pc' := 1) rfl rfl ?_
  refine ev_if_ge dX4_row_1 (pc' := 4) rfl (t := 11) rfl (fun c1 => ?_) (fun c1 => ?_)
  · replace h := it_t c1 h
    refine ev_iload_n dX4_row_11 (pc' := 12) rfl rfl ?_
    refine ev_bipush dX4_row_12 (pc' := 14) (v := 99) rfl (by decide) ?_
    refine ev_icmp_gt dX4_row_14 (pc' := 17) rfl (t := 26) rfl (fun c2 => ?_) (fun c2 => ?_)
    · replace h := it_t c2 h
      refine ev_aload_n dX4_row_26 (pc' := 27) rfl rfl ?_
      refine ev_bipush dX4_row_27 (pc' := 29) (v := (-6)) rfl (by decide) ?_
      obtain ⟨y3, m4, x_y3, h⟩ := ob2_of h
      refine ev_invV dX4_row_29 (pc' := 32) rfl sq_4_36 mt_X4_no rfl (arecv_ob (x := 35) rfl rfl (by decide) kn_35) ⟨_, rfl, Nat.le_of_ble_eq_true rfl, Nat.le_of_ble_eq_true rfl, rfl, rfl⟩ ?_
      refine X4_no_ca  x_y3 ?_
      refine ev_r1 ?_
      obtain ⟨rfl, rfl⟩ := rt2 h
      exact ev_ireturn dX4_row_32 rfl q
    · replace h := it_f c2 h
      refine ev_aload_n dX4_row_17 (pc' := 18) rfl rfl ?_
      refine ev_get dX4_row_18 (pc' := 21) rfl fq_4_170 kn_35 rfl ?_
      refine ev_bipush dX4_row_21 (pc' := 23) (v := 12) rfl (by decide) ?_
      refine ev_icmp_ne dX4_row_23 (pc' := 26) rfl (t := 33) rfl (fun c5 => ?_) (fun c5 => ?_)
      · replace h := it_f c5 h
        refine ev_aload_n dX4_row_33 (pc' := 34) rfl rfl ?_
        refine ev_getR (y := 41) dX4_row_34 (pc' := 37) rfl fq_4_25 kn_35 rfl ?_
        refine ev_aload_n dX4_row_37 (pc' := 38) rfl rfl ?_
        refine ev_get dX4_row_38 (pc' := 41) rfl fq_4_170 kn_35 rfl ?_
        refine ev_iload_n dX4_row_41 (pc' := 42) rfl rfl ?_
        obtain ⟨g8, h⟩ := gd_of h
        refine ev_iastK (k0 := ((mem 35 9)).toNatClampNeg) dX4_row_42 (pc' := 43) rfl kn_41 g8 rfl ?_
        refine ev_topm (fun m9 e_m9 => ?_)
        replace h := nm_at e_m9 h
        refine ev_aload_n dX4_row_43 (pc' := 44) rfl rfl ?_
        refine ev_dup dX4_row_44 (pc' := 45) rfl rfl ?_
        refine ev_get dX4_row_45 (pc' := 48) rfl fq_4_170 kn_35 rfl ?_
        refine ev_iconst dX4_row_48 (pc' := 49) (v := 1) rfl (by decide) ?_
        refine ev_iadd dX4_row_49 (pc' := 50) rfl ?_
        refine ev_put dX4_row_50 (pc' := 53) rfl fq_4_170 kn_35 rfl (Or.inl (by decide)) ?_
        refine ev_topm (fun m10 e_m10 => ?_)
        replace h := nm_at e_m10 h
        refine ev_aload_n dX4_row_53 (pc' := 54) rfl rfl ?_
        refine ev_get dX4_row_54 (pc' := 57) rfl fq_4_170 kn_35 rfl ?_
        obtain ⟨rfl, rfl⟩ := rt2 h
        exact ev_ireturn dX4_row_57 rfl q
      · replace h := it_t c5 h
        refine ev_aload_n dX4_row_26 (pc' := 27) rfl rfl ?_
        refine ev_bipush dX4_row_27 (pc' := 29) (v := (-6)) rfl (by decide) ?_
        obtain ⟨y6, m7, x_y6, h⟩ := ob2_of h
        refine ev_invV dX4_row_29 (pc' := 32) rfl sq_4_36 mt_X4_no rfl (arecv_ob (x := 35) rfl rfl (by decide) kn_35) ⟨_, rfl, Nat.le_of_ble_eq_true rfl, Nat.le_of_ble_eq_true rfl, rfl, rfl⟩ ?_
        refine X4_no_ca  x_y6 ?_
        refine ev_r1 ?_
        obtain ⟨rfl, rfl⟩ := rt2 h
        exact ev_ireturn dX4_row_32 rfl q
  · replace h := it_f c1 h
    refine ev_aload_n dX4_row_4 (pc' := 5) rfl rfl ?_
    refine ev_bipush dX4_row_5 (pc' := 7) (v := (-4)) rfl (by decide) ?_
    obtain ⟨y11, m12, x_y11, h⟩ := ob2_of h
    refine ev_invV dX4_row_7 (pc' := 10) rfl sq_4_36 mt_X4_no rfl (arecv_ob (x := 35) rfl rfl (by decide) kn_35) ⟨_, rfl, Nat.le_of_ble_eq_true rfl, Nat.le_of_ble_eq_true rfl, rfl, rfl⟩ ?_
    refine X4_no_ca  x_y11 ?_
    refine ev_r1 ?_
    obtain ⟨rfl, rfl⟩ := rt2 h
    exact ev_ireturn dX4_row_10 rfl q
def X4_firstWrong_L2  (a1 : Int32) (a2 : Int32) : Nat → Int32 → Mm → Option (Int32 × Mm)
  | 0, _, _ => none
  | n + 1, w3, m4 => if a2 ≤ w3 then (some ((-9), m4)) else (if w3 ≤ 0 then (gd (vin (X4_at a1 2) 47) (gd (vin w3 12) (if (X4_least 99 (m4 37 ((X4_at a1 2)).toNatClampNeg)) = (m4 41 (w3).toNatClampNeg) then (nm (w3 + 1) (fun v10 => X4_firstWrong_L2 a1 a2 n v10 m4)) else (some (w3, m4))))) else (ob (X4_year 35 37 m4) (fun m11 => gd (vin (X4_at a1 2) 47) (gd (vin w3 12) (if (X4_least 99 (m11 37 ((X4_at a1 2)).toNatClampNeg)) = (m11 41 (w3).toNatClampNeg) then (nm (w3 + 1) (fun v15 => X4_firstWrong_L2 a1 a2 n v15 m11)) else (some (w3, m11)))))))
def X4_firstWrong (_o : Nat) (a1 : Int32) (a2 : Int32) (mem : Mm) : Option (Int32 × Mm) := X4_firstWrong_L2 a1 a2 LF 0 mem
set_option maxRecDepth 100000 in
set_option maxHeartbeats 8000000 in
theorem X4_firstWrong_L2_ev {S : Sc} {d : Nat}  {a1 : Int32} {a2 : Int32} {rr : Int32} {mr : Mm} {Q : Po}  (q : Q (some (.int rr)) mr) : ∀ (n : Nat) (w3 : Int32) (m4 : Mm), X4_firstWrong_L2 a1 a2 n w3 m4 = some (rr, mr) → Ev S (d + 4) 4 cX4_firstWrong (some .int) 2 [some (.ref 35), some (.int a1), some (.int a2), some (.int w3)] [] m4 Q := by
  intro n
  induction n with
  | zero => intro w3 m4 h; cases h
  | succ n ih =>
    intro w3 m4 h
    unfold X4_firstWrong_L2 at h
    refine ev_iload_n dX4_firstWrong_2 (pc' := 3) rfl rfl ?_
    refine ev_iload_n dX4_firstWrong_3 (pc' := 4) rfl rfl ?_
    refine ev_icmp_ge dX4_firstWrong_4 (pc' := 7) rfl (t := 51) rfl (fun c5 => ?_) (fun c5 => ?_)
    · replace h := it_t c5 h
      refine ev_bipush dX4_firstWrong_51 (pc' := 53) (v := (-9)) rfl (by decide) ?_
      obtain ⟨rfl, rfl⟩ := rt2 h
      exact ev_ireturn dX4_firstWrong_53 rfl q
    · replace h := it_f c5 h
      refine ev_iload_n dX4_firstWrong_7 (pc' := 8) rfl rfl ?_
      refine ev_if_le dX4_firstWrong_8 (pc' := 11) rfl (t := 19) rfl (fun c6 => ?_) (fun c6 => ?_)
      · replace h := it_t c6 h
        refine ev_bipush dX4_firstWrong_19 (pc' := 21) (v := 99) rfl (by decide) ?_
        refine ev_aload_n dX4_firstWrong_21 (pc' := 22) rfl rfl ?_
        refine ev_getR (y := 37) dX4_firstWrong_22 (pc' := 25) rfl fq_4_13 kn_35 rfl ?_
        refine ev_iload_n dX4_firstWrong_25 (pc' := 26) rfl rfl ?_
        refine ev_iconst dX4_firstWrong_26 (pc' := 27) (v := 2) rfl (by decide) ?_
        refine ev_invS dX4_firstWrong_27 (pc' := 30) rfl sq_4_44 mt_X4_at rfl ⟨_, rfl, Nat.le_of_ble_eq_true rfl, Nat.le_of_ble_eq_true rfl, rfl, rfl⟩ ?_
        refine X4_at_ca  rfl ?_
        refine ev_r1 ?_
        obtain ⟨g7, h⟩ := gd_of h
        refine ev_ialdK (k0 := ((X4_at a1 2)).toNatClampNeg) dX4_firstWrong_30 (pc' := 31) rfl kn_37 g7 rfl ?_
        refine ev_invS dX4_firstWrong_31 (pc' := 34) rfl sq_4_48 mt_X4_least rfl ⟨_, rfl, Nat.le_of_ble_eq_true rfl, Nat.le_of_ble_eq_true rfl, rfl, rfl⟩ ?_
        refine X4_least_ca  rfl ?_
        refine ev_r1 ?_
        refine ev_aload_n dX4_firstWrong_34 (pc' := 35) rfl rfl ?_
        refine ev_getR (y := 41) dX4_firstWrong_35 (pc' := 38) rfl fq_4_25 kn_35 rfl ?_
        refine ev_iload_n dX4_firstWrong_38 (pc' := 39) rfl rfl ?_
        obtain ⟨g8, h⟩ := gd_of h
        refine ev_ialdK (k0 := (w3).toNatClampNeg) dX4_firstWrong_39 (pc' := 40) rfl kn_41 g8 rfl ?_
        refine ev_icmp_eq dX4_firstWrong_40 (pc' := 43) rfl (t := 45) rfl (fun c9 => ?_) (fun c9 => ?_)
        · replace h := it_t c9 h
          obtain ⟨v10, e_v10⟩ : ∃ y : Int32, y = (w3 + 1) := ⟨_, rfl⟩
          replace h := nm_at e_v10 h
          refine ev_iinc dX4_firstWrong_45 (pc' := 48) (v := v10) (ls' := [some (.ref 35), some (.int a1), some (.int a2), some (.int v10)]) rfl rfl (by rw [e_v10]; rfl) (Nat.le_of_ble_eq_true rfl) rfl ?_
          refine ev_goto dX4_firstWrong_48 (t := 2) rfl ?_
          exact ev_sub (lsub_c (lsub_c (lsub_c (lsub_c lsub_nil)))) (ih v10 m4 h)
        · replace h := it_f c9 h
          refine ev_iload_n dX4_firstWrong_43 (pc' := 44) rfl rfl ?_
          obtain ⟨rfl, rfl⟩ := rt2 h
          exact ev_ireturn dX4_firstWrong_44 rfl q
      · replace h := it_f c6 h
        refine ev_aload_n dX4_firstWrong_11 (pc' := 12) rfl rfl ?_
        refine ev_aload_n dX4_firstWrong_12 (pc' := 13) rfl rfl ?_
        refine ev_getR (y := 37) dX4_firstWrong_13 (pc' := 16) rfl fq_4_13 kn_35 rfl ?_
        obtain ⟨m11, x_m11, h⟩ := ob_of h
        refine ev_invV dX4_firstWrong_16 (pc' := 19) rfl sq_4_74 mt_X4_year rfl (arecv_ob (x := 35) rfl rfl (by decide) kn_35) ⟨_, rfl, Nat.le_of_ble_eq_true rfl, Nat.le_of_ble_eq_true rfl, rfl, rfl⟩ ?_
        refine X4_year_ca kn_37 rfl x_m11 ?_
        refine ev_r0 ?_
        refine ev_bipush dX4_firstWrong_19 (pc' := 21) (v := 99) rfl (by decide) ?_
        refine ev_aload_n dX4_firstWrong_21 (pc' := 22) rfl rfl ?_
        refine ev_getR (y := 37) dX4_firstWrong_22 (pc' := 25) rfl fq_4_13 kn_35 rfl ?_
        refine ev_iload_n dX4_firstWrong_25 (pc' := 26) rfl rfl ?_
        refine ev_iconst dX4_firstWrong_26 (pc' := 27) (v := 2) rfl (by decide) ?_
        refine ev_invS dX4_firstWrong_27 (pc' := 30) rfl sq_4_44 mt_X4_at rfl ⟨_, rfl, Nat.le_of_ble_eq_true rfl, Nat.le_of_ble_eq_true rfl, rfl, rfl⟩ ?_
        refine X4_at_ca  rfl ?_
        refine ev_r1 ?_
        obtain ⟨g12, h⟩ := gd_of h
        refine ev_ialdK (k0 := ((X4_at a1 2)).toNatClampNeg) dX4_firstWrong_30 (pc' := 31) rfl kn_37 g12 rfl ?_
        refine ev_invS dX4_firstWrong_31 (pc' := 34) rfl sq_4_48 mt_X4_least rfl ⟨_, rfl, Nat.le_of_ble_eq_true rfl, Nat.le_of_ble_eq_true rfl, rfl, rfl⟩ ?_
        refine X4_least_ca  rfl ?_
        refine ev_r1 ?_
        refine ev_aload_n dX4_firstWrong_34 (pc' := 35) rfl rfl ?_
        refine ev_getR (y := 41) dX4_firstWrong_35 (pc' := 38) rfl fq_4_25 kn_35 rfl ?_
        refine ev_iload_n dX4_firstWrong_38 (pc' := 39) rfl rfl ?_
        obtain ⟨g13, h⟩ := gd_of h
        refine ev_ialdK (k0 := (w3).toNatClampNeg) dX4_firstWrong_39 (pc' := 40) rfl kn_41 g13 rfl ?_
        refine ev_icmp_eq dX4_firstWrong_40 (pc' := 43) rfl (t := 45) rfl (fun c14 => ?_) (fun c14 => ?_)
        · replace h := it_t c14 h
          obtain ⟨v15, e_v15⟩ : ∃ y : Int32, y = (w3 + 1) := ⟨_, rfl⟩
          replace h := nm_at e_v15 h
          refine ev_iinc dX4_firstWrong_45 (pc' := 48) (v := v15) (ls' := [some (.ref 35), some (.int a1), some (.int a2), some (.int v15)]) rfl rfl (by rw [e_v15]; rfl) (Nat.le_of_ble_eq_true rfl) rfl ?_
          refine ev_goto dX4_firstWrong_48 (t := 2) rfl ?_
          exact ev_sub (lsub_c (lsub_c (lsub_c (lsub_c lsub_nil)))) (ih v15 m11 h)
        · replace h := it_f c14 h
          refine ev_iload_n dX4_firstWrong_43 (pc' := 44) rfl rfl ?_
          obtain ⟨rfl, rfl⟩ := rt2 h
          exact ev_ireturn dX4_firstWrong_44 rfl q
set_option maxRecDepth 100000 in
set_option maxHeartbeats 8000000 in
theorem X4_firstWrong_ca {S : Sc} {d : Nat} {a1 : Int32} {a2 : Int32} {mem : Mm} {rr : Int32} {mr : Mm} {Q : Po}  (h : X4_firstWrong 35 a1 a2 mem = some (rr, mr)) (q : Q (some (.int rr)) mr) : Ca S (d + 5) 167 [.ref 35, .int a1, .int a2] mem Q := by
  unfold X4_firstWrong at h
  refine ca_in (by decide) mt_X4_firstWrong (Nat.le_of_ble_eq_true rfl) ?_
  show Ev S (d + 4) 4 cX4_firstWrong (some .int) 0 [some (.ref 35), some (.int a1), some (.int a2), none] [] mem Q
  refine ev_iconst dX4_firstWrong_0 (pc' := 1) (v := 0) rfl (by decide) ?_
  refine ev_istore_n dX4_firstWrong_1 (pc' := 2) (ls' := [some (.ref 35), some (.int a1), some (.int a2), some (.int 0)]) rfl (Nat.le_of_ble_eq_true rfl) rfl ?_
  exact ev_sub (lsub_c (lsub_c (lsub_c (lsub_c lsub_nil)))) (X4_firstWrong_L2_ev  q LF 0 mem h)
