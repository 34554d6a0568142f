def X3_thinkTreaty (_o : Nat) (a1 : Int32) (a2 : Int32) (a3 : Int32) (mem : Mm) : Option Mm := ob (X2_become 11 1 mem) (fun m1 => if a2 = 0 then (nm2 (X2_choose 11 1 2 m1) (fun y3 m4 => if a3 = 0 then (nm2 (X2_choose 11 0 (m4 1 3) m4) (fun y6 m7 => ob (X2_goOn 11 a1 m7) (fun m8 => some m8))) else (nm2 (X2_choose 11 0 ((m4 1 3) / 2) m4) (fun y9 m10 => ob (X2_goOn 11 a1 m10) (fun m11 => some m11))))) else (nm2 (X2_choose 11 1 8 m1) (fun y12 m13 => if a3 = 0 then (nm2 (X2_choose 11 0 (m13 1 3) m13) (fun y15 m16 => ob (X2_goOn 11 a1 m16) (fun m17 => some m17))) else (nm2 (X2_choose 11 0 ((m13 1 3) / 2) m13) (fun y18 m19 => ob (X2_goOn 11 a1 m19) (fun m20 => some m20))))))
set_option maxRecDepth 100000 in
set_option maxHeartbeats 8000000 in
theorem X3_thinkTreaty_ca {S : Sc} {d : Nat} {a1 : Int32} {a2 : Int32} {a3 : Int32} {mem : Mm} {mr : Mm} {Q : Po}  (h : X3_thinkTreaty 0 a1 a2 a3 mem = some mr) (q : Q none mr) : Ca S (d + 5) 99 [.ref 0, .int a1, .int a2, .int a3] mem Q := by
  unfold X3_thinkTreaty at h
  refine ca_in (by decide) mt_X3_thinkTreaty (Nat.le_of_ble_eq_true rfl) ?_
  show Ev S (d + 4) 3 cX3_thinkTreaty none 0 [some (.ref 0), some (.int a1), some (.int a2), some (.int a3)] [] mem Q
  refine ev_aload_n dX3_thinkTreaty_0 (pc' := 1) rfl rfl ?_
  refine ev_getR (y := 11) dX3_thinkTreaty_1 (pc' := 4) rfl fq_3_16 kn_0 rfl ?_
  refine ev_aload_n dX3_thinkTreaty_4 (pc' := 5) rfl rfl ?_
  refine ev_getR (y := 1) dX3_thinkTreaty_5 (pc' := 8) rfl fq_3_10 kn_0 rfl ?_
  obtain ⟨m1, x_m1, h⟩ := ob_of h
  refine ev_invV dX3_thinkTreaty_8 (pc' := 11) rfl sq_3_151 mt_X2_become rfl (arecv_ob (x := 11) rfl rfl (by decide) kn_11) ⟨_, rfl, Nat.le_of_ble_eq_true rfl, Nat.le_of_ble_eq_true rfl, rfl, rfl⟩ ?_
  refine X2_become_ca kn_11 kn_1 x_m1 ?_
  refine ev_r0 ?_
  refine ev_aload_n dX3_thinkTreaty_11 (pc' := 12) rfl rfl ?_
  refine ev_getR (y := 11) dX3_thinkTreaty_12 (pc' := 15) rfl fq_3_16 kn_0 rfl ?_
  refine ev_iconst dX3_thinkTreaty_15 (pc' := 16) (v := 1) rfl (by decide) ?_
  refine ev_iload_n dX3_thinkTreaty_16 (pc' := 17) rfl rfl ?_
  refine ev_if_ne dX3_thinkTreaty_17 (pc' := 20) rfl (t := 24) rfl (fun c2 => ?_) (fun c2 => ?_)
  · replace h := it_f c2 h
    refine ev_bipush dX3_thinkTreaty_24 (pc' := 26) (v := 8) rfl (by decide) ?_
    obtain ⟨y12, m13, x_y12, h⟩ := nm2_of h
    refine ev_invV dX3_thinkTreaty_26 (pc' := 29) rfl sq_3_103 mt_X2_choose rfl (arecv_ob (x := 11) rfl rfl (by decide) kn_11) ⟨_, rfl, Nat.le_of_ble_eq_true rfl, Nat.le_of_ble_eq_true rfl, rfl, rfl⟩ ?_
    refine X2_choose_ca kn_11 x_y12 ?_
    refine ev_r1 ?_
    refine ev_pop dX3_thinkTreaty_29 (pc' := 30) rfl rfl ?_
    refine ev_aload_n dX3_thinkTreaty_30 (pc' := 31) rfl rfl ?_
    refine ev_getR (y := 11) dX3_thinkTreaty_31 (pc' := 34) rfl fq_3_16 kn_0 rfl ?_
    refine ev_iconst dX3_thinkTreaty_34 (pc' := 35) (v := 0) rfl (by decide) ?_
    refine ev_iload_n dX3_thinkTreaty_35 (pc' := 36) rfl rfl ?_
    refine ev_if_ne dX3_thinkTreaty_36 (pc' := 39) rfl (t := 49) rfl (fun c14 => ?_) (fun c14 => ?_)
    · replace h := it_f c14 h
      refine ev_aload_n dX3_thinkTreaty_49 (pc' := 50) rfl rfl ?_
      refine ev_getR (y := 1) dX3_thinkTreaty_50 (pc' := 53) rfl fq_3_10 kn_0 rfl ?_
      refine ev_get dX3_thinkTreaty_53 (pc' := 56) rfl fq_3_231 kn_1 rfl ?_
      refine ev_iconst dX3_thinkTreaty_56 (pc' := 57) (v := 2) rfl (by decide) ?_
      refine ev_idiv dX3_thinkTreaty_57 (pc' := 58) rfl (by decide) ?_
      obtain ⟨y18, m19, x_y18, h⟩ := nm2_of h
      refine ev_invV dX3_thinkTreaty_58 (pc' := 61) rfl sq_3_103 mt_X2_choose rfl (arecv_ob (x := 11) rfl rfl (by decide) kn_11) ⟨_, rfl, Nat.le_of_ble_eq_true rfl, Nat.le_of_ble_eq_true rfl, rfl, rfl⟩ ?_
      refine X2_choose_ca kn_11 x_y18 ?_
      refine ev_r1 ?_
      refine ev_pop dX3_thinkTreaty_61 (pc' := 62) rfl rfl ?_
      refine ev_aload_n dX3_thinkTreaty_62 (pc' := 63) rfl rfl ?_
      refine ev_getR (y := 11) dX3_thinkTreaty_63 (pc' := 66) rfl fq_3_16 kn_0 rfl ?_
      refine ev_iload_n dX3_thinkTreaty_66 (pc' := 67) rfl rfl ?_
      obtain ⟨m20, x_m20, h⟩ := ob_of h
      refine ev_invV dX3_thinkTreaty_67 (pc' := 70) rfl sq_3_155 mt_X2_goOn rfl (arecv_ob (x := 11) rfl rfl (by decide) kn_11) ⟨_, rfl, Nat.le_of_ble_eq_true rfl, Nat.le_of_ble_eq_true rfl, rfl, rfl⟩ ?_
      refine X2_goOn_ca kn_11 x_m20 ?_
      refine ev_r0 ?_
      obtain rfl := rt1 h
      exact ev_return dX3_thinkTreaty_70 rfl q
    · replace h := it_t c14 h
      refine ev_aload_n dX3_thinkTreaty_39 (pc' := 40) rfl rfl ?_
      refine ev_getR (y := 1) dX3_thinkTreaty_40 (pc' := 43) rfl fq_3_10 kn_0 rfl ?_
      refine ev_get dX3_thinkTreaty_43 (pc' := 46) rfl fq_3_231 kn_1 rfl ?_
      refine ev_goto dX3_thinkTreaty_46 (t := 58) rfl ?_
      obtain ⟨y15, m16, x_y15, h⟩ := nm2_of h
      refine ev_invV dX3_thinkTreaty_58 (pc' := 61) rfl sq_3_103 mt_X2_choose rfl (arecv_ob (x := 11) rfl rfl (by decide) kn_11) ⟨_, rfl, Nat.le_of_ble_eq_true rfl, Nat.le_of_ble_eq_true rfl, rfl, rfl⟩ ?_
      refine X2_choose_ca kn_11 x_y15 ?_
      refine ev_r1 ?_
      refine ev_pop dX3_thinkTreaty_61 (pc' := 62) rfl rfl ?_
      refine ev_aload_n dX3_thinkTreaty_62 (pc' := 63) rfl rfl ?_
      refine ev_getR (y := 11) dX3_thinkTreaty_63 (pc' := 66) rfl fq_3_16 kn_0 rfl ?_
      refine ev_iload_n dX3_thinkTreaty_66 (pc' := 67) rfl rfl ?_
      obtain ⟨m17, x_m17, h⟩ := ob_of h
      refine ev_invV dX3_thinkTreaty_67 (pc' := 70) rfl sq_3_155 mt_X2_goOn rfl (arecv_ob (x := 11) rfl rfl (by decide) kn_11) ⟨_, rfl, Nat.le_of_ble_eq_true rfl, Nat.le_of_ble_eq_true rfl, rfl, rfl⟩ ?_
      refine X2_goOn_ca kn_11 x_m17 ?_
      refine ev_r0 ?_
      obtain rfl := rt1 h
      exact ev_return dX3_thinkTreaty_70 rfl q
  · replace h := it_t c2 h
    refine ev_iconst dX3_thinkTreaty_20 (pc' := 21) (v := 2) rfl (by decide) ?_
    refine ev_goto dX3_thinkTreaty_21 (t := 26) rfl ?_
    obtain ⟨y3, m4, x_y3, h⟩ := nm2_of h
    refine ev_invV dX3_thinkTreaty_26 (pc' := 29) rfl sq_3_103 mt_X2_choose rfl (arecv_ob (x := 11) rfl rfl (by decide) kn_11) ⟨_, rfl, Nat.le_of_ble_eq_true rfl, Nat.le_of_ble_eq_true rfl, rfl, rfl⟩ ?_
    refine X2_choose_ca kn_11 x_y3 ?_
    refine ev_r1 ?_
    refine ev_pop dX3_thinkTreaty_29 (pc' := 30) rfl rfl ?_
    refine ev_aload_n dX3_thinkTreaty_30 (pc' := 31) rfl rfl ?_
    refine ev_getR (y := 11) dX3_thinkTreaty_31 (pc' := 34) rfl fq_3_16 kn_0 rfl ?_
    refine ev_iconst dX3_thinkTreaty_34 (pc' := 35) (v := 0) rfl (by decide) ?_
    refine ev_iload_n dX3_thinkTreaty_35 (pc' := 36) rfl rfl ?_
    refine ev_if_ne dX3_thinkTreaty_36 (pc' := 39) rfl (t := 49) rfl (fun c5 => ?_) (fun c5 => ?_)
    · replace h := it_f c5 h
      refine ev_aload_n dX3_thinkTreaty_49 (pc' := 50) rfl rfl ?_
      refine ev_getR (y := 1) dX3_thinkTreaty_50 (pc' := 53) rfl fq_3_10 kn_0 rfl ?_
      refine ev_get dX3_thinkTreaty_53 (pc' := 56) rfl fq_3_231 kn_1 rfl ?_
      refine ev_iconst dX3_thinkTreaty_56 (pc' := 57) (v := 2) rfl (by decide) ?_
      refine ev_idiv dX3_thinkTreaty_57 (pc' := 58) rfl (by decide) ?_
      obtain ⟨y9, m10, x_y9, h⟩ := nm2_of h
      refine ev_invV dX3_thinkTreaty_58 (pc' := 61) rfl sq_3_103 mt_X2_choose rfl (arecv_ob (x := 11) rfl rfl (by decide) kn_11) ⟨_, rfl, Nat.le_of_ble_eq_true rfl, Nat.le_of_ble_eq_true rfl, rfl, rfl⟩ ?_
      refine X2_choose_ca kn_11 x_y9 ?_
      refine ev_r1 ?_
      refine ev_pop dX3_thinkTreaty_61 (pc' := 62) rfl rfl ?_
      refine ev_aload_n dX3_thinkTreaty_62 (pc' := 63) rfl rfl ?_
      refine ev_getR (y := 11) dX3_thinkTreaty_63 (pc' := 66) rfl fq_3_16 kn_0 rfl ?_
      refine ev_iload_n dX3_thinkTreaty_66 (pc' := 67) rfl rfl ?_
      obtain ⟨m11, x_m11, h⟩ := ob_of h
      refine ev_invV dX3_thinkTreaty_67 (pc' := 70) rfl sq_3_155 mt_X2_goOn rfl (arecv_ob (x := 11) rfl rfl (by decide) kn_11) ⟨_, rfl, Nat.le_of_ble_eq_true rfl, Nat.le_of_ble_eq_true rfl, rfl, rfl⟩ ?_
      refine X2_goOn_ca kn_11 x_m11 ?_
      refine ev_r0 ?_
      obtain rfl := rt1 h
      exact ev_return dX3_thinkTreaty_70 rfl q
    · replace h := it_t c5 h
      refine ev_aload_n dX3_thinkTreaty_39 (pc' := 40) rfl rfl ?_
      refine ev_getR (y := 1) dX3_thinkTreaty_40 (pc' := 43) rfl fq_3_10 kn_0 rfl ?_
      refine ev_get dX3_thinkTreaty_43 (pc' := 46) rfl fq_3_231 kn_1 rfl ?_
      refine ev_goto dX3_thinkTreaty_46 (t := 58) rfl ?_
      obtain ⟨y6, m7, x_y6, h⟩ := nm2_of h
      refine ev_invV dX3_thinkTreaty_58 (pc' := 61) rfl sq_3_103 mt_X2_choose rfl (arecv_ob (x := 11) rfl rfl (by decide) kn_11) ⟨_, rfl, Nat.le_of_ble_eq_true rfl, Nat.le_of_ble_eq_true rfl, rfl, rfl⟩ ?_
      refine X2_choose_ca kn_11 x_y6 ?_
      refine ev_r1 ?_
      refine ev_pop dX3_thinkTreaty_61 (pc' := 62) rfl rfl ?_
      refine ev_aload_n dX3_thinkTreaty_62 (pc' := 63) rfl rfl ?_
      refine ev_getR (y := 11) dX3_thinkTreaty_63 (pc' := 66) rfl fq_3_16 kn_0 rfl ?_
      refine ev_iload_n dX3_thinkTreaty_66 (pc' := 67) rfl rfl ?_
      obtain ⟨m8, x_m8, h⟩ := ob_of h
      refine ev_invV dX3_thinkTreaty_67 (pc' := 70) rfl sq_3_155 mt_X2_goOn rfl (arecv_ob (x := 11) rfl rfl (by decide) kn_11) ⟨_, rfl, Nat.le_of_ble_eq_true rfl, Nat.le_of_ble_eq_true rfl, rfl, rfl⟩ ?_
      refine X2_goOn_ca kn_11 x_m8 ?_
      refine ev_r0 ?_
      obtain rfl := rt1 h
      exact ev_return dX3_thinkTreaty_70 rfl q
def X3_bothKeep (_o : Nat) (a1 : Int32) (a2 : Int32) (a3 : Int32) (mem : Mm) : Option (Int32 × Mm) := ob (X3_thinkTreaty 0 a1 a2 a3 mem) (fun m1 => ob (X2_allAmounts 11 m1) (fun y2 => ob (X2_allTaken 11 m1) (fun y3 => ob (X3_thinkTreaty 0 a1 (1 - a2) a3 m1) (fun m4 => ob (X2_allAmounts 11 m4) (fun y5 => if y5 ≤ y2 then (ob (X3_thinkTreaty 0 a1 a2 (1 - a3) m4) (fun m7 => ob (X2_allTaken 11 m7) (fun y8 => if y3 < y8 then (some (0, m7)) else (some (1, m7))))) else (some (0, m4)))))))
set_option maxRecDepth 100000 in
set_option maxHeartbeats 8000000 in
theorem X3_bothKeep_ca {S : Sc} {d : Nat} {a1 : Int32} {a2 : Int32} {a3 : Int32} {mem : Mm} {rr : Int32} {mr : Mm} {Q : Po}  (h : X3_bothKeep 0 a1 a2 a3 mem = some (rr, mr)) (q : Q (some (.int rr)) mr) : Ca S (d + 6) 100 [.ref 0, .int a1, .int a2, .int a3] mem Q := by
  unfold X3_bothKeep at h
  refine ca_in (by decide) mt_X3_bothKeep (Nat.le_of_ble_eq_true rfl) ?_
  show Ev S (d + 5) 3 cX3_bothKeep (some .boolean) 0 [some (.ref 0), some (.int a1), some (.int a2), some (.int a3), none, none] [] mem Q
  refine ev_aload_n dX3_bothKeep_0 (pc' := 1) rfl rfl ?_
  refine ev_iload_n dX3_bothKeep_1 (pc' := 2) rfl rfl ?_
  refine ev_iload_n dX3_bothKeep_2 (pc' := 3) rfl rfl ?_
  refine ev_iload_n dX3_bothKeep_3 (pc' := 4) rfl rfl ?_
  obtain ⟨m1, x_m1, h⟩ := ob_of h
  refine ev_invV dX3_bothKeep_4 (pc' := 7) rfl sq_3_271 mt_X3_thinkTreaty rfl (arecv_ob (x := 0) rfl rfl (by decide) kn_0) ⟨_, rfl, Nat.le_of_ble_eq_true rfl, Nat.le_of_ble_eq_true rfl, rfl, rfl⟩ ?_
  refine X3_thinkTreaty_ca  x_m1 ?_
  refine ev_r0 ?_
  refine ev_aload_n dX3_bothKeep_7 (pc' := 8) rfl rfl ?_
  refine ev_getR (y := 11) dX3_bothKeep_8 (pc' := 11) rfl fq_3_16 kn_0 rfl ?_
  obtain ⟨y2, x_y2, h⟩ := ob_of h
  refine ev_invV dX3_bothKeep_11 (pc' := 14) rfl sq_3_125 mt_X2_allAmounts rfl (arecv_ob (x := 11) rfl rfl (by decide) kn_11) ⟨_, rfl, Nat.le_of_ble_eq_true rfl, Nat.le_of_ble_eq_true rfl, rfl, rfl⟩ ?_
  refine X2_allAmounts_ca kn_11 x_y2 ?_
  refine ev_r1 ?_
  refine ev_istore dX3_bothKeep_14 (pc' := 16) (ls' := [some (.ref 0), some (.int a1), some (.int a2), some (.int a3), some (.int y2), none]) rfl (Nat.le_of_ble_eq_true rfl) rfl ?_
  refine ev_aload_n dX3_bothKeep_16 (pc' := 17) rfl rfl ?_
  refine ev_getR (y := 11) dX3_bothKeep_17 (pc' := 20) rfl fq_3_16 kn_0 rfl ?_
  obtain ⟨y3, x_y3, h⟩ := ob_of h
  refine ev_invV dX3_bothKeep_20 (pc' := 23) rfl sq_3_128 mt_X2_allTaken rfl (arecv_ob (x := 11) rfl rfl (by decide) kn_11) ⟨_, rfl, Nat.le_of_ble_eq_true rfl, Nat.le_of_ble_eq_true rfl, rfl, rfl⟩ ?_
  refine X2_allTaken_ca kn_11 x_y3 ?_
  refine ev_r1 ?_
  refine ev_istore dX3_bothKeep_23 (pc' := 25) (ls' := [some (.ref 0), some (.int a1), some (.int a2), some (.int a3), some (.int y2), some (.int y3)]) rfl (Nat.le_of_ble_eq_true rfl) rfl ?_
  refine ev_aload_n dX3_bothKeep_25 (pc' := 26) rfl rfl ?_
  refine ev_iload_n dX3_bothKeep_26 (pc' := 27) rfl rfl ?_
  refine ev_iconst dX3_bothKeep_27 (pc' := 28) (v := 1) rfl (by decide) ?_
  refine ev_iload_n dX3_bothKeep_28 (pc' := 29) rfl rfl ?_
  refine ev_isub dX3_bothKeep_29 (pc' := 30) rfl ?_
  refine ev_iload_n dX3_bothKeep_30 (pc' := 31) rfl rfl ?_
  obtain ⟨m4, x_m4, h⟩ := ob_of h
  refine ev_invV dX3_bothKeep_31 (pc' := 34) rfl sq_3_271 mt_X3_thinkTreaty rfl (arecv_ob (x := 0) rfl rfl (by decide) kn_0) ⟨_, rfl, Nat.le_of_ble_eq_true rfl, Nat.le_of_ble_eq_true rfl, rfl, rfl⟩ ?_
  refine X3_thinkTreaty_ca  x_m4 ?_
  refine ev_r0 ?_
  refine ev_aload_n dX3_bothKeep_34 (pc' := 35) rfl rfl ?_
  refine ev_getR (y := 11) dX3_bothKeep_35 (pc' := 38) rfl fq_3_16 kn_0 rfl ?_
  obtain ⟨y5, x_y5, h⟩ := ob_of h
  refine ev_invV dX3_bothKeep_38 (pc' := 41) rfl sq_3_125 mt_X2_allAmounts rfl (arecv_ob (x := 11) rfl rfl (by decide) kn_11) ⟨_, rfl, Nat.le_of_ble_eq_true rfl, Nat.le_of_ble_eq_true rfl, rfl, rfl⟩ ?_
  refine X2_allAmounts_ca kn_11 x_y5 ?_
  refine ev_r1 ?_
  refine ev_iload dX3_bothKeep_41 (pc' := 43) rfl rfl ?_
  refine ev_icmp_le dX3_bothKeep_43 (pc' := 46) rfl (t := 48) rfl (fun c6 => ?_) (fun c6 => ?_)
  · replace h := it_t c6 h
    refine ev_aload_n dX3_bothKeep_48 (pc' := 49) rfl rfl ?_
    refine ev_iload_n dX3_bothKeep_49 (pc' := 50) rfl rfl ?_
    refine ev_iload_n dX3_bothKeep_50 (pc' := 51) rfl rfl ?_
    refine ev_iconst dX3_bothKeep_51 (pc' := 52) (v := 1) rfl (by decide) ?_
    refine ev_iload_n dX3_bothKeep_52 (pc' := 53) rfl rfl ?_
    refine ev_isub dX3_bothKeep_53 (pc' := 54) rfl ?_
    obtain ⟨m7, x_m7, h⟩ := ob_of h
    refine ev_invV dX3_bothKeep_54 (pc' := 57) rfl sq_3_271 mt_X3_thinkTreaty rfl (arecv_ob (x := 0) rfl rfl (by decide) kn_0) ⟨_, rfl, Nat.le_of_ble_eq_true rfl, Nat.le_of_ble_eq_true rfl, rfl, rfl⟩ ?_
    refine X3_thinkTreaty_ca  x_m7 ?_
    refine ev_r0 ?_
    refine ev_aload_n dX3_bothKeep_57 (pc' := 58) rfl rfl ?_
    refine ev_getR (y := 11) dX3_bothKeep_58 (pc' := 61) rfl fq_3_16 kn_0 rfl ?_
    obtain ⟨y8, x_y8, h⟩ := ob_of h
    refine ev_invV dX3_bothKeep_61 (pc' := 64) rfl sq_3_128 mt_X2_allTaken rfl (arecv_ob (x := 11) rfl rfl (by decide) kn_11) ⟨_, rfl, Nat.le_of_ble_eq_true rfl, Nat.le_of_ble_eq_true rfl, rfl, rfl⟩ ?_
    refine X2_allTaken_ca kn_11 x_y8 ?_
    refine ev_r1 ?_
    refine ev_iload dX3_bothKeep_64 (pc' := 66) rfl rfl ?_
    refine ev_icmp_gt dX3_bothKeep_66 (pc' := 69) rfl (t := 73) rfl (fun c9 => ?_) (fun c9 => ?_)
    · replace h := it_t c9 h
      refine ev_iconst dX3_bothKeep_73 (pc' := 74) (v := 0) rfl (by decide) ?_
      obtain ⟨rfl, rfl⟩ := rt2 h
      exact ev_ireturn dX3_bothKeep_74 (aret_z (by decide)) q
    · replace h := it_f c9 h
      refine ev_iconst dX3_bothKeep_69 (pc' := 70) (v := 1) rfl (by decide) ?_
      refine ev_goto dX3_bothKeep_70 (t := 74) rfl ?_
      obtain ⟨rfl, rfl⟩ := rt2 h
      exact ev_ireturn dX3_bothKeep_74 (aret_z (by decide)) q
  · replace h := it_f c6 h
    refine ev_iconst dX3_bothKeep_46 (pc' := 47) (v := 0) rfl (by decide) ?_
    obtain ⟨rfl, rfl⟩ := rt2 h
    exact ev_ireturn dX3_bothKeep_47 (aret_z (by decide)) q
def X3_treaty_L25  (a7 : Int32) (a8 : Int32) (k : Int32 → Mm → Option (Int32 × Mm)) : Nat → Int32 → Mm → Option (Int32 × Mm)
  | 0, _, _ => none
  | n + 1, w9, m10 => if 2 ≤ w9 then (k w9 m10) else (ob2 (X3_bothKeep 0 a7 a8 w9 m10) (fun y12 m13 => if y12 = 0 then (nm (w9 + 1) (fun v15 => X3_treaty_L25 a7 a8 k n v15 m13)) else (some (((10 * a8) + w9), m13))))
def X3_treaty_L17  (a3 : Int32) : Nat → Int32 → Mm → Option (Int32 × Mm)
  | 0, _, _ => none
  | n + 1, w4, m5 => if 2 ≤ w4 then (some ((-9), m5)) else (X3_treaty_L25 a3 w4 (fun v16 m17 => nm (w4 + 1) (fun v18 => X3_treaty_L17 a3 n v18 m17)) LF 0 m5)
def X3_treaty (_o : Nat) (a1 : Int32) (mem : Mm) : Option (Int32 × Mm) := nm (X3_yearsFault a1) (fun v1 => if v1 = 0 then (X3_treaty_L17 a1 LF 0 mem) else (ob2 (X3_refuse 0 v1 mem) (fun y19 m20 => some (y19, m20))))
set_option maxRecDepth 100000 in
set_option maxHeartbeats 8000000 in
theorem X3_treaty_L25_ev {S : Sc} {d : Nat}  {a7 : Int32} {a8 : Int32} {k : Int32 → Mm → Option (Int32 × Mm)} {rr : Int32} {mr : Mm} {Q : Po}  (q : Q (some (.int rr)) mr) (hk : ∀ (w9 : Int32) (m10 : Mm), k w9 m10 = some (rr, mr) → Ev S (d + 6) 3 cX3_treaty (some .int) 56 [some (.ref 0), some (.int a7), none, some (.int a8), some (.int w9)] [] m10 Q) : ∀ (n : Nat) (w9 : Int32) (m10 : Mm), X3_treaty_L25 a7 a8 k n w9 m10 = some (rr, mr) → Ev S (d + 6) 3 cX3_treaty (some .int) 25 [some (.ref 0), some (.int a7), none, some (.int a8), some (.int w9)] [] m10 Q := by
  intro n
  induction n with
  | zero => intro w9 m10 h; cases h
  | succ n ih =>
    intro w9 m10 h
    unfold X3_treaty_L25 at h
    refine ev_iload dX3_treaty_25 (pc' := 27) rfl rfl ?_
    refine ev_iconst dX3_treaty_27 (pc' := 28) (v := 2) rfl (by decide) ?_
    refine ev_icmp_ge dX3_treaty_28 (pc' := 31) rfl (t := 56) rfl (fun c11 => ?_) (fun c11 => ?_)
    · replace h := it_t c11 h
      exact ev_sub (lsub_c (lsub_c (lsub_c (lsub_c (lsub_c lsub_nil))))) (hk w9 m10 h)
    · replace h := it_f c11 h
      refine ev_aload_n dX3_treaty_31 (pc' := 32) rfl rfl ?_
      refine ev_iload_n dX3_treaty_32 (pc' := 33) rfl rfl ?_
      refine ev_iload_n dX3_treaty_33 (pc' := 34) rfl rfl ?_
      refine ev_iload dX3_treaty_34 (pc' := 36) rfl rfl ?_
      obtain ⟨y12, m13, x_y12, h⟩ := ob2_of h
      refine ev_invV dX3_treaty_36 (pc' := 39) rfl sq_3_191 mt_X3_bothKeep rfl (arecv_ob (x := 0) rfl rfl (by decide) kn_0) ⟨_, rfl, Nat.le_of_ble_eq_true rfl, Nat.le_of_ble_eq_true rfl, rfl, rfl⟩ ?_
      refine X3_bothKeep_ca  x_y12 ?_
      refine ev_r1 ?_
      refine ev_if_eq dX3_treaty_39 (pc' := 42) rfl (t := 50) rfl (fun c14 => ?_) (fun c14 => ?_)
      · replace h := it_t c14 h
        obtain ⟨v15, e_v15⟩ : ∃ y : Int32, y = (w9 + 1) := ⟨_, rfl⟩
        replace h := nm_at e_v15 h
        refine ev_iinc dX3_treaty_50 (pc' := 53) (v := v15) (ls' := [some (.ref 0), some (.int a7), none, some (.int a8), some (.int v15)]) rfl rfl (by rw [e_v15]; rfl) (Nat.le_of_ble_eq_true rfl) rfl ?_
        refine ev_goto dX3_treaty_53 (t := 25) rfl ?_
        exact ev_sub (lsub_c (lsub_c (lsub_c (lsub_c (lsub_c lsub_nil))))) (ih v15 m13 h)
      · replace h := it_f c14 h
        refine ev_bipush dX3_treaty_42 (pc' := 44) (v := 10) rfl (by decide) ?_
        refine ev_iload_n dX3_treaty_44 (pc' := 45) rfl rfl ?_
        refine ev_imul dX3_treaty_45 (pc' := 46) rfl ?_
        refine ev_iload dX3_treaty_46 (pc' := 48) rfl rfl ?_
        refine ev_iadd dX3_treaty_48 (pc' := 49) rfl ?_
        obtain ⟨rfl, rfl⟩ := rt2 h
        exact ev_ireturn dX3_treaty_49 rfl q
set_option maxRecDepth 100000 in
set_option maxHeartbeats 8000000 in
theorem X3_treaty_L17_ev {S : Sc} {d : Nat}  {a3 : Int32} {rr : Int32} {mr : Mm} {Q : Po}  (q : Q (some (.int rr)) mr) : ∀ (n : Nat) (w4 : Int32) (m5 : Mm), X3_treaty_L17 a3 n w4 m5 = some (rr, mr) → Ev S (d + 6) 3 cX3_treaty (some .int) 17 [some (.ref 0), some (.int a3), none, some (.int w4), none] [] m5 Q := by
  intro n
  induction n with
  | zero => intro w4 m5 h; cases h
  | succ n ih =>
    intro w4 m5 h
    unfold X3_treaty_L17 at h
    refine ev_iload_n dX3_treaty_17 (pc' := 18) rfl rfl ?_
    refine ev_iconst dX3_treaty_18 (pc' := 19) (v := 2) rfl (by decide) ?_
    refine ev_icmp_ge dX3_treaty_19 (pc' := 22) rfl (t := 62) rfl (fun c6 => ?_) (fun c6 => ?_)
    · replace h := it_t c6 h
      refine ev_bipush dX3_treaty_62 (pc' := 64) (v := (-9)) rfl (by decide) ?_
      obtain ⟨rfl, rfl⟩ := rt2 h
      exact ev_ireturn dX3_treaty_64 rfl q
    · replace h := it_f c6 h
      refine ev_iconst dX3_treaty_22 (pc' := 23) (v := 0) rfl (by decide) ?_
      refine ev_istore dX3_treaty_23 (pc' := 25) (ls' := [some (.ref 0), some (.int a3), none, some (.int w4), some (.int 0)]) rfl (Nat.le_of_ble_eq_true rfl) rfl ?_
      refine ev_sub (lsub_c (lsub_c (lsub_c (lsub_c (lsub_c lsub_nil))))) (X3_treaty_L25_ev  (k := fun v16 m17 => nm (w4 + 1) (fun v18 => X3_treaty_L17 a3 n v18 m17)) q (fun v16 m17 h => ?_) LF 0 m5 h)
      obtain ⟨v18, e_v18⟩ : ∃ y : Int32, y = (w4 + 1) := ⟨_, rfl⟩
      replace h := nm_at e_v18 h
      refine ev_iinc dX3_treaty_56 (pc' := 59) (v := v18) (ls' := [some (.ref 0), some (.int a3), none, some (.int v18), some (.int v16)]) rfl rfl (by rw [e_v18]; rfl) (Nat.le_of_ble_eq_true rfl) rfl ?_
      refine ev_goto dX3_treaty_59 (t := 17) rfl ?_
      exact ev_sub (lsub_c (lsub_c (lsub_c (lsub_c (lsub_n lsub_nil))))) (ih v18 m17 h)
set_option maxRecDepth 100000 in
set_option maxHeartbeats 8000000 in
theorem X3_treaty_ca {S : Sc} {d : Nat} {a1 : Int32} {mem : Mm} {rr : Int32} {mr : Mm} {Q : Po}  (h : X3_treaty 0 a1 mem = some (rr, mr)) (q : Q (some (.int rr)) mr) : Ca S (d + 7) 71 [.ref 0, .int a1] mem Q := by
  unfold X3_treaty at h
  refine ca_in (by decide) mt_X3_treaty (Nat.le_of_ble_eq_true rfl) ?_
  show Ev S (d + 6) 3 cX3_treaty (some .int) 0 [some (.ref 0), some (.int a1), none, none, none] [] mem Q
  refine ev_iload_n dX3_treaty_0 (pc' := 1) rfl rfl ?_
  refine ev_invS dX3_treaty_1 (pc' := 4) rfl sq_3_118 mt_X3_yearsFault rfl ⟨_, rfl, Nat.le_of_ble_eq_true rfl, Nat.le_of_ble_eq_true rfl, rfl, rfl⟩ ?_
  refine X3_yearsFault_ca  rfl ?_
  refine ev_r1 ?_
  refine ev_topi (fun v1 e_v1 => ?_)
  replace h := nm_at e_v1 h
  refine ev_istore_n dX3_treaty_4 (pc' := 5) (ls' := [some (.ref 0), some (.int a1), some (.int v1), none, none]) rfl (Nat.le_of_ble_eq_true rfl) rfl ?_
  refine ev_iload_n dX3_treaty_5 (pc' := 6) rfl rfl ?_
  refine ev_if_eq dX3_treaty_6 (pc' := 9) rfl (t := 15) rfl (fun c2 => ?_) (fun c2 => ?_)
  · replace h := it_t c2 h
    refine ev_iconst dX3_treaty_15 (pc' := 16) (v := 0) rfl (by decide) ?_
    refine ev_istore_n dX3_treaty_16 (pc' := 17) (ls' := [some (.ref 0), some (.int a1), some (.int v1), some (.int 0), none]) rfl (Nat.le_of_ble_eq_true rfl) rfl ?_
    exact ev_sub (lsub_c (lsub_c (lsub_n (lsub_c (lsub_c lsub_nil))))) (X3_treaty_L17_ev  q LF 0 mem h)
  · replace h := it_f c2 h
    refine ev_aload_n dX3_treaty_9 (pc' := 10) rfl rfl ?_
    refine ev_iload_n dX3_treaty_10 (pc' := 11) rfl rfl ?_
    obtain ⟨y19, m20, x_y19, h⟩ := ob2_of h
    refine ev_invV dX3_treaty_11 (pc' := 14) rfl sq_3_56 mt_X3_refuse rfl (arecv_ob (x := 0) rfl rfl (by decide) kn_0) ⟨_, rfl, Nat.le_of_ble_eq_true rfl, Nat.le_of_ble_eq_true rfl, rfl, rfl⟩ ?_
    refine X3_refuse_ca  x_y19 ?_
    refine ev_r1 ?_
    obtain ⟨rfl, rfl⟩ := rt2 h
    exact ev_ireturn dX3_treaty_14 rfl q
def X3_bestSet_L37  (a4 : Int32) (a5 : Int32) : Nat → Int32 → Int32 → Int32 → Mm → Option (Int32 × Mm)
  | 0, _, _, _, _ => none
  | n + 1, w6, w7, w8, m9 => if (X3_mostChoice a5) < w8 then (some (w6, m9)) else (ob (X2_become 11 1 m9) (fun m11 => nm2 (X2_choose 11 a5 w8 m11) (fun y12 m13 => ob (X2_goOn 11 a4 m13) (fun m14 => ob (X2_allTaken 11 m14) (fun y15 => if y15 ≤ w7 then (nm (w8 + 1) (fun v17 => X3_bestSet_L37 a4 a5 n w6 w7 v17 m14)) else (ob (X2_allTaken 11 m14) (fun y18 => nm (w8 + 1) (fun v19 => X3_bestSet_L37 a4 a5 n w8 y18 v19 m14))))))))
def X3_bestSet (_o : Nat) (a1 : Int32) (a2 : Int32) (mem : Mm) : Option (Int32 × Mm) := nm (X3_firstOf (X3_yearsFault a1) (X3_whatFault a2 1) 0) (fun v1 => if v1 = 0 then (nm (X3_leastChoice a2) (fun v3 => X3_bestSet_L37 a1 a2 LF (-9) (-1) v3 mem)) else (ob2 (X3_refuse 0 v1 mem) (fun y20 m21 => some (y20, m21))))
set_option maxRecDepth 100000 in
set_option maxHeartbeats 8000000 in
theorem X3_bestSet_L37_ev {S : Sc} {d : Nat}  {a4 : Int32} {a5 : Int32} {rr : Int32} {mr : Mm} {Q : Po}  (q : Q (some (.int rr)) mr) : ∀ (n : Nat) (w6 : Int32) (w7 : Int32) (w8 : Int32) (m9 : Mm), X3_bestSet_L37 a4 a5 n w6 w7 w8 m9 = some (rr, mr) → Ev S (d + 4) 3 cX3_bestSet (some .int) 37 [some (.ref 0), some (.int a4), some (.int a5), none, some (.int w6), some (.int w7), some (.int w8)] [] m9 Q := by
  intro n
  induction n with
  | zero => intro w6 w7 w8 m9 h; cases h
  | succ n ih =>
    intro w6 w7 w8 m9 h
    unfold X3_bestSet_L37 at h
    refine ev_iload dX3_bestSet_37 (pc' := 39) rfl rfl ?_
    refine ev_iload_n dX3_bestSet_39 (pc' := 40) rfl rfl ?_
    refine ev_invS dX3_bestSet_40 (pc' := 43) rfl sq_3_198 mt_X3_mostChoice rfl ⟨_, rfl, Nat.le_of_ble_eq_true rfl, Nat.le_of_ble_eq_true rfl, rfl, rfl⟩ ?_
    refine X3_mostChoice_ca  rfl ?_
    refine ev_r1 ?_
    refine ev_icmp_gt dX3_bestSet_43 (pc' := 46) rfl (t := 107) rfl (fun c10 => ?_) (fun c10 => ?_)
    · replace h := it_t c10 h
      refine ev_iload dX3_bestSet_107 (pc' := 109) rfl rfl ?_
      obtain ⟨rfl, rfl⟩ := rt2 h
      exact ev_ireturn dX3_bestSet_109 rfl q
    · replace h := it_f c10 h
      refine ev_aload_n dX3_bestSet_46 (pc' := 47) rfl rfl ?_
      refine ev_getR (y := 11) dX3_bestSet_47 (pc' := 50) rfl fq_3_16 kn_0 rfl ?_
      refine ev_aload_n dX3_bestSet_50 (pc' := 51) rfl rfl ?_
      refine ev_getR (y := 1) dX3_bestSet_51 (pc' := 54) rfl fq_3_10 kn_0 rfl ?_
      obtain ⟨m11, x_m11, h⟩ := ob_of h
      refine ev_invV dX3_bestSet_54 (pc' := 57) rfl sq_3_151 mt_X2_become rfl (arecv_ob (x := 11) rfl rfl (by decide) kn_11) ⟨_, rfl, Nat.le_of_ble_eq_true rfl, Nat.le_of_ble_eq_true rfl, rfl, rfl⟩ ?_
      refine X2_become_ca kn_11 kn_1 x_m11 ?_
      refine ev_r0 ?_
      refine ev_aload_n dX3_bestSet_57 (pc' := 58) rfl rfl ?_
      refine ev_getR (y := 11) dX3_bestSet_58 (pc' := 61) rfl fq_3_16 kn_0 rfl ?_
      refine ev_iload_n dX3_bestSet_61 (pc' := 62) rfl rfl ?_
      refine ev_iload dX3_bestSet_62 (pc' := 64) rfl rfl ?_
      obtain ⟨y12, m13, x_y12, h⟩ := nm2_of h
      refine ev_invV dX3_bestSet_64 (pc' := 67) rfl sq_3_103 mt_X2_choose rfl (arecv_ob (x := 11) rfl rfl (by decide) kn_11) ⟨_, rfl, Nat.le_of_ble_eq_true rfl, Nat.le_of_ble_eq_true rfl, rfl, rfl⟩ ?_
      refine X2_choose_ca kn_11 x_y12 ?_
      refine ev_r1 ?_
      refine ev_pop dX3_bestSet_67 (pc' := 68) rfl rfl ?_
      refine ev_aload_n dX3_bestSet_68 (pc' := 69) rfl rfl ?_
      refine ev_getR (y := 11) dX3_bestSet_69 (pc' := 72) rfl fq_3_16 kn_0 rfl ?_
      refine ev_iload_n dX3_bestSet_72 (pc' := 73) rfl rfl ?_
      obtain ⟨m14, x_m14, h⟩ := ob_of h
      refine ev_invV dX3_bestSet_73 (pc' := 76) rfl sq_3_155 mt_X2_goOn rfl (arecv_ob (x := 11) rfl rfl (by decide) kn_11) ⟨_, rfl, Nat.le_of_ble_eq_true rfl, Nat.le_of_ble_eq_true rfl, rfl, rfl⟩ ?_
      refine X2_goOn_ca kn_11 x_m14 ?_
      refine ev_r0 ?_
      refine ev_aload_n dX3_bestSet_76 (pc' := 77) rfl rfl ?_
      refine ev_getR (y := 11) dX3_bestSet_77 (pc' := 80) rfl fq_3_16 kn_0 rfl ?_
      obtain ⟨y15, x_y15, h⟩ := ob_of h
      refine ev_invV dX3_bestSet_80 (pc' := 83) rfl sq_3_128 mt_X2_allTaken rfl (arecv_ob (x := 11) rfl rfl (by decide) kn_11) ⟨_, rfl, Nat.le_of_ble_eq_true rfl, Nat.le_of_ble_eq_true rfl, rfl, rfl⟩ ?_
      refine X2_allTaken_ca kn_11 x_y15 ?_
      refine ev_r1 ?_
      refine ev_iload dX3_bestSet_83 (pc' := 85) rfl rfl ?_
      refine ev_icmp_le dX3_bestSet_85 (pc' := 88) rfl (t := 101) rfl (fun c16 => ?_) (fun c16 => ?_)
      · replace h := it_t c16 h
        obtain ⟨v17, e_v17⟩ : ∃ y : Int32, y = (w8 + 1) := ⟨_, rfl⟩
        replace h := nm_at e_v17 h
        refine ev_iinc dX3_bestSet_101 (pc' := 104) (v := v17) (ls' := [some (.ref 0), some (.int a4), some (.int a5), none, some (.int w6), some (.int w7), some (.int v17)]) rfl rfl (by rw [e_v17]; rfl) (Nat.le_of_ble_eq_true rfl) rfl ?_
        refine ev_goto dX3_bestSet_104 (t := 37) rfl ?_
        exact ev_sub (lsub_c (lsub_c (lsub_c (lsub_c (lsub_c (lsub_c (lsub_c lsub_nil))))))) (ih w6 w7 v17 m14 h)
      · replace h := it_f c16 h
        refine ev_aload_n dX3_bestSet_88 (pc' := 89) rfl rfl ?_
        refine ev_getR (y := 11) dX3_bestSet_89 (pc' := 92) rfl fq_3_16 kn_0 rfl ?_
        obtain ⟨y18, x_y18, h⟩ := ob_of h
        refine ev_invV dX3_bestSet_92 (pc' := 95) rfl sq_3_128 mt_X2_allTaken rfl (arecv_ob (x := 11) rfl rfl (by decide) kn_11) ⟨_, rfl, Nat.le_of_ble_eq_true rfl, Nat.le_of_ble_eq_true rfl, rfl, rfl⟩ ?_
        refine X2_allTaken_ca kn_11 x_y18 ?_
        refine ev_r1 ?_
        refine ev_istore dX3_bestSet_95 (pc' := 97) (ls' := [some (.ref 0), some (.int a4), some (.int a5), none, some (.int w6), some (.int y18), some (.int w8)]) rfl (Nat.le_of_ble_eq_true rfl) rfl ?_
        refine ev_iload dX3_bestSet_97 (pc' := 99) rfl rfl ?_
        refine ev_istore dX3_bestSet_99 (pc' := 101) (ls' := [some (.ref 0), some (.int a4), some (.int a5), none, some (.int w8), some (.int y18), some (.int w8)]) rfl (Nat.le_of_ble_eq_true rfl) rfl ?_
        obtain ⟨v19, e_v19⟩ : ∃ y : Int32, y = (w8 + 1) := ⟨_, rfl⟩
        replace h := nm_at e_v19 h
        refine ev_iinc dX3_bestSet_101 (pc' := 104) (v := v19) (ls' := [some (.ref 0), some (.int a4), some (.int a5), none, some (.int w8), some (.int y18), some (.int v19)]) rfl rfl (by rw [e_v19]; rfl) (Nat.le_of_ble_eq_true rfl) rfl ?_
        refine ev_goto dX3_bestSet_104 (t := 37) rfl ?_
        exact ev_sub (lsub_c (lsub_c (lsub_c (lsub_c (lsub_c (lsub_c (lsub_c lsub_nil))))))) (ih w8 y18 v19 m14 h)
set_option maxRecDepth 100000 in
set_option maxHeartbeats 8000000 in
theorem X3_bestSet_ca {S : Sc} {d : Nat} {a1 : Int32} {a2 : Int32} {mem : Mm} {rr : Int32} {mr : Mm} {Q : Po}  (h : X3_bestSet 0 a1 a2 mem = some (rr, mr)) (q : Q (some (.int rr)) mr) : Ca S (d + 5) 72 [.ref 0, .int a1, .int a2] mem Q := by
  unfold X3_bestSet at h
  refine ca_in (by decide) mt_X3_bestSet (Nat.le_of_ble_eq_true rfl) ?_
  show Ev S (d + 4) 3 cX3_bestSet (some .int) 0 [some (.ref 0), some (.int a1), some (.int a2), none, none, none, none] [] mem Q
  refine ev_iload_n dX3_bestSet_0 (pc' := 1) rfl rfl ?_
  refine ev_invS dX3_bestSet_1 (pc' := 4) rfl sq_3_118 mt_X3_yearsFault rfl ⟨_, rfl, Nat.le_of_ble_eq_true rfl, Nat.le_of_ble_eq_true rfl, rfl, rfl⟩ ?_
  refine X3_yearsFault_ca  rfl ?_
  refine ev_r1 ?_
  refine ev_iload_n dX3_bestSet_4 (pc' := 5) rfl rfl ?_
  refine ev_iconst dX3_bestSet_5 (pc' := 6) (v := 1) rfl (by decide) ?_
  refine ev_invS dX3_bestSet_6 (pc' := 9) rfl sq_3_69 mt_X3_whatFault rfl ⟨_, rfl, Nat.le_of_ble_eq_true rfl, Nat.le_of_ble_eq_true rfl, rfl, rfl⟩ ?_
  refine X3_whatFault_ca  rfl ?_
  refine ev_r1 ?_
  refine ev_iconst dX3_bestSet_9 (pc' := 10) (v := 0) rfl (by decide) ?_
  refine ev_invS dX3_bestSet_10 (pc' := 13) rfl sq_3_73 mt_X3_firstOf rfl ⟨_, rfl, Nat.le_of_ble_eq_true rfl, Nat.le_of_ble_eq_true rfl, rfl, rfl⟩ ?_
  refine X3_firstOf_ca  rfl ?_
  refine ev_r1 ?_
  refine ev_topi (fun v1 e_v1 => ?_)
  replace h := nm_at e_v1 h
  refine ev_istore_n dX3_bestSet_13 (pc' := 14) (ls' := [some (.ref 0), some (.int a1), some (.int a2), some (.int v1), none, none, none]) rfl (Nat.le_of_ble_eq_true rfl) rfl ?_
  refine ev_iload_n dX3_bestSet_14 (pc' := 15) rfl rfl ?_
  refine ev_if_eq dX3_bestSet_15 (pc' := 18) rfl (t := 24) rfl (fun c2 => ?_) (fun c2 => ?_)
  · replace h := it_t c2 h
    refine ev_bipush dX3_bestSet_24 (pc' := 26) (v := (-9)) rfl (by decide) ?_
    refine ev_istore dX3_bestSet_26 (pc' := 28) (ls' := [some (.ref 0), some (.int a1), some (.int a2), some (.int v1), some (.int (-9)), none, none]) rfl (Nat.le_of_ble_eq_true rfl) rfl ?_
    refine ev_iconst dX3_bestSet_28 (pc' := 29) (v := (-1)) rfl (by decide) ?_
    refine ev_istore dX3_bestSet_29 (pc' := 31) (ls' := [some (.ref 0), some (.int a1), some (.int a2), some (.int v1), some (.int (-9)), some (.int (-1)), none]) rfl (Nat.le_of_ble_eq_true rfl) rfl ?_
    refine ev_iload_n dX3_bestSet_31 (pc' := 32) rfl rfl ?_
    refine ev_invS dX3_bestSet_32 (pc' := 35) rfl sq_3_195 mt_X3_leastChoice rfl ⟨_, rfl, Nat.le_of_ble_eq_true rfl, Nat.le_of_ble_eq_true rfl, rfl, rfl⟩ ?_
    refine X3_leastChoice_ca  rfl ?_
    refine ev_r1 ?_
    refine ev_topi (fun v3 e_v3 => ?_)
    replace h := nm_at e_v3 h
    refine ev_istore dX3_bestSet_35 (pc' := 37) (ls' := [some (.ref 0), some (.int a1), some (.int a2), some (.int v1), some (.int (-9)), some (.int (-1)), some (.int v3)]) rfl (Nat.le_of_ble_eq_true rfl) rfl ?_
    exact ev_sub (lsub_c (lsub_c (lsub_c (lsub_n (lsub_c (lsub_c (lsub_c lsub_nil))))))) (X3_bestSet_L37_ev  q LF (-9) (-1) v3 mem h)
  · replace h := it_f c2 h
    refine ev_aload_n dX3_bestSet_18 (pc' := 19) rfl rfl ?_
    refine ev_iload_n dX3_bestSet_19 (pc' := 20) rfl rfl ?_
    obtain ⟨y20, m21, x_y20, h⟩ := ob2_of h
    refine ev_invV dX3_bestSet_20 (pc' := 23) rfl sq_3_56 mt_X3_refuse rfl (arecv_ob (x := 0) rfl rfl (by decide) kn_0) ⟨_, rfl, Nat.le_of_ble_eq_true rfl, Nat.le_of_ble_eq_true rfl, rfl, rfl⟩ ?_
    refine X3_refuse_ca  x_y20 ?_
    refine ev_r1 ?_
    obtain ⟨rfl, rfl⟩ := rt2 h
    exact ev_ireturn dX3_bestSet_23 rfl q
def X3_iron_L35  (a5 : Int32) : Nat → Int32 → Int32 → Int32 → Mm → Option (Int32 × Mm)
  | 0, _, _, _, _ => none
  | n + 1, w6, w7, w8, m9 => if (m9 1 2) ≤ w8 then (some (w6, m9)) else (ob (X2_become 11 1 m9) (fun m11 => ob (X2_at 11 w8) (fun y12 => nm (mset m11 y12 0 3) (fun m13 => ob (X2_goOn 11 a5 m13) (fun m14 => ob (X2_allAmounts 11 m14) (fun y15 => if y15 ≤ w7 then (nm (w8 + 1) (fun v17 => X3_iron_L35 a5 n w6 w7 v17 m14)) else (ob (X2_allAmounts 11 m14) (fun y18 => nm (w8 + 1) (fun v19 => X3_iron_L35 a5 n w8 y18 v19 m14)))))))))
def X3_iron (_o : Nat) (a1 : Int32) (mem : Mm) : Option (Int32 × Mm) := nm (X3_yearsFault a1) (fun v1 => if v1 = 0 then (ob (X3_thinkOn 0 a1 mem) (fun m3 => ob (X2_allAmounts 11 m3) (fun y4 => X3_iron_L35 a1 LF (-9) y4 0 m3))) else (ob2 (X3_refuse 0 v1 mem) (fun y20 m21 => some (y20, m21))))
set_option maxRecDepth 100000 in
set_option maxHeartbeats 8000000 in
theorem X3_iron_L35_ev {S : Sc} {d : Nat}  {a5 : Int32} {rr : Int32} {mr : Mm} {Q : Po}  (q : Q (some (.int rr)) mr) : ∀ (n : Nat) (w6 : Int32) (w7 : Int32) (w8 : Int32) (m9 : Mm), X3_iron_L35 a5 n w6 w7 w8 m9 = some (rr, mr) → Ev S (d + 5) 3 cX3_iron (some .int) 35 [some (.ref 0), some (.int a5), none, some (.int w6), some (.int w7), some (.int w8)] [] m9 Q := by
  intro n
  induction n with
  | zero => intro w6 w7 w8 m9 h; cases h
  | succ n ih =>
    intro w6 w7 w8 m9 h
    unfold X3_iron_L35 at h
    refine ev_iload dX3_iron_35 (pc' := 37) rfl rfl ?_
    refine ev_aload_n dX3_iron_37 (pc' := 38) rfl rfl ?_
    refine ev_getR (y := 1) dX3_iron_38 (pc' := 41) rfl fq_3_10 kn_0 rfl ?_
    refine ev_get dX3_iron_41 (pc' := 44) rfl fq_3_161 kn_1 rfl ?_
    refine ev_icmp_ge dX3_iron_44 (pc' := 47) rfl (t := 109) rfl (fun c10 => ?_) (fun c10 => ?_)
    · replace h := it_t c10 h
      refine ev_iload_n dX3_iron_109 (pc' := 110) rfl rfl ?_
      obtain ⟨rfl, rfl⟩ := rt2 h
      exact ev_ireturn dX3_iron_110 rfl q
    · replace h := it_f c10 h
      refine ev_aload_n dX3_iron_47 (pc' := 48) rfl rfl ?_
      refine ev_getR (y := 11) dX3_iron_48 (pc' := 51) rfl fq_3_16 kn_0 rfl ?_
      refine ev_aload_n dX3_iron_51 (pc' := 52) rfl rfl ?_
      refine ev_getR (y := 1) dX3_iron_52 (pc' := 55) rfl fq_3_10 kn_0 rfl ?_
      obtain ⟨m11, x_m11, h⟩ := ob_of h
      refine ev_invV dX3_iron_55 (pc' := 58) rfl sq_3_151 mt_X2_become rfl (arecv_ob (x := 11) rfl rfl (by decide) kn_11) ⟨_, rfl, Nat.le_of_ble_eq_true rfl, Nat.le_of_ble_eq_true rfl, rfl, rfl⟩ ?_
      refine X2_become_ca kn_11 kn_1 x_m11 ?_
      refine ev_r0 ?_
      refine ev_aload_n dX3_iron_58 (pc' := 59) rfl rfl ?_
      refine ev_getR (y := 11) dX3_iron_59 (pc' := 62) rfl fq_3_16 kn_0 rfl ?_
      refine ev_iload dX3_iron_62 (pc' := 64) rfl rfl ?_
      obtain ⟨y12, x_y12, h⟩ := ob_of h
      refine ev_invV dX3_iron_64 (pc' := 67) rfl sq_3_76 mt_X2_at rfl (arecv_ob (x := 11) rfl rfl (by decide) kn_11) ⟨_, rfl, Nat.le_of_ble_eq_true rfl, Nat.le_of_ble_eq_true rfl, rfl, rfl⟩ ?_
      refine X2_at_ca kn_11 x_y12 ?_
      refine ev_r1 ?_
      refine ev_iconst dX3_iron_67 (pc' := 68) (v := 3) rfl (by decide) ?_
      refine ev_put dX3_iron_68 (pc' := 71) rfl fq_3_80 (X2_at_kd kn_11 x_y12) rfl (Or.inl (by decide)) ?_
      refine ev_topm (fun m13 e_m13 => ?_)
      replace h := nm_at e_m13 h
      refine ev_aload_n dX3_iron_71 (pc' := 72) rfl rfl ?_
      refine ev_getR (y := 11) dX3_iron_72 (pc' := 75) rfl fq_3_16 kn_0 rfl ?_
      refine ev_iload_n dX3_iron_75 (pc' := 76) rfl rfl ?_
      obtain ⟨m14, x_m14, h⟩ := ob_of h
      refine ev_invV dX3_iron_76 (pc' := 79) rfl sq_3_155 mt_X2_goOn rfl (arecv_ob (x := 11) rfl rfl (by decide) kn_11) ⟨_, rfl, Nat.le_of_ble_eq_true rfl, Nat.le_of_ble_eq_true rfl, rfl, rfl⟩ ?_
      refine X2_goOn_ca kn_11 x_m14 ?_
      refine ev_r0 ?_
      refine ev_aload_n dX3_iron_79 (pc' := 80) rfl rfl ?_
      refine ev_getR (y := 11) dX3_iron_80 (pc' := 83) rfl fq_3_16 kn_0 rfl ?_
      obtain ⟨y15, x_y15, h⟩ := ob_of h
      refine ev_invV dX3_iron_83 (pc' := 86) rfl sq_3_125 mt_X2_allAmounts rfl (arecv_ob (x := 11) rfl rfl (by decide) kn_11) ⟨_, rfl, Nat.le_of_ble_eq_true rfl, Nat.le_of_ble_eq_true rfl, rfl, rfl⟩ ?_
      refine X2_allAmounts_ca kn_11 x_y15 ?_
      refine ev_r1 ?_
      refine ev_iload dX3_iron_86 (pc' := 88) rfl rfl ?_
      refine ev_icmp_le dX3_iron_88 (pc' := 91) rfl (t := 103) rfl (fun c16 => ?_) (fun c16 => ?_)
      · replace h := it_t c16 h
        obtain ⟨v17, e_v17⟩ : ∃ y : Int32, y = (w8 + 1) := ⟨_, rfl⟩
        replace h := nm_at e_v17 h
        refine ev_iinc dX3_iron_103 (pc' := 106) (v := v17) (ls' := [some (.ref 0), some (.int a5), none, some (.int w6), some (.int w7), some (.int v17)]) rfl rfl (by rw [e_v17]; rfl) (Nat.le_of_ble_eq_true rfl) rfl ?_
        refine ev_goto dX3_iron_106 (t := 35) rfl ?_
        exact ev_sub (lsub_c (lsub_c (lsub_c (lsub_c (lsub_c (lsub_c lsub_nil)))))) (ih w6 w7 v17 m14 h)
      · replace h := it_f c16 h
        refine ev_aload_n dX3_iron_91 (pc' := 92) rfl rfl ?_
        refine ev_getR (y := 11) dX3_iron_92 (pc' := 95) rfl fq_3_16 kn_0 rfl ?_
        obtain ⟨y18, x_y18, h⟩ := ob_of h
        refine ev_invV dX3_iron_95 (pc' := 98) rfl sq_3_125 mt_X2_allAmounts rfl (arecv_ob (x := 11) rfl rfl (by decide) kn_11) ⟨_, rfl, Nat.le_of_ble_eq_true rfl, Nat.le_of_ble_eq_true rfl, rfl, rfl⟩ ?_
        refine X2_allAmounts_ca kn_11 x_y18 ?_
        refine ev_r1 ?_
        refine ev_istore dX3_iron_98 (pc' := 100) (ls' := [some (.ref 0), some (.int a5), none, some (.int w6), some (.int y18), some (.int w8)]) rfl (Nat.le_of_ble_eq_true rfl) rfl ?_
        refine ev_iload dX3_iron_100 (pc' := 102) rfl rfl ?_
        refine ev_istore_n dX3_iron_102 (pc' := 103) (ls' := [some (.ref 0), some (.int a5), none, some (.int w8), some (.int y18), some (.int w8)]) rfl (Nat.le_of_ble_eq_true rfl) rfl ?_
        obtain ⟨v19, e_v19⟩ : ∃ y : Int32, y = (w8 + 1) := ⟨_, rfl⟩
        replace h := nm_at e_v19 h
        refine ev_iinc dX3_iron_103 (pc' := 106) (v := v19) (ls' := [some (.ref 0), some (.int a5), none, some (.int w8), some (.int y18), some (.int v19)]) rfl rfl (by rw [e_v19]; rfl) (Nat.le_of_ble_eq_true rfl) rfl ?_
        refine ev_goto dX3_iron_106 (t := 35) rfl ?_
        exact ev_sub (lsub_c (lsub_c (lsub_c (lsub_c (lsub_c (lsub_c lsub_nil)))))) (ih w8 y18 v19 m14 h)
set_option maxRecDepth 100000 in
set_option maxHeartbeats 8000000 in
theorem X3_iron_ca {S : Sc} {d : Nat} {a1 : Int32} {mem : Mm} {rr : Int32} {mr : Mm} {Q : Po}  (h : X3_iron 0 a1 mem = some (rr, mr)) (q : Q (some (.int rr)) mr) : Ca S (d + 6) 73 [.ref 0, .int a1] mem Q := by
  unfold X3_iron at h
  refine ca_in (by decide) mt_X3_iron (Nat.le_of_ble_eq_true rfl) ?_
  show Ev S (d + 5) 3 cX3_iron (some .int) 0 [some (.ref 0), some (.int a1), none, none, none, none] [] mem Q
  refine ev_iload_n dX3_iron_0 (pc' := 1) rfl rfl ?_
  refine ev_invS dX3_iron_1 (pc' := 4) rfl sq_3_118 mt_X3_yearsFault rfl ⟨_, rfl, Nat.le_of_ble_eq_true rfl, Nat.le_of_ble_eq_true rfl, rfl, rfl⟩ ?_
  refine X3_yearsFault_ca  rfl ?_
  refine ev_r1 ?_
  refine ev_topi (fun v1 e_v1 => ?_)
  replace h := nm_at e_v1 h
  refine ev_istore_n dX3_iron_4 (pc' := 5) (ls' := [some (.ref 0), some (.int a1), some (.int v1), none, none, none]) rfl (Nat.le_of_ble_eq_true rfl) rfl ?_
  refine ev_iload_n dX3_iron_5 (pc' := 6) rfl rfl ?_
  refine ev_if_eq dX3_iron_6 (pc' := 9) rfl (t := 15) rfl (fun c2 => ?_) (fun c2 => ?_)
  · replace h := it_t c2 h
    refine ev_aload_n dX3_iron_15 (pc' := 16) rfl rfl ?_
    refine ev_iload_n dX3_iron_16 (pc' := 17) rfl rfl ?_
    obtain ⟨m3, x_m3, h⟩ := ob_of h
    refine ev_invV dX3_iron_17 (pc' := 20) rfl sq_3_121 mt_X3_thinkOn rfl (arecv_ob (x := 0) rfl rfl (by decide) kn_0) ⟨_, rfl, Nat.le_of_ble_eq_true rfl, Nat.le_of_ble_eq_true rfl, rfl, rfl⟩ ?_
    refine X3_thinkOn_ca  x_m3 ?_
    refine ev_r0 ?_
    refine ev_bipush dX3_iron_20 (pc' := 22) (v := (-9)) rfl (by decide) ?_
    refine ev_istore_n dX3_iron_22 (pc' := 23) (ls' := [some (.ref 0), some (.int a1), some (.int v1), some (.int (-9)), none, none]) rfl (Nat.le_of_ble_eq_true rfl) rfl ?_
    refine ev_aload_n dX3_iron_23 (pc' := 24) rfl rfl ?_
    refine ev_getR (y := 11) dX3_iron_24 (pc' := 27) rfl fq_3_16 kn_0 rfl ?_
    obtain ⟨y4, x_y4, h⟩ := ob_of h
    refine ev_invV dX3_iron_27 (pc' := 30) rfl sq_3_125 mt_X2_allAmounts rfl (arecv_ob (x := 11) rfl rfl (by decide) kn_11) ⟨_, rfl, Nat.le_of_ble_eq_true rfl, Nat.le_of_ble_eq_true rfl, rfl, rfl⟩ ?_
    refine X2_allAmounts_ca kn_11 x_y4 ?_
    refine ev_r1 ?_
    refine ev_istore dX3_iron_30 (pc' := 32) (ls' := [some (.ref 0), some (.int a1), some (.int v1), some (.int (-9)), some (.int y4), none]) rfl (Nat.le_of_ble_eq_true rfl) rfl ?_
    refine ev_iconst dX3_iron_32 (pc' := 33) (v := 0) rfl (by decide) ?_
    refine ev_istore dX3_iron_33 (pc' := 35) (ls' := [some (.ref 0), some (.int a1), some (.int v1), some (.int (-9)), some (.int y4), some (.int 0)]) rfl (Nat.le_of_ble_eq_true rfl) rfl ?_
    exact ev_sub (lsub_c (lsub_c (lsub_n (lsub_c (lsub_c (lsub_c lsub_nil)))))) (X3_iron_L35_ev  q LF (-9) y4 0 m3 h)
  · replace h := it_f c2 h
    refine ev_aload_n dX3_iron_9 (pc' := 10) rfl rfl ?_
    refine ev_iload_n dX3_iron_10 (pc' := 11) rfl rfl ?_
    obtain ⟨y20, m21, x_y20, h⟩ := ob2_of h
    refine ev_invV dX3_iron_11 (pc' := 14) rfl sq_3_56 mt_X3_refuse rfl (arecv_ob (x := 0) rfl rfl (by decide) kn_0) ⟨_, rfl, Nat.le_of_ble_eq_true rfl, Nat.le_of_ble_eq_true rfl, rfl, rfl⟩ ?_
    refine X3_refuse_ca  x_y20 ?_
    refine ev_r1 ?_
    obtain ⟨rfl, rfl⟩ := rt2 h
    exact ev_ireturn dX3_iron_14 rfl q
def X3_row (_o : Nat) (a1 : Int32) (mem : Mm) : Option (Int32 × Mm) := nm (X3_rangeFault a1 0 99) (fun v1 => if v1 = 0 then (if (mem 0 6) < 12 then (if (mem 0 6) < 0 then (some ((mem 0 6), mem)) else (if 12 ≤ (mem 0 6) then (some ((mem 0 6), mem)) else (gd (vin (mem 0 6) 12) (nm (mset mem 33 ((mem 0 6)).toNatClampNeg a1) (fun m7 => nm (mset m7 0 6 ((m7 0 6) + 1)) (fun m8 => some ((m8 0 6), m8))))))) else (ob2 (X3_refuse 0 (-6) mem) (fun y9 m10 => some (y9, m10)))) else (ob2 (X3_refuse 0 v1 mem) (fun y11 m12 => some (y11, m12))))
set_option maxRecDepth 100000 in
set_option maxHeartbeats 8000000 in
theorem X3_row_ca {S : Sc} {d : Nat} {a1 : Int32} {mem : Mm} {rr : Int32} {mr : Mm} {Q : Po}  (h : X3_row 0 a1 mem = some (rr, mr)) (q : Q (some (.int rr)) mr) : Ca S (d + 2) 74 [.ref 0, .int a1] mem Q := by
  unfold X3_row at h
  refine ca_in (by decide) mt_X3_row (Nat.le_of_ble_eq_true rfl) ?_
  show Ev S (d + 1) 3 cX3_row (some .int) 0 [some (.ref 0), some (.int a1), none] [] mem Q
  refine ev_iload_n dX3_row_0 (pc' := 1) rfl rfl ?_
  refine ev_iconst dX3_row_1 (pc' := 2) (v := 0) rfl (by decide) ?_
  refine ev_bipush dX3_row_2 (pc' := 4) (v := 99) rfl (by decide) ?_
  refine ev_invS dX3_row_4 (pc' := 7) rfl sq_3_44 mt_X3_rangeFault rfl ⟨_, rfl, Nat.le_of_ble_eq_true rfl, Nat.le_of_ble_eq_true rfl, rfl, rfl⟩ ?_
  refine X3_rangeFault_ca  rfl ?_
  refine ev_r1 ?_
  refine ev_topi (fun v1 e_v1 => ?_)
  replace h := nm_at e_v1 h
  refine ev_istore_n dX3_row_7 (pc' := 8) (ls' := [some (.ref 0), some (.int a1), some (.int v1)]) rfl (Nat.le_of_ble_eq_true rfl) rfl ?_
  refine ev_iload_n dX3_row_8 (pc' := 9) rfl rfl ?_
  refine ev_if_ne dX3_row_9 (pc' := 12) rfl (t := 24) rfl (fun c2 => ?_) (fun c2 => ?_)
  · replace h := it_f c2 h
    refine ev_iload_n dX3_row_24 (pc' := 25) rfl rfl ?_
    refine ev_if_eq dX3_row_25 (pc' := 28) rfl (t := 34) rfl (fun q => absurd q c2) (fun _ => ?_)
    refine ev_aload_n dX3_row_28 (pc' := 29) rfl rfl ?_
    refine ev_iload_n dX3_row_29 (pc' := 30) rfl rfl ?_
    obtain ⟨y11, m12, x_y11, h⟩ := ob2_of h
    refine ev_invV dX3_row_30 (pc' := 33) rfl sq_3_56 mt_X3_refuse rfl (arecv_ob (x := 0) rfl rfl (by decide) kn_0) ⟨_, rfl, Nat.le_of_ble_eq_true rfl, Nat.le_of_ble_eq_true rfl, rfl, rfl⟩ ?_
    refine X3_refuse_ca  x_y11 ?_
    refine ev_r1 ?_
    obtain ⟨rfl, rfl⟩ := rt2 h
    exact ev_ireturn dX3_row_33 rfl q
  · replace h := it_t c2 h
    refine ev_aload_n dX3_row_12 (pc' := 13) rfl rfl ?_
    refine ev_get dX3_row_13 (pc' := 16) rfl fq_3_37 kn_0 rfl ?_
    refine ev_bipush dX3_row_16 (pc' := 18) (v := 12) rfl (by decide) ?_
    refine ev_icmp_lt dX3_row_18 (pc' := 21) rfl (t := 24) rfl (fun c3 => ?_) (fun c3 => ?_)
    · replace h := it_t c3 h
      refine ev_iload_n dX3_row_24 (pc' := 25) rfl rfl ?_
      refine ev_if_eq dX3_row_25 (pc' := 28) rfl (t := 34) rfl (fun _ => ?_) (fun q => absurd c2 q)
      refine ev_aload_n dX3_row_34 (pc' := 35) rfl rfl ?_
      refine ev_get dX3_row_35 (pc' := 38) rfl fq_3_37 kn_0 rfl ?_
      refine ev_if_lt dX3_row_38 (pc' := 41) rfl (t := 73) rfl (fun c4 => ?_) (fun c4 => ?_)
      · replace h := it_t c4 h
        refine ev_aload_n dX3_row_73 (pc' := 74) rfl rfl ?_
        refine ev_get dX3_row_74 (pc' := 77) rfl fq_3_37 kn_0 rfl ?_
        obtain ⟨rfl, rfl⟩ := rt2 h
        exact ev_ireturn dX3_row_77 rfl q
      · replace h := it_f c4 h
        refine ev_aload_n dX3_row_41 (pc' := 42) rfl rfl ?_
        refine ev_get dX3_row_42 (pc' := 45) rfl fq_3_37 kn_0 rfl ?_
        refine ev_aload_n dX3_row_45 (pc' := 46) rfl rfl ?_
        refine ev_getR (y := 33) dX3_row_46 (pc' := 49) rfl fq_3_33 kn_0 rfl ?_
        refine ev_alen (n := 12) dX3_row_49 (pc' := 50) rfl kn_33 rfl ?_
        refine ev_icmp_ge dX3_row_50 (pc' := 53) rfl (t := 73) rfl (fun c5 => ?_) (fun c5 => ?_)
        · replace h := it_t c5 h
          refine ev_aload_n dX3_row_73 (pc' := 74) rfl rfl ?_
          refine ev_get dX3_row_74 (pc' := 77) rfl fq_3_37 kn_0 rfl ?_
          obtain ⟨rfl, rfl⟩ := rt2 h
          exact ev_ireturn dX3_row_77 rfl q
        · replace h := it_f c5 h
          refine ev_aload_n dX3_row_53 (pc' := 54) rfl rfl ?_
          refine ev_getR (y := 33) dX3_row_54 (pc' := 57) rfl fq_3_33 kn_0 rfl ?_
          refine ev_aload_n dX3_row_57 (pc' := 58) rfl rfl ?_
          refine ev_get dX3_row_58 (pc' := 61) rfl fq_3_37 kn_0 rfl ?_
          refine ev_iload_n dX3_row_61 (pc' := 62) rfl rfl ?_
          obtain ⟨g6, h⟩ := gd_of h
          refine ev_iastK (k0 := ((mem 0 6)).toNatClampNeg) dX3_row_62 (pc' := 63) rfl kn_33 g6 rfl ?_
          refine ev_topm (fun m7 e_m7 => ?_)
          replace h := nm_at e_m7 h
          refine ev_aload_n dX3_row_63 (pc' := 64) rfl rfl ?_
          refine ev_dup dX3_row_64 (pc' := 65) rfl rfl ?_
          refine ev_get dX3_row_65 (pc' := 68) rfl fq_3_37 kn_0 rfl ?_
          refine ev_iconst dX3_row_68 (pc' := 69) (v := 1) rfl (by decide) ?_
          refine ev_iadd dX3_row_69 (pc' := 70) rfl ?_
          refine ev_put dX3_row_70 (pc' := 73) rfl fq_3_37 kn_0 rfl (Or.inl (by decide)) ?_
          refine ev_topm (fun m8 e_m8 => ?_)
          replace h := nm_at e_m8 h
          refine ev_aload_n dX3_row_73 (pc' := 74) rfl rfl ?_
          refine ev_get dX3_row_74 (pc' := 77) rfl fq_3_37 kn_0 rfl ?_
          obtain ⟨rfl, rfl⟩ := rt2 h
          exact ev_ireturn dX3_row_77 rfl q
    · replace h := it_f c3 h
      refine ev_bipush dX3_row_21 (pc' := 23) (v := (-6)) rfl (by decide) ?_
      refine ev_istore_n dX3_row_23 (pc' := 24) (ls' := [some (.ref 0), some (.int a1), some (.int (-6))]) rfl (Nat.le_of_ble_eq_true rfl) rfl ?_
      refine ev_iload_n dX3_row_24 (pc' := 25) rfl rfl ?_
      refine ev_if_eq dX3_row_25 (pc' := 28) rfl (t := 34) rfl (fun q => absurd q (by decide)) (fun _ => ?_)
      refine ev_aload_n dX3_row_28 (pc' := 29) rfl rfl ?_
      refine ev_iload_n dX3_row_29 (pc' := 30) rfl rfl ?_
      obtain ⟨y9, m10, x_y9, h⟩ := ob2_of h
      refine ev_invV dX3_row_30 (pc' := 33) rfl sq_3_56 mt_X3_refuse rfl (arecv_ob (x := 0) rfl rfl (by decide) kn_0) ⟨_, rfl, Nat.le_of_ble_eq_true rfl, Nat.le_of_ble_eq_true rfl, rfl, rfl⟩ ?_
      refine X3_refuse_ca  x_y9 ?_
      refine ev_r1 ?_
      obtain ⟨rfl, rfl⟩ := rt2 h
      exact ev_ireturn dX3_row_33 rfl q
def X3_firstNotSo_L2  (a1 : Int32) : Nat → Int32 → Mm → Option (Int32 × Mm)
  | 0, _, _ => none
  | n + 1, w2, m3 => if (m3 0 6) ≤ w2 then (some ((-9), m3)) else (if 12 ≤ w2 then (some ((-9), m3)) else (ob (X2_at 11 a1) (fun y6 => gd (vin w2 12) (if (mmin (m3 y6 2) 99) = (m3 33 (w2).toNatClampNeg) then (ob (X2_goOn 11 1 m3) (fun m9 => nm (w2 + 1) (fun v10 => X3_firstNotSo_L2 a1 n v10 m9))) else (some (w2, m3))))))
def X3_firstNotSo (_o : Nat) (a1 : Int32) (mem : Mm) : Option (Int32 × Mm) := X3_firstNotSo_L2 a1 LF 0 mem
set_option maxRecDepth 100000 in
set_option maxHeartbeats 8000000 in
theorem X3_firstNotSo_L2_ev {S : Sc} {d : Nat}  {a1 : Int32} {rr : Int32} {mr : Mm} {Q : Po}  (q : Q (some (.int rr)) mr) : ∀ (n : Nat) (w2 : Int32) (m3 : Mm), X3_firstNotSo_L2 a1 n w2 m3 = some (rr, mr) → Ev S (d + 4) 3 cX3_firstNotSo (some .int) 2 [some (.ref 0), some (.int a1), some (.int w2)] [] m3 Q := by
  intro n
  induction n with
  | zero => intro w2 m3 h; cases h
  | succ n ih =>
    intro w2 m3 h
    unfold X3_firstNotSo_L2 at h
    refine ev_iload_n dX3_firstNotSo_2 (pc' := 3) rfl rfl ?_
    refine ev_aload_n dX3_firstNotSo_3 (pc' := 4) rfl rfl ?_
    refine ev_get dX3_firstNotSo_4 (pc' := 7) rfl fq_3_37 kn_0 rfl ?_
    refine ev_icmp_ge dX3_firstNotSo_7 (pc' := 10) rfl (t := 60) rfl (fun c4 => ?_) (fun c4 => ?_)
    · replace h := it_t c4 h
      refine ev_bipush dX3_firstNotSo_60 (pc' := 62) (v := (-9)) rfl (by decide) ?_
      obtain ⟨rfl, rfl⟩ := rt2 h
      exact ev_ireturn dX3_firstNotSo_62 rfl q
    · replace h := it_f c4 h
      refine ev_iload_n dX3_firstNotSo_10 (pc' := 11) rfl rfl ?_
      refine ev_aload_n dX3_firstNotSo_11 (pc' := 12) rfl rfl ?_
      refine ev_getR (y := 33) dX3_firstNotSo_12 (pc' := 15) rfl fq_3_33 kn_0 rfl ?_
      refine ev_alen (n := 12) dX3_firstNotSo_15 (pc' := 16) rfl kn_33 rfl ?_
      refine ev_icmp_ge dX3_firstNotSo_16 (pc' := 19) rfl (t := 60) rfl (fun c5 => ?_) (fun c5 => ?_)
      · replace h := it_t c5 h
        refine ev_bipush dX3_firstNotSo_60 (pc' := 62) (v := (-9)) rfl (by decide) ?_
        obtain ⟨rfl, rfl⟩ := rt2 h
        exact ev_ireturn dX3_firstNotSo_62 rfl q
      · replace h := it_f c5 h
        refine ev_aload_n dX3_firstNotSo_19 (pc' := 20) rfl rfl ?_
        refine ev_getR (y := 11) dX3_firstNotSo_20 (pc' := 23) rfl fq_3_16 kn_0 rfl ?_
        refine ev_iload_n dX3_firstNotSo_23 (pc' := 24) rfl rfl ?_
        obtain ⟨y6, x_y6, h⟩ := ob_of h
        refine ev_invV dX3_firstNotSo_24 (pc' := 27) rfl sq_3_76 mt_X2_at rfl (arecv_ob (x := 11) rfl rfl (by decide) kn_11) ⟨_, rfl, Nat.le_of_ble_eq_true rfl, Nat.le_of_ble_eq_true rfl, rfl, rfl⟩ ?_
        refine X2_at_ca kn_11 x_y6 ?_
        refine ev_r1 ?_
        refine ev_get dX3_firstNotSo_27 (pc' := 30) rfl fq_3_88 (X2_at_kd kn_11 x_y6) rfl ?_
        refine ev_bipush dX3_firstNotSo_30 (pc' := 32) (v := 99) rfl (by decide) ?_
        refine ev_invS dX3_firstNotSo_32 (pc' := 35) rfl sq_3_178 mt_J9_min_7cf53 rfl ⟨_, rfl, Nat.le_of_ble_eq_true rfl, Nat.le_of_ble_eq_true rfl, rfl, rfl⟩ ?_
        refine ca_math (by decide) (r := some (.int (mmin (m3 y6 2) 99))) rfl ?_
        refine ev_r1 ?_
        refine ev_aload_n dX3_firstNotSo_35 (pc' := 36) rfl rfl ?_
        refine ev_getR (y := 33) dX3_firstNotSo_36 (pc' := 39) rfl fq_3_33 kn_0 rfl ?_
        refine ev_iload_n dX3_firstNotSo_39 (pc' := 40) rfl rfl ?_
        obtain ⟨g7, h⟩ := gd_of h
        refine ev_ialdK (k0 := (w2).toNatClampNeg) dX3_firstNotSo_40 (pc' := 41) rfl kn_33 g7 rfl ?_
        refine ev_icmp_eq dX3_firstNotSo_41 (pc' := 44) rfl (t := 46) rfl (fun c8 => ?_) (fun c8 => ?_)
        · replace h := it_t c8 h
          refine ev_aload_n dX3_firstNotSo_46 (pc' := 47) rfl rfl ?_
          refine ev_getR (y := 11) dX3_firstNotSo_47 (pc' := 50) rfl fq_3_16 kn_0 rfl ?_
          refine ev_iconst dX3_firstNotSo_50 (pc' := 51) (v := 1) rfl (by decide) ?_
          obtain ⟨m9, x_m9, h⟩ := ob_of h
          refine ev_invV dX3_firstNotSo_51 (pc' := 54) rfl sq_3_155 mt_X2_goOn rfl (arecv_ob (x := 11) rfl rfl (by decide) kn_11) ⟨_, rfl, Nat.le_of_ble_eq_true rfl, Nat.le_of_ble_eq_true rfl, rfl, rfl⟩ ?_
          refine X2_goOn_ca kn_11 x_m9 ?_
          refine ev_r0 ?_
          obtain ⟨v10, e_v10⟩ : ∃ y : Int32, y = (w2 + 1) := ⟨_, rfl⟩
          replace h := nm_at e_v10 h
          refine ev_iinc dX3_firstNotSo_54 (pc' := 57) (v := v10) (ls' := [some (.ref 0), some (.int a1), some (.int v10)]) rfl rfl (by rw [e_v10]; rfl) (Nat.le_of_ble_eq_true rfl) rfl ?_
          refine ev_goto dX3_firstNotSo_57 (t := 2) rfl ?_
          exact ev_sub (lsub_c (lsub_c (lsub_c lsub_nil))) (ih v10 m9 h)
        · replace h := it_f c8 h
          refine ev_iload_n dX3_firstNotSo_44 (pc' := 45) rfl rfl ?_
          obtain ⟨rfl, rfl⟩ := rt2 h
          exact ev_ireturn dX3_firstNotSo_45 rfl q
set_option maxRecDepth 100000 in
set_option maxHeartbeats 8000000 in
theorem X3_firstNotSo_ca {S : Sc} {d : Nat} {a1 : Int32} {mem : Mm} {rr : Int32} {mr : Mm} {Q : Po}  (h : X3_firstNotSo 0 a1 mem = some (rr, mr)) (q : Q (some (.int rr)) mr) : Ca S (d + 5) 101 [.ref 0, .int a1] mem Q := by
  unfold X3_firstNotSo at h
  refine ca_in (by decide) mt_X3_firstNotSo (Nat.le_of_ble_eq_true rfl) ?_
  show Ev S (d + 4) 3 cX3_firstNotSo (some .int) 0 [some (.ref 0), some (.int a1), none] [] mem Q
  refine ev_iconst dX3_firstNotSo_0 (pc' := 1) (v := 0) rfl (by decide) ?_
  refine ev_istore_n dX3_firstNotSo_1 (pc' := 2) (ls' := [some (.ref 0), some (.int a1), some (.int 0)]) rfl (Nat.le_of_ble_eq_true rfl) rfl ?_
  exact ev_sub (lsub_c (lsub_c (lsub_c lsub_nil))) (X3_firstNotSo_L2_ev  q LF 0 mem h)
def X3_kindsByRow_L4  (a1 : Int32) : Nat → Int32 → Int32 → Mm → Option (Int32 × Mm)
  | 0, _, _, _ => none
  | n + 1, w2, w3, m4 => if 6 ≤ w3 then (some (w2, m4)) else (ob (X2_become 11 1 m4) (fun m6 => ob (X2_at 11 a1) (fun y7 => nm (mset m6 y7 0 w3) (fun m8 => ob2 (X3_firstNotSo 0 a1 m8) (fun y9 m10 => if y9 = (-9) then (nm (w2 ||| (1 <<< (w3 &&& 31))) (fun v12 => nm (w3 + 1) (fun v13 => X3_kindsByRow_L4 a1 n v12 v13 m10))) else (nm (w3 + 1) (fun v14 => X3_kindsByRow_L4 a1 n w2 v14 m10)))))))
def X3_kindsByRow (_o : Nat) (a1 : Int32) (mem : Mm) : Option (Int32 × Mm) := X3_kindsByRow_L4 a1 LF 0 0 mem
set_option maxRecDepth 100000 in
set_option maxHeartbeats 8000000 in
theorem X3_kindsByRow_L4_ev {S : Sc} {d : Nat}  {a1 : Int32} {rr : Int32} {mr : Mm} {Q : Po}  (q : Q (some (.int rr)) mr) : ∀ (n : Nat) (w2 : Int32) (w3 : Int32) (m4 : Mm), X3_kindsByRow_L4 a1 n w2 w3 m4 = some (rr, mr) → Ev S (d + 5) 3 cX3_kindsByRow (some .int) 4 [some (.ref 0), some (.int a1), some (.int w2), some (.int w3)] [] m4 Q := by
  intro n
  induction n with
  | zero => intro w2 w3 m4 h; cases h
  | succ n ih =>
    intro w2 w3 m4 h
    unfold X3_kindsByRow_L4 at h
    refine ev_iload_n dX3_kindsByRow_4 (pc' := 5) rfl rfl ?_
    refine ev_bipush dX3_kindsByRow_5 (pc' := 7) (v := 6) rfl (by decide) ?_
    refine ev_icmp_ge dX3_kindsByRow_7 (pc' := 10) rfl (t := 55) rfl (fun c5 => ?_) (fun c5 => ?_)
    · replace h := it_t c5 h
      refine ev_iload_n dX3_kindsByRow_55 (pc' := 56) rfl rfl ?_
      obtain ⟨rfl, rfl⟩ := rt2 h
      exact ev_ireturn dX3_kindsByRow_56 rfl q
    · replace h := it_f c5 h
      refine ev_aload_n dX3_kindsByRow_10 (pc' := 11) rfl rfl ?_
      refine ev_getR (y := 11) dX3_kindsByRow_11 (pc' := 14) rfl fq_3_16 kn_0 rfl ?_
      refine ev_aload_n dX3_kindsByRow_14 (pc' := 15) rfl rfl ?_
      refine ev_getR (y := 1) dX3_kindsByRow_15 (pc' := 18) rfl fq_3_10 kn_0 rfl ?_
      obtain ⟨m6, x_m6, h⟩ := ob_of h
      refine ev_invV dX3_kindsByRow_18 (pc' := 21) rfl sq_3_151 mt_X2_become rfl (arecv_ob (x := 11) rfl rfl (by decide) kn_11) ⟨_, rfl, Nat.le_of_ble_eq_true rfl, Nat.le_of_ble_eq_true rfl, rfl, rfl⟩ ?_
      refine X2_become_ca kn_11 kn_1 x_m6 ?_
      refine ev_r0 ?_
      refine ev_aload_n dX3_kindsByRow_21 (pc' := 22) rfl rfl ?_
      refine ev_getR (y := 11) dX3_kindsByRow_22 (pc' := 25) rfl fq_3_16 kn_0 rfl ?_
      refine ev_iload_n dX3_kindsByRow_25 (pc' := 26) rfl rfl ?_
      obtain ⟨y7, x_y7, h⟩ := ob_of h
      refine ev_invV dX3_kindsByRow_26 (pc' := 29) rfl sq_3_76 mt_X2_at rfl (arecv_ob (x := 11) rfl rfl (by decide) kn_11) ⟨_, rfl, Nat.le_of_ble_eq_true rfl, Nat.le_of_ble_eq_true rfl, rfl, rfl⟩ ?_
      refine X2_at_ca kn_11 x_y7 ?_
      refine ev_r1 ?_
      refine ev_iload_n dX3_kindsByRow_29 (pc' := 30) rfl rfl ?_
      refine ev_put dX3_kindsByRow_30 (pc' := 33) rfl fq_3_80 (X2_at_kd kn_11 x_y7) rfl (Or.inl (by decide)) ?_
      refine ev_topm (fun m8 e_m8 => ?_)
      replace h := nm_at e_m8 h
      refine ev_aload_n dX3_kindsByRow_33 (pc' := 34) rfl rfl ?_
      refine ev_iload_n dX3_kindsByRow_34 (pc' := 35) rfl rfl ?_
      obtain ⟨y9, m10, x_y9, h⟩ := ob2_of h
      refine ev_invV dX3_kindsByRow_35 (pc' := 38) rfl sq_3_207 mt_X3_firstNotSo rfl (arecv_ob (x := 0) rfl rfl (by decide) kn_0) ⟨_, rfl, Nat.le_of_ble_eq_true rfl, Nat.le_of_ble_eq_true rfl, rfl, rfl⟩ ?_
      refine X3_firstNotSo_ca  x_y9 ?_
      refine ev_r1 ?_
      refine ev_bipush dX3_kindsByRow_38 (pc' := 40) (v := (-9)) rfl (by decide) ?_
      refine ev_icmp_ne dX3_kindsByRow_40 (pc' := 43) rfl (t := 49) rfl (fun c11 => ?_) (fun c11 => ?_)
      · replace h := it_f c11 h
        obtain ⟨v14, e_v14⟩ : ∃ y : Int32, y = (w3 + 1) := ⟨_, rfl⟩
        replace h := nm_at e_v14 h
        refine ev_iinc dX3_kindsByRow_49 (pc' := 52) (v := v14) (ls' := [some (.ref 0), some (.int a1), some (.int w2), some (.int v14)]) rfl rfl (by rw [e_v14]; rfl) (Nat.le_of_ble_eq_true rfl) rfl ?_
        refine ev_goto dX3_kindsByRow_52 (t := 4) rfl ?_
        exact ev_sub (lsub_c (lsub_c (lsub_c (lsub_c lsub_nil)))) (ih w2 v14 m10 h)
      · replace h := it_t c11 h
        refine ev_iload_n dX3_kindsByRow_43 (pc' := 44) rfl rfl ?_
        refine ev_iconst dX3_kindsByRow_44 (pc' := 45) (v := 1) rfl (by decide) ?_
        refine ev_iload_n dX3_kindsByRow_45 (pc' := 46) rfl rfl ?_
        refine ev_ishl dX3_kindsByRow_46 (pc' := 47) rfl ?_
        refine ev_ior dX3_kindsByRow_47 (pc' := 48) rfl ?_
        refine ev_topi (fun v12 e_v12 => ?_)
        replace h := nm_at e_v12 h
        refine ev_istore_n dX3_kindsByRow_48 (pc' := 49) (ls' := [some (.ref 0), some (.int a1), some (.int v12), some (.int w3)]) rfl (Nat.le_of_ble_eq_true rfl) rfl ?_
        obtain ⟨v13, e_v13⟩ : ∃ y : Int32, y = (w3 + 1) := ⟨_, rfl⟩
        replace h := nm_at e_v13 h
        refine ev_iinc dX3_kindsByRow_49 (pc' := 52) (v := v13) (ls' := [some (.ref 0), some (.int a1), some (.int v12), some (.int v13)]) rfl rfl (by rw [e_v13]; rfl) (Nat.le_of_ble_eq_true rfl) rfl ?_
        refine ev_goto dX3_kindsByRow_52 (t := 4) rfl ?_
        exact ev_sub (lsub_c (lsub_c (lsub_c (lsub_c lsub_nil)))) (ih v12 v13 m10 h)
set_option maxRecDepth 100000 in
set_option maxHeartbeats 8000000 in
theorem X3_kindsByRow_ca {S : Sc} {d : Nat} {a1 : Int32} {mem : Mm} {rr : Int32} {mr : Mm} {Q : Po}  (h : X3_kindsByRow 0 a1 mem = some (rr, mr)) (q : Q (some (.int rr)) mr) : Ca S (d + 6) 102 [.ref 0, .int a1] mem Q := by
  unfold X3_kindsByRow at h
  refine ca_in (by decide) mt_X3_kindsByRow (Nat.le_of_ble_eq_true rfl) ?_
  show Ev S (d + 5) 3 cX3_kindsByRow (some .int) 0 [some (.ref 0), some (.int a1), none, none] [] mem Q
  refine ev_iconst dX3_kindsByRow_0 (pc' := 1) (v := 0) rfl (by decide) ?_
  refine ev_istore_n dX3_kindsByRow_1 (pc' := 2) (ls' := [some (.ref 0), some (.int a1), some (.int 0), none]) rfl (Nat.le_of_ble_eq_true rfl) rfl ?_
  refine ev_iconst dX3_kindsByRow_2 (pc' := 3) (v := 0) rfl (by decide) ?_
  refine ev_istore_n dX3_kindsByRow_3 (pc' := 4) (ls' := [some (.ref 0), some (.int a1), some (.int 0), some (.int 0)]) rfl (Nat.le_of_ble_eq_true rfl) rfl ?_
  exact ev_sub (lsub_c (lsub_c (lsub_c (lsub_c lsub_nil)))) (X3_kindsByRow_L4_ev  q LF 0 0 mem h)
def X3_ratesByRow_L4  (a1 : Int32) : Nat → Int32 → Int32 → Mm → Option (Int32 × Mm)
  | 0, _, _, _ => none
  | n + 1, w2, w3, m4 => if 40 < w3 then (some (w2, m4)) else (ob (X2_become 11 1 m4) (fun m6 => nm2 (X2_choose 11 0 w3 m6) (fun y7 m8 => ob2 (X3_firstNotSo 0 a1 m8) (fun y9 m10 => if y9 = (-9) then (nm (w2 + 1) (fun v12 => nm (w3 + 1) (fun v13 => X3_ratesByRow_L4 a1 n v12 v13 m10))) else (nm (w3 + 1) (fun v14 => X3_ratesByRow_L4 a1 n w2 v14 m10))))))
def X3_ratesByRow (_o : Nat) (a1 : Int32) (mem : Mm) : Option (Int32 × Mm) := X3_ratesByRow_L4 a1 LF 0 0 mem
set_option maxRecDepth 100000 in
set_option maxHeartbeats 8000000 in
theorem X3_ratesByRow_L4_ev {S : Sc} {d : Nat}  {a1 : Int32} {rr : Int32} {mr : Mm} {Q : Po}  (q : Q (some (.int rr)) mr) : ∀ (n : Nat) (w2 : Int32) (w3 : Int32) (m4 : Mm), X3_ratesByRow_L4 a1 n w2 w3 m4 = some (rr, mr) → Ev S (d + 5) 3 cX3_ratesByRow (some .int) 4 [some (.ref 0), some (.int a1), some (.int w2), some (.int w3)] [] m4 Q := by
  intro n
  induction n with
  | zero => intro w2 w3 m4 h; cases h
  | succ n ih =>
    intro w2 w3 m4 h
    unfold X3_ratesByRow_L4 at h
    refine ev_iload_n dX3_ratesByRow_4 (pc' := 5) rfl rfl ?_
    refine ev_bipush dX3_ratesByRow_5 (pc' := 7) (v := 40) rfl (by decide) ?_
    refine ev_icmp_gt dX3_ratesByRow_7 (pc' := 10) rfl (t := 50) rfl (fun c5 => ?_) (fun c5 => ?_)
    · replace h := it_t c5 h
      refine ev_iload_n dX3_ratesByRow_50 (pc' := 51) rfl rfl ?_
      obtain ⟨rfl, rfl⟩ := rt2 h
      exact ev_ireturn dX3_ratesByRow_51 rfl q
    · replace h := it_f c5 h
      refine ev_aload_n dX3_ratesByRow_10 (pc' := 11) rfl rfl ?_
      refine ev_getR (y := 11) dX3_ratesByRow_11 (pc' := 14) rfl fq_3_16 kn_0 rfl ?_
      refine ev_aload_n dX3_ratesByRow_14 (pc' := 15) rfl rfl ?_
      refine ev_getR (y := 1) dX3_ratesByRow_15 (pc' := 18) rfl fq_3_10 kn_0 rfl ?_
      obtain ⟨m6, x_m6, h⟩ := ob_of h
      refine ev_invV dX3_ratesByRow_18 (pc' := 21) rfl sq_3_151 mt_X2_become rfl (arecv_ob (x := 11) rfl rfl (by decide) kn_11) ⟨_, rfl, Nat.le_of_ble_eq_true rfl, Nat.le_of_ble_eq_true rfl, rfl, rfl⟩ ?_
      refine X2_become_ca kn_11 kn_1 x_m6 ?_
      refine ev_r0 ?_
      refine ev_aload_n dX3_ratesByRow_21 (pc' := 22) rfl rfl ?_
      refine ev_getR (y := 11) dX3_ratesByRow_22 (pc' := 25) rfl fq_3_16 kn_0 rfl ?_
      refine ev_iconst dX3_ratesByRow_25 (pc' := 26) (v := 0) rfl (by decide) ?_
      refine ev_iload_n dX3_ratesByRow_26 (pc' := 27) rfl rfl ?_
      obtain ⟨y7, m8, x_y7, h⟩ := nm2_of h
      refine ev_invV dX3_ratesByRow_27 (pc' := 30) rfl sq_3_103 mt_X2_choose rfl (arecv_ob (x := 11) rfl rfl (by decide) kn_11) ⟨_, rfl, Nat.le_of_ble_eq_true rfl, Nat.le_of_ble_eq_true rfl, rfl, rfl⟩ ?_
      refine X2_choose_ca kn_11 x_y7 ?_
      refine ev_r1 ?_
      refine ev_pop dX3_ratesByRow_30 (pc' := 31) rfl rfl ?_
      refine ev_aload_n dX3_ratesByRow_31 (pc' := 32) rfl rfl ?_
      refine ev_iload_n dX3_ratesByRow_32 (pc' := 33) rfl rfl ?_
      obtain ⟨y9, m10, x_y9, h⟩ := ob2_of h
      refine ev_invV dX3_ratesByRow_33 (pc' := 36) rfl sq_3_207 mt_X3_firstNotSo rfl (arecv_ob (x := 0) rfl rfl (by decide) kn_0) ⟨_, rfl, Nat.le_of_ble_eq_true rfl, Nat.le_of_ble_eq_true rfl, rfl, rfl⟩ ?_
      refine X3_firstNotSo_ca  x_y9 ?_
      refine ev_r1 ?_
      refine ev_bipush dX3_ratesByRow_36 (pc' := 38) (v := (-9)) rfl (by decide) ?_
      refine ev_icmp_ne dX3_ratesByRow_38 (pc' := 41) rfl (t := 44) rfl (fun c11 => ?_) (fun c11 => ?_)
      · replace h := it_f c11 h
        obtain ⟨v14, e_v14⟩ : ∃ y : Int32, y = (w3 + 1) := ⟨_, rfl⟩
        replace h := nm_at e_v14 h
        refine ev_iinc dX3_ratesByRow_44 (pc' := 47) (v := v14) (ls' := [some (.ref 0), some (.int a1), some (.int w2), some (.int v14)]) rfl rfl (by rw [e_v14]; rfl) (Nat.le_of_ble_eq_true rfl) rfl ?_
        refine ev_goto dX3_ratesByRow_47 (t := 4) rfl ?_
        exact ev_sub (lsub_c (lsub_c (lsub_c (lsub_c lsub_nil)))) (ih w2 v14 m10 h)
      · replace h := it_t c11 h
        obtain ⟨v12, e_v12⟩ : ∃ y : Int32, y = (w2 + 1) := ⟨_, rfl⟩
        replace h := nm_at e_v12 h
        refine ev_iinc dX3_ratesByRow_41 (pc' := 44) (v := v12) (ls' := [some (.ref 0), some (.int a1), some (.int v12), some (.int w3)]) rfl rfl (by rw [e_v12]; rfl) (Nat.le_of_ble_eq_true rfl) rfl ?_
        obtain ⟨v13, e_v13⟩ : ∃ y : Int32, y = (w3 + 1) := ⟨_, rfl⟩
        replace h := nm_at e_v13 h
        refine ev_iinc dX3_ratesByRow_44 (pc' := 47) (v := v13) (ls' := [some (.ref 0), some (.int a1), some (.int v12), some (.int v13)]) rfl rfl (by rw [e_v13]; rfl) (Nat.le_of_ble_eq_true rfl) rfl ?_
        refine ev_goto dX3_ratesByRow_47 (t := 4) rfl ?_
        exact ev_sub (lsub_c (lsub_c (lsub_c (lsub_c lsub_nil)))) (ih v12 v13 m10 h)
set_option maxRecDepth 100000 in
set_option maxHeartbeats 8000000 in
theorem X3_ratesByRow_ca {S : Sc} {d : Nat} {a1 : Int32} {mem : Mm} {rr : Int32} {mr : Mm} {Q : Po}  (h : X3_ratesByRow 0 a1 mem = some (rr, mr)) (q : Q (some (.int rr)) mr) : Ca S (d + 6) 103 [.ref 0, .int a1] mem Q := by
  unfold X3_ratesByRow at h
  refine ca_in (by decide) mt_X3_ratesByRow (Nat.le_of_ble_eq_true rfl) ?_
  show Ev S (d + 5) 3 cX3_ratesByRow (some .int) 0 [some (.ref 0), some (.int a1), none, none] [] mem Q
  refine ev_iconst dX3_ratesByRow_0 (pc' := 1) (v := 0) rfl (by decide) ?_
  refine ev_istore_n dX3_ratesByRow_1 (pc' := 2) (ls' := [some (.ref 0), some (.int a1), some (.int 0), none]) rfl (Nat.le_of_ble_eq_true rfl) rfl ?_
  refine ev_iconst dX3_ratesByRow_2 (pc' := 3) (v := 0) rfl (by decide) ?_
  refine ev_istore_n dX3_ratesByRow_3 (pc' := 4) (ls' := [some (.ref 0), some (.int a1), some (.int 0), some (.int 0)]) rfl (Nat.le_of_ble_eq_true rfl) rfl ?_
  exact ev_sub (lsub_c (lsub_c (lsub_c (lsub_c lsub_nil)))) (X3_ratesByRow_L4_ev  q LF 0 0 mem h)
def X3_which (_o : Nat) (a1 : Int32) (a2 : Int32) (mem : Mm) : Option (Int32 × Mm) := nm (X3_firstOf (X2_caskFault 1 a1 mem) (X3_whatFault a2 1) 0) (fun v1 => if v1 = 0 then (if a2 = 0 then (ob2 (X3_kindsByRow 0 a1 mem) (fun y4 m5 => some (y4, m5))) else (ob2 (X3_ratesByRow 0 a1 mem) (fun y6 m7 => some (y6, m7)))) else (ob2 (X3_refuse 0 v1 mem) (fun y8 m9 => some (y8, m9))))
set_option maxRecDepth 100000 in
set_option maxHeartbeats 8000000 in
theorem X3_which_ca {S : Sc} {d : Nat} {a1 : Int32} {a2 : Int32} {mem : Mm} {rr : Int32} {mr : Mm} {Q : Po}  (h : X3_which 0 a1 a2 mem = some (rr, mr)) (q : Q (some (.int rr)) mr) : Ca S (d + 7) 75 [.ref 0, .int a1, .int a2] mem Q := by
  unfold X3_which at h
  refine ca_in (by decide) mt_X3_which (Nat.le_of_ble_eq_true rfl) ?_
  show Ev S (d + 6) 3 cX3_which (some .int) 0 [some (.ref 0), some (.int a1), some (.int a2), none] [] mem Q
  refine ev_aload_n dX3_which_0 (pc' := 1) rfl rfl ?_
  refine ev_getR (y := 1) dX3_which_1 (pc' := 4) rfl fq_3_10 kn_0 rfl ?_
  refine ev_iload_n dX3_which_4 (pc' := 5) rfl rfl ?_
  refine ev_invV dX3_which_5 (pc' := 8) rfl sq_3_66 mt_X2_caskFault rfl (arecv_ob (x := 1) rfl rfl (by decide) kn_1) ⟨_, rfl, Nat.le_of_ble_eq_true rfl, Nat.le_of_ble_eq_true rfl, rfl, rfl⟩ ?_
  refine X2_caskFault_ca kn_1 rfl ?_
  refine ev_r1 ?_
  refine ev_iload_n dX3_which_8 (pc' := 9) rfl rfl ?_
  refine ev_iconst dX3_which_9 (pc' := 10) (v := 1) rfl (by decide) ?_
  refine ev_invS dX3_which_10 (pc' := 13) rfl sq_3_69 mt_X3_whatFault rfl ⟨_, rfl, Nat.le_of_ble_eq_true rfl, Nat.le_of_ble_eq_true rfl, rfl, rfl⟩ ?_
  refine X3_whatFault_ca  rfl ?_
  refine ev_r1 ?_
  refine ev_iconst dX3_which_13 (pc' := 14) (v := 0) rfl (by decide) ?_
  refine ev_invS dX3_which_14 (pc' := 17) rfl sq_3_73 mt_X3_firstOf rfl ⟨_, rfl, Nat.le_of_ble_eq_true rfl, Nat.le_of_ble_eq_true rfl, rfl, rfl⟩ ?_
  refine X3_firstOf_ca  rfl ?_
  refine ev_r1 ?_
  refine ev_topi (fun v1 e_v1 => ?_)
  replace h := nm_at e_v1 h
  refine ev_istore_n dX3_which_17 (pc' := 18) (ls' := [some (.ref 0), some (.int a1), some (.int a2), some (.int v1)]) rfl (Nat.le_of_ble_eq_true rfl) rfl ?_
  refine ev_iload_n dX3_which_18 (pc' := 19) rfl rfl ?_
  refine ev_if_eq dX3_which_19 (pc' := 22) rfl (t := 28) rfl (fun c2 => ?_) (fun c2 => ?_)
  · replace h := it_t c2 h
    refine ev_iload_n dX3_which_28 (pc' := 29) rfl rfl ?_
    refine ev_if_ne dX3_which_29 (pc' := 32) rfl (t := 40) rfl (fun c3 => ?_) (fun c3 => ?_)
    · replace h := it_f c3 h
      refine ev_aload_n dX3_which_40 (pc' := 41) rfl rfl ?_
      refine ev_iload_n dX3_which_41 (pc' := 42) rfl rfl ?_
      obtain ⟨y6, m7, x_y6, h⟩ := ob2_of h
      refine ev_invV dX3_which_42 (pc' := 45) rfl sq_3_204 mt_X3_ratesByRow rfl (arecv_ob (x := 0) rfl rfl (by decide) kn_0) ⟨_, rfl, Nat.le_of_ble_eq_true rfl, Nat.le_of_ble_eq_true rfl, rfl, rfl⟩ ?_
      refine X3_ratesByRow_ca  x_y6 ?_
      refine ev_r1 ?_
      obtain ⟨rfl, rfl⟩ := rt2 h
      exact ev_ireturn dX3_which_45 rfl q
    · replace h := it_t c3 h
      refine ev_aload_n dX3_which_32 (pc' := 33) rfl rfl ?_
      refine ev_iload_n dX3_which_33 (pc' := 34) rfl rfl ?_
      obtain ⟨y4, m5, x_y4, h⟩ := ob2_of h
      refine ev_invV dX3_which_34 (pc' := 37) rfl sq_3_201 mt_X3_kindsByRow rfl (arecv_ob (x := 0) rfl rfl (by decide) kn_0) ⟨_, rfl, Nat.le_of_ble_eq_true rfl, Nat.le_of_ble_eq_true rfl, rfl, rfl⟩ ?_
      refine X3_kindsByRow_ca  x_y4 ?_
      refine ev_r1 ?_
      refine ev_goto dX3_which_37 (t := 45) rfl ?_
      obtain ⟨rfl, rfl⟩ := rt2 h
      exact ev_ireturn dX3_which_45 rfl q
  · replace h := it_f c2 h
    refine ev_aload_n dX3_which_22 (pc' := 23) rfl rfl ?_
    refine ev_iload_n dX3_which_23 (pc' := 24) rfl rfl ?_
    obtain ⟨y8, m9, x_y8, h⟩ := ob2_of h
    refine ev_invV dX3_which_24 (pc' := 27) rfl sq_3_56 mt_X3_refuse rfl (arecv_ob (x := 0) rfl rfl (by decide) kn_0) ⟨_, rfl, Nat.le_of_ble_eq_true rfl, Nat.le_of_ble_eq_true rfl, rfl, rfl⟩ ?_
    refine X3_refuse_ca  x_y8 ?_
    refine ev_r1 ?_
    obtain ⟨rfl, rfl⟩ := rt2 h
    exact ev_ireturn dX3_which_27 rfl q
def X3_judge (_o : Nat) (a1 : Int32) (mem : Mm) : Option (Int32 × Mm) := nm (X2_caskFault 1 a1 mem) (fun v1 => if v1 = 0 then (ob (X2_become 11 1 mem) (fun m3 => ob2 (X3_firstNotSo 0 a1 m3) (fun y4 m5 => nm (mset m5 0 6 0) (fun m6 => some (y4, m6))))) else (ob2 (X3_refuse 0 v1 mem) (fun y7 m8 => some (y7, m8))))
set_option maxRecDepth 100000 in
set_option maxHeartbeats 8000000 in
theorem X3_judge_ca {S : Sc} {d : Nat} {a1 : Int32} {mem : Mm} {rr : Int32} {mr : Mm} {Q : Po}  (h : X3_judge 0 a1 mem = some (rr, mr)) (q : Q (some (.int rr)) mr) : Ca S (d + 6) 76 [.ref 0, .int a1] mem Q := by
  unfold X3_judge at h
  refine ca_in (by decide) mt_X3_judge (Nat.le_of_ble_eq_true rfl) ?_
  show Ev S (d + 5) 3 cX3_judge (some .int) 0 [some (.ref 0), some (.int a1), none, none] [] mem Q
  refine ev_aload_n dX3_judge_0 (pc' := 1) rfl rfl ?_
  refine ev_getR (y := 1) dX3_judge_1 (pc' := 4) rfl fq_3_10 kn_0 rfl ?_
  refine ev_iload_n dX3_judge_4 (pc' := 5) rfl rfl ?_
  refine ev_invV dX3_judge_5 (pc' := 8) rfl sq_3_66 mt_X2_caskFault rfl (arecv_ob (x := 1) rfl rfl (by decide) kn_1) ⟨_, rfl, Nat.le_of_ble_eq_true rfl, Nat.le_of_ble_eq_true rfl, rfl, rfl⟩ ?_
  refine X2_caskFault_ca kn_1 rfl ?_
  refine ev_r1 ?_
  refine ev_topi (fun v1 e_v1 => ?_)
  replace h := nm_at e_v1 h
  refine ev_istore_n dX3_judge_8 (pc' := 9) (ls' := [some (.ref 0), some (.int a1), some (.int v1), none]) rfl (Nat.le_of_ble_eq_true rfl) rfl ?_
  refine ev_iload_n dX3_judge_9 (pc' := 10) rfl rfl ?_
  refine ev_if_eq dX3_judge_10 (pc' := 13) rfl (t := 19) rfl (fun c2 => ?_) (fun c2 => ?_)
  · replace h := it_t c2 h
    refine ev_aload_n dX3_judge_19 (pc' := 20) rfl rfl ?_
    refine ev_getR (y := 11) dX3_judge_20 (pc' := 23) rfl fq_3_16 kn_0 rfl ?_
    refine ev_aload_n dX3_judge_23 (pc' := 24) rfl rfl ?_
    refine ev_getR (y := 1) dX3_judge_24 (pc' := 27) rfl fq_3_10 kn_0 rfl ?_
    obtain ⟨m3, x_m3, h⟩ := ob_of h
    refine ev_invV dX3_judge_27 (pc' := 30) rfl sq_3_151 mt_X2_become rfl (arecv_ob (x := 11) rfl rfl (by decide) kn_11) ⟨_, rfl, Nat.le_of_ble_eq_true rfl, Nat.le_of_ble_eq_true rfl, rfl, rfl⟩ ?_
    refine X2_become_ca kn_11 kn_1 x_m3 ?_
    refine ev_r0 ?_
    refine ev_aload_n dX3_judge_30 (pc' := 31) rfl rfl ?_
    refine ev_iload_n dX3_judge_31 (pc' := 32) rfl rfl ?_
    obtain ⟨y4, m5, x_y4, h⟩ := ob2_of h
    refine ev_invV dX3_judge_32 (pc' := 35) rfl sq_3_207 mt_X3_firstNotSo rfl (arecv_ob (x := 0) rfl rfl (by decide) kn_0) ⟨_, rfl, Nat.le_of_ble_eq_true rfl, Nat.le_of_ble_eq_true rfl, rfl, rfl⟩ ?_
    refine X3_firstNotSo_ca  x_y4 ?_
    refine ev_r1 ?_
    refine ev_istore_n dX3_judge_35 (pc' := 36) (ls' := [some (.ref 0), some (.int a1), some (.int v1), some (.int y4)]) rfl (Nat.le_of_ble_eq_true rfl) rfl ?_
    refine ev_aload_n dX3_judge_36 (pc' := 37) rfl rfl ?_
    refine ev_iconst dX3_judge_37 (pc' := 38) (v := 0) rfl (by decide) ?_
    refine ev_put dX3_judge_38 (pc' := 41) rfl fq_3_37 kn_0 rfl (Or.inl (by decide)) ?_
    refine ev_topm (fun m6 e_m6 => ?_)
    replace h := nm_at e_m6 h
    refine ev_iload_n dX3_judge_41 (pc' := 42) rfl rfl ?_
    obtain ⟨rfl, rfl⟩ := rt2 h
    exact ev_ireturn dX3_judge_42 rfl q
  · replace h := it_f c2 h
    refine ev_aload_n dX3_judge_13 (pc' := 14) rfl rfl ?_
    refine ev_iload_n dX3_judge_14 (pc' := 15) rfl rfl ?_
    obtain ⟨y7, m8, x_y7, h⟩ := ob2_of h
    refine ev_invV dX3_judge_15 (pc' := 18) rfl sq_3_56 mt_X3_refuse rfl (arecv_ob (x := 0) rfl rfl (by decide) kn_0) ⟨_, rfl, Nat.le_of_ble_eq_true rfl, Nat.le_of_ble_eq_true rfl, rfl, rfl⟩ ?_
    refine X3_refuse_ca  x_y7 ?_
    refine ev_r1 ?_
    obtain ⟨rfl, rfl⟩ := rt2 h
    exact ev_ireturn dX3_judge_18 rfl q
