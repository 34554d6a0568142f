def X3_low_L45  (a4 : Int32) (a5 : Int32) : Nat → Int32 → Mm → Option (Int32 × Mm)
  | 0, _, _ => none
  | n + 1, w6, m7 => if 200 < w6 then (some ((-9), m7)) else (ob (X2_at 11 a4) (fun y9 => if a5 < (m7 y9 2) then (ob (X2_goOn 11 1 m7) (fun m11 => nm (w6 + 1) (fun v12 => X3_low_L45 a4 a5 n v12 m11))) else (some (w6, m7))))
def X3_low (_o : Nat) (a1 : Int32) (a2 : Int32) (mem : Mm) : Option (Int32 × Mm) := nm (X3_firstOf (X2_caskFault 1 a1 mem) (X3_rangeFault a2 0 400) 0) (fun v1 => if v1 = 0 then (ob (X2_become 11 1 mem) (fun m3 => X3_low_L45 a1 a2 LF 0 m3)) else (ob2 (X3_refuse 0 v1 mem) (fun y13 m14 => some (y13, m14))))
set_option maxRecDepth 100000 in
set_option maxHeartbeats 8000000 in
theorem X3_low_L45_ev {S : Sc} {d : Nat}  {a4 : Int32} {a5 : Int32} {rr : Int32} {mr : Mm} {Q : Po}  (q : Q (some (.int rr)) mr) : ∀ (n : Nat) (w6 : Int32) (m7 : Mm), X3_low_L45 a4 a5 n w6 m7 = some (rr, mr) → Ev S (d + 4) 3 cX3_low (some .int) 45 [some (.ref 0), some (.int a4), some (.int a5), none, some (.int w6)] [] m7 Q := by
  intro n
  induction n with
  | zero => intro w6 m7 h; cases h
  | succ n ih =>
    intro w6 m7 h
    unfold X3_low_L45 at h
    refine ev_iload dX3_low_45 (pc' := 47) rfl rfl ?_
    refine ev_sipush dX3_low_47 (pc' := 50) (v := 200) rfl (by decide) ?_
    refine ev_icmp_gt dX3_low_50 (pc' := 53) rfl (t := 85) rfl (fun c8 => ?_) (fun c8 => ?_)
    · replace h := it_t c8 h
      refine ev_bipush dX3_low_85 (pc' := 87) (v := (-9)) rfl (by decide) ?_
      obtain ⟨rfl, rfl⟩ := rt2 h
      exact ev_ireturn dX3_low_87 rfl q
    · replace h := it_f c8 h
      refine ev_aload_n dX3_low_53 (pc' := 54) rfl rfl ?_
      refine ev_getR (y := 11) dX3_low_54 (pc' := 57) rfl fq_3_16 kn_0 rfl ?_
      refine ev_iload_n dX3_low_57 (pc' := 58) rfl rfl ?_
      obtain ⟨y9, x_y9, h⟩ := ob_of h
      refine ev_invV dX3_low_58 (pc' := 61) rfl sq_3_76 mt_X2_at rfl (arecv_ob (x := 11) rfl rfl (by decide) kn_11) ⟨_, rfl, Nat.le_of_ble_eq_true rfl, Nat.le_of_ble_eq_true rfl, rfl, rfl⟩ ?_
      refine X2_at_ca kn_11 x_y9 ?_
      refine ev_r1 ?_
      refine ev_get dX3_low_61 (pc' := 64) rfl fq_3_88 (X2_at_kd kn_11 x_y9) rfl ?_
      refine ev_iload_n dX3_low_64 (pc' := 65) rfl rfl ?_
      refine ev_icmp_gt dX3_low_65 (pc' := 68) rfl (t := 71) rfl (fun c10 => ?_) (fun c10 => ?_)
      · replace h := it_t c10 h
        refine ev_aload_n dX3_low_71 (pc' := 72) rfl rfl ?_
        refine ev_getR (y := 11) dX3_low_72 (pc' := 75) rfl fq_3_16 kn_0 rfl ?_
        refine ev_iconst dX3_low_75 (pc' := 76) (v := 1) rfl (by decide) ?_
        obtain ⟨m11, x_m11, h⟩ := ob_of h
        refine ev_invV dX3_low_76 (pc' := 79) rfl sq_3_155 mt_X2_goOn rfl (arecv_ob (x := 11) rfl rfl (by decide) kn_11) ⟨_, rfl, Nat.le_of_ble_eq_true rfl, Nat.le_of_ble_eq_true rfl, rfl, rfl⟩ ?_
        refine X2_goOn_ca kn_11 x_m11 ?_
        refine ev_r0 ?_
        obtain ⟨v12, e_v12⟩ : ∃ y : Int32, y = (w6 + 1) := ⟨_, rfl⟩
        replace h := nm_at e_v12 h
        refine ev_iinc dX3_low_79 (pc' := 82) (v := v12) (ls' := [some (.ref 0), some (.int a4), some (.int a5), none, some (.int v12)]) rfl rfl (by rw [e_v12]; rfl) (Nat.le_of_ble_eq_true rfl) rfl ?_
        refine ev_goto dX3_low_82 (t := 45) rfl ?_
        exact ev_sub (lsub_c (lsub_c (lsub_c (lsub_c (lsub_c lsub_nil))))) (ih v12 m11 h)
      · replace h := it_f c10 h
        refine ev_iload dX3_low_68 (pc' := 70) rfl rfl ?_
        obtain ⟨rfl, rfl⟩ := rt2 h
        exact ev_ireturn dX3_low_70 rfl q
set_option maxRecDepth 100000 in
set_option maxHeartbeats 8000000 in
theorem X3_low_ca {S : Sc} {d : Nat} {a1 : Int32} {a2 : Int32} {mem : Mm} {rr : Int32} {mr : Mm} {Q : Po}  (h : X3_low 0 a1 a2 mem = some (rr, mr)) (q : Q (some (.int rr)) mr) : Ca S (d + 5) 63 [.ref 0, .int a1, .int a2] mem Q := by
  unfold X3_low at h
  refine ca_in (by decide) mt_X3_low (Nat.le_of_ble_eq_true rfl) ?_
  show Ev S (d + 4) 3 cX3_low (some .int) 0 [some (.ref 0), some (.int a1), some (.int a2), none, none] [] mem Q
  refine ev_aload_n dX3_low_0 (pc' := 1) rfl rfl ?_
  refine ev_getR (y := 1) dX3_low_1 (pc' := 4) rfl fq_3_10 kn_0 rfl ?_
  refine ev_iload_n dX3_low_4 (pc' := 5) rfl rfl ?_
  refine ev_invV dX3_low_5 (pc' := 8) rfl sq_3_66 mt_X2_caskFault rfl (arecv_ob (x := 1) rfl rfl (by decide) kn_1) ⟨_, rfl, Nat.le_of_ble_eq_true rfl, Nat.le_of_ble_eq_true rfl, rfl, rfl⟩ ?_
  refine X2_caskFault_ca kn_1 rfl ?_
  refine ev_r1 ?_
  refine ev_iload_n dX3_low_8 (pc' := 9) rfl rfl ?_
  refine ev_iconst dX3_low_9 (pc' := 10) (v := 0) rfl (by decide) ?_
  refine ev_sipush dX3_low_10 (pc' := 13) (v := 400) rfl (by decide) ?_
  refine ev_invS dX3_low_13 (pc' := 16) rfl sq_3_44 mt_X3_rangeFault rfl ⟨_, rfl, Nat.le_of_ble_eq_true rfl, Nat.le_of_ble_eq_true rfl, rfl, rfl⟩ ?_
  refine X3_rangeFault_ca  rfl ?_
  refine ev_r1 ?_
  refine ev_iconst dX3_low_16 (pc' := 17) (v := 0) rfl (by decide) ?_
  refine ev_invS dX3_low_17 (pc' := 20) rfl sq_3_73 mt_X3_firstOf rfl ⟨_, rfl, Nat.le_of_ble_eq_true rfl, Nat.le_of_ble_eq_true rfl, rfl, rfl⟩ ?_
  refine X3_firstOf_ca  rfl ?_
  refine ev_r1 ?_
  refine ev_topi (fun v1 e_v1 => ?_)
  replace h := nm_at e_v1 h
  refine ev_istore_n dX3_low_20 (pc' := 21) (ls' := [some (.ref 0), some (.int a1), some (.int a2), some (.int v1), none]) rfl (Nat.le_of_ble_eq_true rfl) rfl ?_
  refine ev_iload_n dX3_low_21 (pc' := 22) rfl rfl ?_
  refine ev_if_eq dX3_low_22 (pc' := 25) rfl (t := 31) rfl (fun c2 => ?_) (fun c2 => ?_)
  · replace h := it_t c2 h
    refine ev_aload_n dX3_low_31 (pc' := 32) rfl rfl ?_
    refine ev_getR (y := 11) dX3_low_32 (pc' := 35) rfl fq_3_16 kn_0 rfl ?_
    refine ev_aload_n dX3_low_35 (pc' := 36) rfl rfl ?_
    refine ev_getR (y := 1) dX3_low_36 (pc' := 39) rfl fq_3_10 kn_0 rfl ?_
    obtain ⟨m3, x_m3, h⟩ := ob_of h
    refine ev_invV dX3_low_39 (pc' := 42) rfl sq_3_151 mt_X2_become rfl (arecv_ob (x := 11) rfl rfl (by decide) kn_11) ⟨_, rfl, Nat.le_of_ble_eq_true rfl, Nat.le_of_ble_eq_true rfl, rfl, rfl⟩ ?_
    refine X2_become_ca kn_11 kn_1 x_m3 ?_
    refine ev_r0 ?_
    refine ev_iconst dX3_low_42 (pc' := 43) (v := 0) rfl (by decide) ?_
    refine ev_istore dX3_low_43 (pc' := 45) (ls' := [some (.ref 0), some (.int a1), some (.int a2), some (.int v1), some (.int 0)]) rfl (Nat.le_of_ble_eq_true rfl) rfl ?_
    exact ev_sub (lsub_c (lsub_c (lsub_c (lsub_n (lsub_c lsub_nil))))) (X3_low_L45_ev  q LF 0 m3 h)
  · replace h := it_f c2 h
    refine ev_aload_n dX3_low_25 (pc' := 26) rfl rfl ?_
    refine ev_iload_n dX3_low_26 (pc' := 27) rfl rfl ?_
    obtain ⟨y13, m14, x_y13, h⟩ := ob2_of h
    refine ev_invV dX3_low_27 (pc' := 30) rfl sq_3_56 mt_X3_refuse rfl (arecv_ob (x := 0) rfl rfl (by decide) kn_0) ⟨_, rfl, Nat.le_of_ble_eq_true rfl, Nat.le_of_ble_eq_true rfl, rfl, rfl⟩ ?_
    refine X3_refuse_ca  x_y13 ?_
    refine ev_r1 ?_
    obtain ⟨rfl, rfl⟩ := rt2 h
    exact ev_ireturn dX3_low_30 rfl q
def X3_turns_L13   : Nat → Int32 → Mm → Option (Int32 × Mm)
  | 0, _, _ => none
  | n + 1, w2, m3 => if 200 < w2 then (some ((-9), m3)) else (ob (X2_allTaken 11 m3) (fun y5 => ob (X2_goOn 11 1 m3) (fun m6 => ob (X2_allTaken 11 m6) (fun y7 => if y5 ≤ y7 then (nm (w2 + 1) (fun v9 => X3_turns_L13  n v9 m6)) else (some (w2, m6))))))
def X3_turns (_o : Nat) (mem : Mm) : Option (Int32 × Mm) := ob (X2_become 11 1 mem) (fun m1 => X3_turns_L13  LF 1 m1)
set_option maxRecDepth 100000 in
set_option maxHeartbeats 8000000 in
theorem X3_turns_L13_ev {S : Sc} {d : Nat}   {rr : Int32} {mr : Mm} {Q : Po}  (q : Q (some (.int rr)) mr) : ∀ (n : Nat) (w2 : Int32) (m3 : Mm), X3_turns_L13  n w2 m3 = some (rr, mr) → Ev S (d + 4) 3 cX3_turns (some .int) 13 [some (.ref 0), some (.int w2), none] [] m3 Q := by
  intro n
  induction n with
  | zero => intro w2 m3 h; cases h
  | succ n ih =>
    intro w2 m3 h
    unfold X3_turns_L13 at h
    refine ev_iload_n dX3_turns_13 (pc' := 14) rfl rfl ?_
    refine ev_sipush dX3_turns_14 (pc' := 17) (v := 200) rfl (by decide) ?_
    refine ev_icmp_gt dX3_turns_17 (pc' := 20) rfl (t := 55) rfl (fun c4 => ?_) (fun c4 => ?_)
    · replace h := it_t c4 h
      refine ev_bipush dX3_turns_55 (pc' := 57) (v := (-9)) rfl (by decide) ?_
      obtain ⟨rfl, rfl⟩ := rt2 h
      exact ev_ireturn dX3_turns_57 rfl q
    · replace h := it_f c4 h
      refine ev_aload_n dX3_turns_20 (pc' := 21) rfl rfl ?_
      refine ev_getR (y := 11) dX3_turns_21 (pc' := 24) rfl fq_3_16 kn_0 rfl ?_
      obtain ⟨y5, x_y5, h⟩ := ob_of h
      refine ev_invV dX3_turns_24 (pc' := 27) rfl sq_3_128 mt_X2_allTaken rfl (arecv_ob (x := 11) rfl rfl (by decide) kn_11) ⟨_, rfl, Nat.le_of_ble_eq_true rfl, Nat.le_of_ble_eq_true rfl, rfl, rfl⟩ ?_
      refine X2_allTaken_ca kn_11 x_y5 ?_
      refine ev_r1 ?_
      refine ev_istore_n dX3_turns_27 (pc' := 28) (ls' := [some (.ref 0), some (.int w2), some (.int y5)]) rfl (Nat.le_of_ble_eq_true rfl) rfl ?_
      refine ev_aload_n dX3_turns_28 (pc' := 29) rfl rfl ?_
      refine ev_getR (y := 11) dX3_turns_29 (pc' := 32) rfl fq_3_16 kn_0 rfl ?_
      refine ev_iconst dX3_turns_32 (pc' := 33) (v := 1) rfl (by decide) ?_
      obtain ⟨m6, x_m6, h⟩ := ob_of h
      refine ev_invV dX3_turns_33 (pc' := 36) rfl sq_3_155 mt_X2_goOn rfl (arecv_ob (x := 11) rfl rfl (by decide) kn_11) ⟨_, rfl, Nat.le_of_ble_eq_true rfl, Nat.le_of_ble_eq_true rfl, rfl, rfl⟩ ?_
      refine X2_goOn_ca kn_11 x_m6 ?_
      refine ev_r0 ?_
      refine ev_aload_n dX3_turns_36 (pc' := 37) rfl rfl ?_
      refine ev_getR (y := 11) dX3_turns_37 (pc' := 40) rfl fq_3_16 kn_0 rfl ?_
      obtain ⟨y7, x_y7, h⟩ := ob_of h
      refine ev_invV dX3_turns_40 (pc' := 43) rfl sq_3_128 mt_X2_allTaken rfl (arecv_ob (x := 11) rfl rfl (by decide) kn_11) ⟨_, rfl, Nat.le_of_ble_eq_true rfl, Nat.le_of_ble_eq_true rfl, rfl, rfl⟩ ?_
      refine X2_allTaken_ca kn_11 x_y7 ?_
      refine ev_r1 ?_
      refine ev_iload_n dX3_turns_43 (pc' := 44) rfl rfl ?_
      refine ev_icmp_ge dX3_turns_44 (pc' := 47) rfl (t := 49) rfl (fun c8 => ?_) (fun c8 => ?_)
      · replace h := it_t c8 h
        obtain ⟨v9, e_v9⟩ : ∃ y : Int32, y = (w2 + 1) := ⟨_, rfl⟩
        replace h := nm_at e_v9 h
        refine ev_iinc dX3_turns_49 (pc' := 52) (v := v9) (ls' := [some (.ref 0), some (.int v9), some (.int y5)]) rfl rfl (by rw [e_v9]; rfl) (Nat.le_of_ble_eq_true rfl) rfl ?_
        refine ev_goto dX3_turns_52 (t := 13) rfl ?_
        exact ev_sub (lsub_c (lsub_c (lsub_n lsub_nil))) (ih v9 m6 h)
      · replace h := it_f c8 h
        refine ev_iload_n dX3_turns_47 (pc' := 48) rfl rfl ?_
        obtain ⟨rfl, rfl⟩ := rt2 h
        exact ev_ireturn dX3_turns_48 rfl q
set_option maxRecDepth 100000 in
set_option maxHeartbeats 8000000 in
theorem X3_turns_ca {S : Sc} {d : Nat}  {mem : Mm} {rr : Int32} {mr : Mm} {Q : Po}  (h : X3_turns 0 mem = some (rr, mr)) (q : Q (some (.int rr)) mr) : Ca S (d + 5) 64 [.ref 0] mem Q := by
  unfold X3_turns at h
  refine ca_in (by decide) mt_X3_turns (Nat.le_of_ble_eq_true rfl) ?_
  show Ev S (d + 4) 3 cX3_turns (some .int) 0 [some (.ref 0), none, none] [] mem Q
  refine ev_aload_n dX3_turns_0 (pc' := 1) rfl rfl ?_
  refine ev_getR (y := 11) dX3_turns_1 (pc' := 4) rfl fq_3_16 kn_0 rfl ?_
  refine ev_aload_n dX3_turns_4 (pc' := 5) rfl rfl ?_
  refine ev_getR (y := 1) dX3_turns_5 (pc' := 8) rfl fq_3_10 kn_0 rfl ?_
  obtain ⟨m1, x_m1, h⟩ := ob_of h
  refine ev_invV dX3_turns_8 (pc' := 11) rfl sq_3_151 mt_X2_become rfl (arecv_ob (x := 11) rfl rfl (by decide) kn_11) ⟨_, rfl, Nat.le_of_ble_eq_true rfl, Nat.le_of_ble_eq_true rfl, rfl, rfl⟩ ?_
  refine X2_become_ca kn_11 kn_1 x_m1 ?_
  refine ev_r0 ?_
  refine ev_iconst dX3_turns_11 (pc' := 12) (v := 1) rfl (by decide) ?_
  refine ev_istore_n dX3_turns_12 (pc' := 13) (ls' := [some (.ref 0), some (.int 1), none]) rfl (Nat.le_of_ble_eq_true rfl) rfl ?_
  exact ev_sub (lsub_c (lsub_c (lsub_c lsub_nil))) (X3_turns_L13_ev  q LF 1 m1 h)
def X3_hum_L32  (a4 : Int32) : Nat → Int32 → Mm → Option (Int32 × Mm)
  | 0, _, _ => none
  | n + 1, w5, m6 => if 200 < w5 then (some ((-9), m6)) else (ob (X2_at 11 a4) (fun y8 => if (X0_isHalfTheirs y8 m6) = 0 then (ob (X2_goOn 11 1 m6) (fun m10 => nm (w5 + 1) (fun v11 => X3_hum_L32 a4 n v11 m10))) else (some (w5, m6))))
def X3_hum (_o : Nat) (a1 : Int32) (mem : Mm) : Option (Int32 × Mm) := nm (X2_caskFault 1 a1 mem) (fun v1 => if v1 = 0 then (ob (X2_become 11 1 mem) (fun m3 => X3_hum_L32 a1 LF 0 m3)) else (ob2 (X3_refuse 0 v1 mem) (fun y12 m13 => some (y12, m13))))
set_option maxRecDepth 100000 in
set_option maxHeartbeats 8000000 in
theorem X3_hum_L32_ev {S : Sc} {d : Nat}  {a4 : Int32} {rr : Int32} {mr : Mm} {Q : Po}  (q : Q (some (.int rr)) mr) : ∀ (n : Nat) (w5 : Int32) (m6 : Mm), X3_hum_L32 a4 n w5 m6 = some (rr, mr) → Ev S (d + 4) 3 cX3_hum (some .int) 32 [some (.ref 0), some (.int a4), none, some (.int w5)] [] m6 Q := by
  intro n
  induction n with
  | zero => intro w5 m6 h; cases h
  | succ n ih =>
    intro w5 m6 h
    unfold X3_hum_L32 at h
    refine ev_iload_n dX3_hum_32 (pc' := 33) rfl rfl ?_
    refine ev_sipush dX3_hum_33 (pc' := 36) (v := 200) rfl (by decide) ?_
    refine ev_icmp_gt dX3_hum_36 (pc' := 39) rfl (t := 69) rfl (fun c7 => ?_) (fun c7 => ?_)
    · replace h := it_t c7 h
      refine ev_bipush dX3_hum_69 (pc' := 71) (v := (-9)) rfl (by decide) ?_
      obtain ⟨rfl, rfl⟩ := rt2 h
      exact ev_ireturn dX3_hum_71 rfl q
    · replace h := it_f c7 h
      refine ev_aload_n dX3_hum_39 (pc' := 40) rfl rfl ?_
      refine ev_getR (y := 11) dX3_hum_40 (pc' := 43) rfl fq_3_16 kn_0 rfl ?_
      refine ev_iload_n dX3_hum_43 (pc' := 44) rfl rfl ?_
      obtain ⟨y8, x_y8, h⟩ := ob_of h
      refine ev_invV dX3_hum_44 (pc' := 47) rfl sq_3_76 mt_X2_at rfl (arecv_ob (x := 11) rfl rfl (by decide) kn_11) ⟨_, rfl, Nat.le_of_ble_eq_true rfl, Nat.le_of_ble_eq_true rfl, rfl, rfl⟩ ?_
      refine X2_at_ca kn_11 x_y8 ?_
      refine ev_r1 ?_
      refine ev_invV dX3_hum_47 (pc' := 50) rfl sq_3_158 mt_X0_isHalfTheirs rfl (arecv_ob (x := y8) rfl rfl (by decide) (X2_at_kd kn_11 x_y8)) ⟨_, rfl, Nat.le_of_ble_eq_true rfl, Nat.le_of_ble_eq_true rfl, rfl, rfl⟩ ?_
      refine X0_isHalfTheirs_ca (X2_at_kd kn_11 x_y8) rfl ?_
      refine ev_r1 ?_
      refine ev_if_eq dX3_hum_50 (pc' := 53) rfl (t := 55) rfl (fun c9 => ?_) (fun c9 => ?_)
      · replace h := it_t c9 h
        refine ev_aload_n dX3_hum_55 (pc' := 56) rfl rfl ?_
        refine ev_getR (y := 11) dX3_hum_56 (pc' := 59) rfl fq_3_16 kn_0 rfl ?_
        refine ev_iconst dX3_hum_59 (pc' := 60) (v := 1) rfl (by decide) ?_
        obtain ⟨m10, x_m10, h⟩ := ob_of h
        refine ev_invV dX3_hum_60 (pc' := 63) rfl sq_3_155 mt_X2_goOn rfl (arecv_ob (x := 11) rfl rfl (by decide) kn_11) ⟨_, rfl, Nat.le_of_ble_eq_true rfl, Nat.le_of_ble_eq_true rfl, rfl, rfl⟩ ?_
        refine X2_goOn_ca kn_11 x_m10 ?_
        refine ev_r0 ?_
        obtain ⟨v11, e_v11⟩ : ∃ y : Int32, y = (w5 + 1) := ⟨_, rfl⟩
        replace h := nm_at e_v11 h
        refine ev_iinc dX3_hum_63 (pc' := 66) (v := v11) (ls' := [some (.ref 0), some (.int a4), none, some (.int v11)]) rfl rfl (by rw [e_v11]; rfl) (Nat.le_of_ble_eq_true rfl) rfl ?_
        refine ev_goto dX3_hum_66 (t := 32) rfl ?_
        exact ev_sub (lsub_c (lsub_c (lsub_c (lsub_c lsub_nil)))) (ih v11 m10 h)
      · replace h := it_f c9 h
        refine ev_iload_n dX3_hum_53 (pc' := 54) rfl rfl ?_
        obtain ⟨rfl, rfl⟩ := rt2 h
        exact ev_ireturn dX3_hum_54 rfl q
set_option maxRecDepth 100000 in
set_option maxHeartbeats 8000000 in
theorem X3_hum_ca {S : Sc} {d : Nat} {a1 : Int32} {mem : Mm} {rr : Int32} {mr : Mm} {Q : Po}  (h : X3_hum 0 a1 mem = some (rr, mr)) (q : Q (some (.int rr)) mr) : Ca S (d + 5) 65 [.ref 0, .int a1] mem Q := by
  unfold X3_hum at h
  refine ca_in (by decide) mt_X3_hum (Nat.le_of_ble_eq_true rfl) ?_
  show Ev S (d + 4) 3 cX3_hum (some .int) 0 [some (.ref 0), some (.int a1), none, none] [] mem Q
  refine ev_aload_n dX3_hum_0 (pc' := 1) rfl rfl ?_
  refine ev_getR (y := 1) dX3_hum_1 (pc' := 4) rfl fq_3_10 kn_0 rfl ?_
  refine ev_iload_n dX3_hum_4 (pc' := 5) rfl rfl ?_
  refine ev_invV dX3_hum_5 (pc' := 8) rfl sq_3_66 mt_X2_caskFault rfl (arecv_ob (x := 1) rfl rfl (by decide) kn_1) ⟨_, rfl, Nat.le_of_ble_eq_true rfl, Nat.le_of_ble_eq_true rfl, rfl, rfl⟩ ?_
  refine X2_caskFault_ca kn_1 rfl ?_
  refine ev_r1 ?_
  refine ev_topi (fun v1 e_v1 => ?_)
  replace h := nm_at e_v1 h
  refine ev_istore_n dX3_hum_8 (pc' := 9) (ls' := [some (.ref 0), some (.int a1), some (.int v1), none]) rfl (Nat.le_of_ble_eq_true rfl) rfl ?_
  refine ev_iload_n dX3_hum_9 (pc' := 10) rfl rfl ?_
  refine ev_if_eq dX3_hum_10 (pc' := 13) rfl (t := 19) rfl (fun c2 => ?_) (fun c2 => ?_)
  · replace h := it_t c2 h
    refine ev_aload_n dX3_hum_19 (pc' := 20) rfl rfl ?_
    refine ev_getR (y := 11) dX3_hum_20 (pc' := 23) rfl fq_3_16 kn_0 rfl ?_
    refine ev_aload_n dX3_hum_23 (pc' := 24) rfl rfl ?_
    refine ev_getR (y := 1) dX3_hum_24 (pc' := 27) rfl fq_3_10 kn_0 rfl ?_
    obtain ⟨m3, x_m3, h⟩ := ob_of h
    refine ev_invV dX3_hum_27 (pc' := 30) rfl sq_3_151 mt_X2_become rfl (arecv_ob (x := 11) rfl rfl (by decide) kn_11) ⟨_, rfl, Nat.le_of_ble_eq_true rfl, Nat.le_of_ble_eq_true rfl, rfl, rfl⟩ ?_
    refine X2_become_ca kn_11 kn_1 x_m3 ?_
    refine ev_r0 ?_
    refine ev_iconst dX3_hum_30 (pc' := 31) (v := 0) rfl (by decide) ?_
    refine ev_istore_n dX3_hum_31 (pc' := 32) (ls' := [some (.ref 0), some (.int a1), some (.int v1), some (.int 0)]) rfl (Nat.le_of_ble_eq_true rfl) rfl ?_
    exact ev_sub (lsub_c (lsub_c (lsub_n (lsub_c lsub_nil)))) (X3_hum_L32_ev  q LF 0 m3 h)
  · replace h := it_f c2 h
    refine ev_aload_n dX3_hum_13 (pc' := 14) rfl rfl ?_
    refine ev_iload_n dX3_hum_14 (pc' := 15) rfl rfl ?_
    obtain ⟨y12, m13, x_y12, h⟩ := ob2_of h
    refine ev_invV dX3_hum_15 (pc' := 18) rfl sq_3_56 mt_X3_refuse rfl (arecv_ob (x := 0) rfl rfl (by decide) kn_0) ⟨_, rfl, Nat.le_of_ble_eq_true rfl, Nat.le_of_ble_eq_true rfl, rfl, rfl⟩ ?_
    refine X3_refuse_ca  x_y12 ?_
    refine ev_r1 ?_
    obtain ⟨rfl, rfl⟩ := rt2 h
    exact ev_ireturn dX3_hum_18 rfl q
def X3_pourFor_L44  (a8 : Int32) (a9 : Int32) (a10 : Int32) (m12 : Mm) (k : Int32 → Option (Int32 × Mm)) : Nat → Int32 → Option (Int32 × Mm)
  | 0, _ => none
  | n + 1, w11 => if (m12 1 2) ≤ w11 then (k w11) else (ob (X2_pourFault 1 w11 a8 a10 m12) (fun y14 => if y14 = 0 then (ob (X2_pouredStrength 1 w11 a8 a10 m12) (fun y16 => if y16 = a9 then (some (((1000 * w11) + a10), m12)) else (nm (w11 + 1) (fun v18 => X3_pourFor_L44 a8 a9 a10 m12 k n v18)))) else (nm (w11 + 1) (fun v19 => X3_pourFor_L44 a8 a9 a10 m12 k n v19))))
def X3_pourFor_L33  (a3 : Int32) (a4 : Int32) (m6 : Mm) : Nat → Int32 → Option (Int32 × Mm)
  | 0, _ => none
  | n + 1, w5 => if 400 < w5 then (some ((-9), m6)) else (X3_pourFor_L44 a3 a4 w5 m6 (fun v20 => nm (w5 + 1) (fun v21 => X3_pourFor_L33 a3 a4 m6 n v21)) LF 0)
def X3_pourFor (_o : Nat) (a1 : Int32) (a2 : Int32) (mem : Mm) : Option (Int32 × Mm) := nm (X3_firstOf (X2_caskFault 1 a1 mem) (X3_rangeFault a2 0 99) 0) (fun v1 => if v1 = 0 then (X3_pourFor_L33 a1 a2 mem LF 1) else (ob2 (X3_refuse 0 v1 mem) (fun y22 m23 => some (y22, m23))))
set_option maxRecDepth 100000 in
set_option maxHeartbeats 8000000 in
theorem X3_pourFor_L44_ev {S : Sc} {d : Nat}  {a8 : Int32} {a9 : Int32} {a10 : Int32} {m12 : Mm} {k : Int32 → Option (Int32 × Mm)} {rr : Int32} {mr : Mm} {Q : Po}  (q : Q (some (.int rr)) mr) (hk : ∀ (w11 : Int32), k w11 = some (rr, mr) → Ev S (d + 2) 3 cX3_pourFor (some .int) 103 [some (.ref 0), some (.int a8), some (.int a9), none, some (.int a10), some (.int w11)] [] m12 Q) : ∀ (n : Nat) (w11 : Int32), X3_pourFor_L44 a8 a9 a10 m12 k n w11 = some (rr, mr) → Ev S (d + 2) 3 cX3_pourFor (some .int) 44 [some (.ref 0), some (.int a8), some (.int a9), none, some (.int a10), some (.int w11)] [] m12 Q := by
  intro n
  induction n with
  | zero => intro w11 h; cases h
  | succ n ih =>
    intro w11 h
    unfold X3_pourFor_L44 at h
    refine ev_iload dX3_pourFor_44 (pc' := 46) rfl rfl ?_
    refine ev_aload_n dX3_pourFor_46 (pc' := 47) rfl rfl ?_
    refine ev_getR (y := 1) dX3_pourFor_47 (pc' := 50) rfl fq_3_10 kn_0 rfl ?_
    refine ev_get dX3_pourFor_50 (pc' := 53) rfl fq_3_161 kn_1 rfl ?_
    refine ev_icmp_ge dX3_pourFor_53 (pc' := 56) rfl (t := 103) rfl (fun c13 => ?_) (fun c13 => ?_)
    · replace h := it_t c13 h
      exact ev_sub (lsub_c (lsub_c (lsub_c (lsub_c (lsub_c (lsub_c lsub_nil)))))) (hk w11 h)
    · replace h := it_f c13 h
      refine ev_aload_n dX3_pourFor_56 (pc' := 57) rfl rfl ?_
      refine ev_getR (y := 1) dX3_pourFor_57 (pc' := 60) rfl fq_3_10 kn_0 rfl ?_
      refine ev_iload dX3_pourFor_60 (pc' := 62) rfl rfl ?_
      refine ev_iload_n dX3_pourFor_62 (pc' := 63) rfl rfl ?_
      refine ev_iload dX3_pourFor_63 (pc' := 65) rfl rfl ?_
      obtain ⟨y14, x_y14, h⟩ := ob_of h
      refine ev_invV dX3_pourFor_65 (pc' := 68) rfl sq_3_164 mt_X2_pourFault rfl (arecv_ob (x := 1) rfl rfl (by decide) kn_1) ⟨_, rfl, Nat.le_of_ble_eq_true rfl, Nat.le_of_ble_eq_true rfl, rfl, rfl⟩ ?_
      refine X2_pourFault_ca kn_1 x_y14 ?_
      refine ev_r1 ?_
      refine ev_if_ne dX3_pourFor_68 (pc' := 71) rfl (t := 97) rfl (fun c15 => ?_) (fun c15 => ?_)
      · replace h := it_f c15 h
        obtain ⟨v19, e_v19⟩ : ∃ y : Int32, y = (w11 + 1) := ⟨_, rfl⟩
        replace h := nm_at e_v19 h
        refine ev_iinc dX3_pourFor_97 (pc' := 100) (v := v19) (ls' := [some (.ref 0), some (.int a8), some (.int a9), none, some (.int a10), some (.int v19)]) rfl rfl (by rw [e_v19]; rfl) (Nat.le_of_ble_eq_true rfl) rfl ?_
        refine ev_goto dX3_pourFor_100 (t := 44) rfl ?_
        exact ev_sub (lsub_c (lsub_c (lsub_c (lsub_c (lsub_c (lsub_c lsub_nil)))))) (ih v19 h)
      · replace h := it_t c15 h
        refine ev_aload_n dX3_pourFor_71 (pc' := 72) rfl rfl ?_
        refine ev_getR (y := 1) dX3_pourFor_72 (pc' := 75) rfl fq_3_10 kn_0 rfl ?_
        refine ev_iload dX3_pourFor_75 (pc' := 77) rfl rfl ?_
        refine ev_iload_n dX3_pourFor_77 (pc' := 78) rfl rfl ?_
        refine ev_iload dX3_pourFor_78 (pc' := 80) rfl rfl ?_
        obtain ⟨y16, x_y16, h⟩ := ob_of h
        refine ev_invV dX3_pourFor_80 (pc' := 83) rfl sq_3_167 mt_X2_pouredStrength rfl (arecv_ob (x := 1) rfl rfl (by decide) kn_1) ⟨_, rfl, Nat.le_of_ble_eq_true rfl, Nat.le_of_ble_eq_true rfl, rfl, rfl⟩ ?_
        refine X2_pouredStrength_ca kn_1 x_y16 ?_
        refine ev_r1 ?_
        refine ev_iload_n dX3_pourFor_83 (pc' := 84) rfl rfl ?_
        refine ev_icmp_ne dX3_pourFor_84 (pc' := 87) rfl (t := 97) rfl (fun c17 => ?_) (fun c17 => ?_)
        · replace h := it_f c17 h
          obtain ⟨v18, e_v18⟩ : ∃ y : Int32, y = (w11 + 1) := ⟨_, rfl⟩
          replace h := nm_at e_v18 h
          refine ev_iinc dX3_pourFor_97 (pc' := 100) (v := v18) (ls' := [some (.ref 0), some (.int a8), some (.int a9), none, some (.int a10), some (.int v18)]) rfl rfl (by rw [e_v18]; rfl) (Nat.le_of_ble_eq_true rfl) rfl ?_
          refine ev_goto dX3_pourFor_100 (t := 44) rfl ?_
          exact ev_sub (lsub_c (lsub_c (lsub_c (lsub_c (lsub_c (lsub_c lsub_nil)))))) (ih v18 h)
        · replace h := it_t c17 h
          refine ev_sipush dX3_pourFor_87 (pc' := 90) (v := 1000) rfl (by decide) ?_
          refine ev_iload dX3_pourFor_90 (pc' := 92) rfl rfl ?_
          refine ev_imul dX3_pourFor_92 (pc' := 93) rfl ?_
          refine ev_iload dX3_pourFor_93 (pc' := 95) rfl rfl ?_
          refine ev_iadd dX3_pourFor_95 (pc' := 96) rfl ?_
          obtain ⟨rfl, rfl⟩ := rt2 h
          exact ev_ireturn dX3_pourFor_96 rfl q
set_option maxRecDepth 100000 in
set_option maxHeartbeats 8000000 in
theorem X3_pourFor_L33_ev {S : Sc} {d : Nat}  {a3 : Int32} {a4 : Int32} {m6 : Mm} {rr : Int32} {mr : Mm} {Q : Po}  (q : Q (some (.int rr)) mr) : ∀ (n : Nat) (w5 : Int32), X3_pourFor_L33 a3 a4 m6 n w5 = some (rr, mr) → Ev S (d + 2) 3 cX3_pourFor (some .int) 33 [some (.ref 0), some (.int a3), some (.int a4), none, some (.int w5), none] [] m6 Q := by
  intro n
  induction n with
  | zero => intro w5 h; cases h
  | succ n ih =>
    intro w5 h
    unfold X3_pourFor_L33 at h
    refine ev_iload dX3_pourFor_33 (pc' := 35) rfl rfl ?_
    refine ev_sipush dX3_pourFor_35 (pc' := 38) (v := 400) rfl (by decide) ?_
    refine ev_icmp_gt dX3_pourFor_38 (pc' := 41) rfl (t := 109) rfl (fun c7 => ?_) (fun c7 => ?_)
    · replace h := it_t c7 h
      refine ev_bipush dX3_pourFor_109 (pc' := 111) (v := (-9)) rfl (by decide) ?_
      obtain ⟨rfl, rfl⟩ := rt2 h
      exact ev_ireturn dX3_pourFor_111 rfl q
    · replace h := it_f c7 h
      refine ev_iconst dX3_pourFor_41 (pc' := 42) (v := 0) rfl (by decide) ?_
      refine ev_istore dX3_pourFor_42 (pc' := 44) (ls' := [some (.ref 0), some (.int a3), some (.int a4), none, some (.int w5), some (.int 0)]) rfl (Nat.le_of_ble_eq_true rfl) rfl ?_
      refine ev_sub (lsub_c (lsub_c (lsub_c (lsub_c (lsub_c (lsub_c lsub_nil)))))) (X3_pourFor_L44_ev  (k := fun v20 => nm (w5 + 1) (fun v21 => X3_pourFor_L33 a3 a4 m6 n v21)) q (fun v20 h => ?_) LF 0 h)
      obtain ⟨v21, e_v21⟩ : ∃ y : Int32, y = (w5 + 1) := ⟨_, rfl⟩
      replace h := nm_at e_v21 h
      refine ev_iinc dX3_pourFor_103 (pc' := 106) (v := v21) (ls' := [some (.ref 0), some (.int a3), some (.int a4), none, some (.int v21), some (.int v20)]) rfl rfl (by rw [e_v21]; rfl) (Nat.le_of_ble_eq_true rfl) rfl ?_
      refine ev_goto dX3_pourFor_106 (t := 33) rfl ?_
      exact ev_sub (lsub_c (lsub_c (lsub_c (lsub_c (lsub_c (lsub_n lsub_nil)))))) (ih v21 h)
set_option maxRecDepth 100000 in
set_option maxHeartbeats 8000000 in
theorem X3_pourFor_ca {S : Sc} {d : Nat} {a1 : Int32} {a2 : Int32} {mem : Mm} {rr : Int32} {mr : Mm} {Q : Po}  (h : X3_pourFor 0 a1 a2 mem = some (rr, mr)) (q : Q (some (.int rr)) mr) : Ca S (d + 3) 66 [.ref 0, .int a1, .int a2] mem Q := by
  unfold X3_pourFor at h
  refine ca_in (by decide) mt_X3_pourFor (Nat.le_of_ble_eq_true rfl) ?_
  show Ev S (d + 2) 3 cX3_pourFor (some .int) 0 [some (.ref 0), some (.int a1), some (.int a2), none, none, none] [] mem Q
  refine ev_aload_n dX3_pourFor_0 (pc' := 1) rfl rfl ?_
  refine ev_getR (y := 1) dX3_pourFor_1 (pc' := 4) rfl fq_3_10 kn_0 rfl ?_
  refine ev_iload_n dX3_pourFor_4 (pc' := 5) rfl rfl ?_
  refine ev_invV dX3_pourFor_5 (pc' := 8) rfl sq_3_66 mt_X2_caskFault rfl (arecv_ob (x := 1) rfl rfl (by decide) kn_1) ⟨_, rfl, Nat.le_of_ble_eq_true rfl, Nat.le_of_ble_eq_true rfl, rfl, rfl⟩ ?_
  refine X2_caskFault_ca kn_1 rfl ?_
  refine ev_r1 ?_
  refine ev_iload_n dX3_pourFor_8 (pc' := 9) rfl rfl ?_
  refine ev_iconst dX3_pourFor_9 (pc' := 10) (v := 0) rfl (by decide) ?_
  refine ev_bipush dX3_pourFor_10 (pc' := 12) (v := 99) rfl (by decide) ?_
  refine ev_invS dX3_pourFor_12 (pc' := 15) rfl sq_3_44 mt_X3_rangeFault rfl ⟨_, rfl, Nat.le_of_ble_eq_true rfl, Nat.le_of_ble_eq_true rfl, rfl, rfl⟩ ?_
  refine X3_rangeFault_ca  rfl ?_
  refine ev_r1 ?_
  refine ev_iconst dX3_pourFor_15 (pc' := 16) (v := 0) rfl (by decide) ?_
  refine ev_invS dX3_pourFor_16 (pc' := 19) rfl sq_3_73 mt_X3_firstOf rfl ⟨_, rfl, Nat.le_of_ble_eq_true rfl, Nat.le_of_ble_eq_true rfl, rfl, rfl⟩ ?_
  refine X3_firstOf_ca  rfl ?_
  refine ev_r1 ?_
  refine ev_topi (fun v1 e_v1 => ?_)
  replace h := nm_at e_v1 h
  refine ev_istore_n dX3_pourFor_19 (pc' := 20) (ls' := [some (.ref 0), some (.int a1), some (.int a2), some (.int v1), none, none]) rfl (Nat.le_of_ble_eq_true rfl) rfl ?_
  refine ev_iload_n dX3_pourFor_20 (pc' := 21) rfl rfl ?_
  refine ev_if_eq dX3_pourFor_21 (pc' := 24) rfl (t := 30) rfl (fun c2 => ?_) (fun c2 => ?_)
  · replace h := it_t c2 h
    refine ev_iconst dX3_pourFor_30 (pc' := 31) (v := 1) rfl (by decide) ?_
    refine ev_istore dX3_pourFor_31 (pc' := 33) (ls' := [some (.ref 0), some (.int a1), some (.int a2), some (.int v1), some (.int 1), none]) rfl (Nat.le_of_ble_eq_true rfl) rfl ?_
    exact ev_sub (lsub_c (lsub_c (lsub_c (lsub_n (lsub_c (lsub_c lsub_nil)))))) (X3_pourFor_L33_ev  q LF 1 h)
  · replace h := it_f c2 h
    refine ev_aload_n dX3_pourFor_24 (pc' := 25) rfl rfl ?_
    refine ev_iload_n dX3_pourFor_25 (pc' := 26) rfl rfl ?_
    obtain ⟨y22, m23, x_y22, h⟩ := ob2_of h
    refine ev_invV dX3_pourFor_26 (pc' := 29) rfl sq_3_56 mt_X3_refuse rfl (arecv_ob (x := 0) rfl rfl (by decide) kn_0) ⟨_, rfl, Nat.le_of_ble_eq_true rfl, Nat.le_of_ble_eq_true rfl, rfl, rfl⟩ ?_
    refine X3_refuse_ca  x_y22 ?_
    refine ev_r1 ?_
    obtain ⟨rfl, rfl⟩ := rt2 h
    exact ev_ireturn dX3_pourFor_29 rfl q
def X3_blend_L46  (a10 : Int32) (a11 : Int32) (m15 : Mm) (k : Int32 → Int32 → Int32 → Option (Int32 × Mm)) : Nat → Int32 → Int32 → Int32 → Option (Int32 × Mm)
  | 0, _, _, _ => none
  | n + 1, w12, w13, w14 => if (m15 1 2) ≤ w14 then (k w12 w13 w14) else (ob (X2_blended 1 a11 w14 m15) (fun y17 => if y17 < 0 then (nm (w14 + 1) (fun v19 => X3_blend_L46 a10 a11 m15 k n w12 w13 v19)) else (if w13 ≤ (mabs (y17 - a10)) then (nm (w14 + 1) (fun v21 => X3_blend_L46 a10 a11 m15 k n w12 w13 v21)) else (nm (mabs (y17 - a10)) (fun v22 => nm ((10 * a11) + w14) (fun v23 => nm (w14 + 1) (fun v24 => X3_blend_L46 a10 a11 m15 k n v23 v22 v24)))))))
def X3_blend_L28  (a3 : Int32) (m7 : Mm) : Nat → Int32 → Int32 → Int32 → Option (Int32 × Mm)
  | 0, _, _, _ => none
  | n + 1, w4, w5, w6 => if (m7 1 2) ≤ w6 then (some (w4, m7)) else (nm (w6 + 1) (fun v9 => X3_blend_L46 a3 w6 m7 (fun v25 v26 v27 => nm (w6 + 1) (fun v28 => X3_blend_L28 a3 m7 n v25 v26 v28)) LF w4 w5 v9))
def X3_blend (_o : Nat) (a1 : Int32) (mem : Mm) : Option (Int32 × Mm) := nm (X3_rangeFault a1 0 99) (fun v1 => if v1 = 0 then (X3_blend_L28 a1 mem LF (-9) 100 0) else (ob2 (X3_refuse 0 v1 mem) (fun y29 m30 => some (y29, m30))))
set_option maxRecDepth 100000 in
set_option maxHeartbeats 8000000 in
theorem X3_blend_L46_ev {S : Sc} {d : Nat}  {a10 : Int32} {a11 : Int32} {m15 : Mm} {k : Int32 → Int32 → Int32 → Option (Int32 × Mm)} {rr : Int32} {mr : Mm} {Q : Po}  (q : Q (some (.int rr)) mr) (hk : ∀ (w12 : Int32) (w13 : Int32) (w14 : Int32), k w12 w13 w14 = some (rr, mr) → Ev S (d + 2) 3 cX3_blend (some .int) 112 [some (.ref 0), some (.int a10), none, some (.int w12), some (.int w13), some (.int a11), some (.int w14), none] [] m15 Q) : ∀ (n : Nat) (w12 : Int32) (w13 : Int32) (w14 : Int32), X3_blend_L46 a10 a11 m15 k n w12 w13 w14 = some (rr, mr) → Ev S (d + 2) 3 cX3_blend (some .int) 46 [some (.ref 0), some (.int a10), none, some (.int w12), some (.int w13), some (.int a11), some (.int w14), none] [] m15 Q := by
  intro n
  induction n with
  | zero => intro w12 w13 w14 h; cases h
  | succ n ih =>
    intro w12 w13 w14 h
    unfold X3_blend_L46 at h
    refine ev_iload dX3_blend_46 (pc' := 48) rfl rfl ?_
    refine ev_aload_n dX3_blend_48 (pc' := 49) rfl rfl ?_
    refine ev_getR (y := 1) dX3_blend_49 (pc' := 52) rfl fq_3_10 kn_0 rfl ?_
    refine ev_get dX3_blend_52 (pc' := 55) rfl fq_3_161 kn_1 rfl ?_
    refine ev_icmp_ge dX3_blend_55 (pc' := 58) rfl (t := 112) rfl (fun c16 => ?_) (fun c16 => ?_)
    · replace h := it_t c16 h
      exact ev_sub (lsub_c (lsub_c (lsub_c (lsub_c (lsub_c (lsub_c (lsub_c (lsub_c lsub_nil)))))))) (hk w12 w13 w14 h)
    · replace h := it_f c16 h
      refine ev_aload_n dX3_blend_58 (pc' := 59) rfl rfl ?_
      refine ev_getR (y := 1) dX3_blend_59 (pc' := 62) rfl fq_3_10 kn_0 rfl ?_
      refine ev_iload dX3_blend_62 (pc' := 64) rfl rfl ?_
      refine ev_iload dX3_blend_64 (pc' := 66) rfl rfl ?_
      obtain ⟨y17, x_y17, h⟩ := ob_of h
      refine ev_invV dX3_blend_66 (pc' := 69) rfl sq_3_170 mt_X2_blended rfl (arecv_ob (x := 1) rfl rfl (by decide) kn_1) ⟨_, rfl, Nat.le_of_ble_eq_true rfl, Nat.le_of_ble_eq_true rfl, rfl, rfl⟩ ?_
      refine X2_blended_ca kn_1 x_y17 ?_
      refine ev_r1 ?_
      refine ev_istore dX3_blend_69 (pc' := 71) (ls' := [some (.ref 0), some (.int a10), none, some (.int w12), some (.int w13), some (.int a11), some (.int w14), some (.int y17)]) rfl (Nat.le_of_ble_eq_true rfl) rfl ?_
      refine ev_iload dX3_blend_71 (pc' := 73) rfl rfl ?_
      refine ev_if_lt dX3_blend_73 (pc' := 76) rfl (t := 106) rfl (fun c18 => ?_) (fun c18 => ?_)
      · replace h := it_t c18 h
        obtain ⟨v19, e_v19⟩ : ∃ y : Int32, y = (w14 + 1) := ⟨_, rfl⟩
        replace h := nm_at e_v19 h
        refine ev_iinc dX3_blend_106 (pc' := 109) (v := v19) (ls' := [some (.ref 0), some (.int a10), none, some (.int w12), some (.int w13), some (.int a11), some (.int v19), some (.int y17)]) rfl rfl (by rw [e_v19]; rfl) (Nat.le_of_ble_eq_true rfl) rfl ?_
        refine ev_goto dX3_blend_109 (t := 46) rfl ?_
        exact ev_sub (lsub_c (lsub_c (lsub_c (lsub_c (lsub_c (lsub_c (lsub_c (lsub_n lsub_nil)))))))) (ih w12 w13 v19 h)
      · replace h := it_f c18 h
        refine ev_iload dX3_blend_76 (pc' := 78) rfl rfl ?_
        refine ev_iload_n dX3_blend_78 (pc' := 79) rfl rfl ?_
        refine ev_isub dX3_blend_79 (pc' := 80) rfl ?_
        refine ev_invS dX3_blend_80 (pc' := 83) rfl sq_3_173 mt_J9_abs_0f7a4 rfl ⟨_, rfl, Nat.le_of_ble_eq_true rfl, Nat.le_of_ble_eq_true rfl, rfl, rfl⟩ ?_
        refine ca_math (by decide) (r := some (.int (mabs (y17 - a10)))) rfl ?_
        refine ev_r1 ?_
        refine ev_iload dX3_blend_83 (pc' := 85) rfl rfl ?_
        refine ev_icmp_ge dX3_blend_85 (pc' := 88) rfl (t := 106) rfl (fun c20 => ?_) (fun c20 => ?_)
        · replace h := it_t c20 h
          obtain ⟨v21, e_v21⟩ : ∃ y : Int32, y = (w14 + 1) := ⟨_, rfl⟩
          replace h := nm_at e_v21 h
          refine ev_iinc dX3_blend_106 (pc' := 109) (v := v21) (ls' := [some (.ref 0), some (.int a10), none, some (.int w12), some (.int w13), some (.int a11), some (.int v21), some (.int y17)]) rfl rfl (by rw [e_v21]; rfl) (Nat.le_of_ble_eq_true rfl) rfl ?_
          refine ev_goto dX3_blend_109 (t := 46) rfl ?_
          exact ev_sub (lsub_c (lsub_c (lsub_c (lsub_c (lsub_c (lsub_c (lsub_c (lsub_n lsub_nil)))))))) (ih w12 w13 v21 h)
        · replace h := it_f c20 h
          refine ev_iload dX3_blend_88 (pc' := 90) rfl rfl ?_
          refine ev_iload_n dX3_blend_90 (pc' := 91) rfl rfl ?_
          refine ev_isub dX3_blend_91 (pc' := 92) rfl ?_
          refine ev_invS dX3_blend_92 (pc' := 95) rfl sq_3_173 mt_J9_abs_0f7a4 rfl ⟨_, rfl, Nat.le_of_ble_eq_true rfl, Nat.le_of_ble_eq_true rfl, rfl, rfl⟩ ?_
          refine ca_math (by decide) (r := some (.int (mabs (y17 - a10)))) rfl ?_
          refine ev_r1 ?_
          refine ev_topi (fun v22 e_v22 => ?_)
          replace h := nm_at e_v22 h
          refine ev_istore dX3_blend_95 (pc' := 97) (ls' := [some (.ref 0), some (.int a10), none, some (.int w12), some (.int v22), some (.int a11), some (.int w14), some (.int y17)]) rfl (Nat.le_of_ble_eq_true rfl) rfl ?_
          refine ev_bipush dX3_blend_97 (pc' := 99) (v := 10) rfl (by decide) ?_
          refine ev_iload dX3_blend_99 (pc' := 101) rfl rfl ?_
          refine ev_imul dX3_blend_101 (pc' := 102) rfl ?_
          refine ev_iload dX3_blend_102 (pc' := 104) rfl rfl ?_
          refine ev_iadd dX3_blend_104 (pc' := 105) rfl ?_
          refine ev_topi (fun v23 e_v23 => ?_)
          replace h := nm_at e_v23 h
          refine ev_istore_n dX3_blend_105 (pc' := 106) (ls' := [some (.ref 0), some (.int a10), none, some (.int v23), some (.int v22), some (.int a11), some (.int w14), some (.int y17)]) rfl (Nat.le_of_ble_eq_true rfl) rfl ?_
          obtain ⟨v24, e_v24⟩ : ∃ y : Int32, y = (w14 + 1) := ⟨_, rfl⟩
          replace h := nm_at e_v24 h
          refine ev_iinc dX3_blend_106 (pc' := 109) (v := v24) (ls' := [some (.ref 0), some (.int a10), none, some (.int v23), some (.int v22), some (.int a11), some (.int v24), some (.int y17)]) rfl rfl (by rw [e_v24]; rfl) (Nat.le_of_ble_eq_true rfl) rfl ?_
          refine ev_goto dX3_blend_109 (t := 46) rfl ?_
          exact ev_sub (lsub_c (lsub_c (lsub_c (lsub_c (lsub_c (lsub_c (lsub_c (lsub_n lsub_nil)))))))) (ih v23 v22 v24 h)
set_option maxRecDepth 100000 in
set_option maxHeartbeats 8000000 in
theorem X3_blend_L28_ev {S : Sc} {d : Nat}  {a3 : Int32} {m7 : Mm} {rr : Int32} {mr : Mm} {Q : Po}  (q : Q (some (.int rr)) mr) : ∀ (n : Nat) (w4 : Int32) (w5 : Int32) (w6 : Int32), X3_blend_L28 a3 m7 n w4 w5 w6 = some (rr, mr) → Ev S (d + 2) 3 cX3_blend (some .int) 28 [some (.ref 0), some (.int a3), none, some (.int w4), some (.int w5), some (.int w6), none, none] [] m7 Q := by
  intro n
  induction n with
  | zero => intro w4 w5 w6 h; cases h
  | succ n ih =>
    intro w4 w5 w6 h
    unfold X3_blend_L28 at h
    refine ev_iload dX3_blend_28 (pc' := 30) rfl rfl ?_
    refine ev_aload_n dX3_blend_30 (pc' := 31) rfl rfl ?_
    refine ev_getR (y := 1) dX3_blend_31 (pc' := 34) rfl fq_3_10 kn_0 rfl ?_
    refine ev_get dX3_blend_34 (pc' := 37) rfl fq_3_161 kn_1 rfl ?_
    refine ev_icmp_ge dX3_blend_37 (pc' := 40) rfl (t := 118) rfl (fun c8 => ?_) (fun c8 => ?_)
    · replace h := it_t c8 h
      refine ev_iload_n dX3_blend_118 (pc' := 119) rfl rfl ?_
      obtain ⟨rfl, rfl⟩ := rt2 h
      exact ev_ireturn dX3_blend_119 rfl q
    · replace h := it_f c8 h
      refine ev_iload dX3_blend_40 (pc' := 42) rfl rfl ?_
      refine ev_iconst dX3_blend_42 (pc' := 43) (v := 1) rfl (by decide) ?_
      refine ev_iadd dX3_blend_43 (pc' := 44) rfl ?_
      refine ev_topi (fun v9 e_v9 => ?_)
      replace h := nm_at e_v9 h
      refine ev_istore dX3_blend_44 (pc' := 46) (ls' := [some (.ref 0), some (.int a3), none, some (.int w4), some (.int w5), some (.int w6), some (.int v9), none]) rfl (Nat.le_of_ble_eq_true rfl) rfl ?_
      refine ev_sub (lsub_c (lsub_c (lsub_c (lsub_c (lsub_c (lsub_c (lsub_c (lsub_c lsub_nil)))))))) (X3_blend_L46_ev  (k := fun v25 v26 v27 => nm (w6 + 1) (fun v28 => X3_blend_L28 a3 m7 n v25 v26 v28)) q (fun v25 v26 v27 h => ?_) LF w4 w5 v9 h)
      obtain ⟨v28, e_v28⟩ : ∃ y : Int32, y = (w6 + 1) := ⟨_, rfl⟩
      replace h := nm_at e_v28 h
      refine ev_iinc dX3_blend_112 (pc' := 115) (v := v28) (ls' := [some (.ref 0), some (.int a3), none, some (.int v25), some (.int v26), some (.int v28), some (.int v27), none]) rfl rfl (by rw [e_v28]; rfl) (Nat.le_of_ble_eq_true rfl) rfl ?_
      refine ev_goto dX3_blend_115 (t := 28) rfl ?_
      exact ev_sub (lsub_c (lsub_c (lsub_c (lsub_c (lsub_c (lsub_c (lsub_n (lsub_c lsub_nil)))))))) (ih v25 v26 v28 h)
set_option maxRecDepth 100000 in
set_option maxHeartbeats 8000000 in
theorem X3_blend_ca {S : Sc} {d : Nat} {a1 : Int32} {mem : Mm} {rr : Int32} {mr : Mm} {Q : Po}  (h : X3_blend 0 a1 mem = some (rr, mr)) (q : Q (some (.int rr)) mr) : Ca S (d + 3) 67 [.ref 0, .int a1] mem Q := by
  unfold X3_blend at h
  refine ca_in (by decide) mt_X3_blend (Nat.le_of_ble_eq_true rfl) ?_
  show Ev S (d + 2) 3 cX3_blend (some .int) 0 [some (.ref 0), some (.int a1), none, none, none, none, none, none] [] mem Q
  refine ev_iload_n dX3_blend_0 (pc' := 1) rfl rfl ?_
  refine ev_iconst dX3_blend_1 (pc' := 2) (v := 0) rfl (by decide) ?_
  refine ev_bipush dX3_blend_2 (pc' := 4) (v := 99) rfl (by decide) ?_
  refine ev_invS dX3_blend_4 (pc' := 7) rfl sq_3_44 mt_X3_rangeFault rfl ⟨_, rfl, Nat.le_of_ble_eq_true rfl, Nat.le_of_ble_eq_true rfl, rfl, rfl⟩ ?_
  refine X3_rangeFault_ca  rfl ?_
  refine ev_r1 ?_
  refine ev_topi (fun v1 e_v1 => ?_)
  replace h := nm_at e_v1 h
  refine ev_istore_n dX3_blend_7 (pc' := 8) (ls' := [some (.ref 0), some (.int a1), some (.int v1), none, none, none, none, none]) rfl (Nat.le_of_ble_eq_true rfl) rfl ?_
  refine ev_iload_n dX3_blend_8 (pc' := 9) rfl rfl ?_
  refine ev_if_eq dX3_blend_9 (pc' := 12) rfl (t := 18) rfl (fun c2 => ?_) (fun c2 => ?_)
  · replace h := it_t c2 h
    refine ev_bipush dX3_blend_18 (pc' := 20) (v := (-9)) rfl (by decide) ?_
    refine ev_istore_n dX3_blend_20 (pc' := 21) (ls' := [some (.ref 0), some (.int a1), some (.int v1), some (.int (-9)), none, none, none, none]) rfl (Nat.le_of_ble_eq_true rfl) rfl ?_
    refine ev_bipush dX3_blend_21 (pc' := 23) (v := 100) rfl (by decide) ?_
    refine ev_istore dX3_blend_23 (pc' := 25) (ls' := [some (.ref 0), some (.int a1), some (.int v1), some (.int (-9)), some (.int 100), none, none, none]) rfl (Nat.le_of_ble_eq_true rfl) rfl ?_
    refine ev_iconst dX3_blend_25 (pc' := 26) (v := 0) rfl (by decide) ?_
    refine ev_istore dX3_blend_26 (pc' := 28) (ls' := [some (.ref 0), some (.int a1), some (.int v1), some (.int (-9)), some (.int 100), some (.int 0), none, none]) rfl (Nat.le_of_ble_eq_true rfl) rfl ?_
    exact ev_sub (lsub_c (lsub_c (lsub_n (lsub_c (lsub_c (lsub_c (lsub_c (lsub_c lsub_nil)))))))) (X3_blend_L28_ev  q LF (-9) 100 0 h)
  · replace h := it_f c2 h
    refine ev_aload_n dX3_blend_12 (pc' := 13) rfl rfl ?_
    refine ev_iload_n dX3_blend_13 (pc' := 14) rfl rfl ?_
    obtain ⟨y29, m30, x_y29, h⟩ := ob2_of h
    refine ev_invV dX3_blend_14 (pc' := 17) rfl sq_3_56 mt_X3_refuse rfl (arecv_ob (x := 0) rfl rfl (by decide) kn_0) ⟨_, rfl, Nat.le_of_ble_eq_true rfl, Nat.le_of_ble_eq_true rfl, rfl, rfl⟩ ?_
    refine X3_refuse_ca  x_y29 ?_
    refine ev_r1 ?_
    obtain ⟨rfl, rfl⟩ := rt2 h
    exact ev_ireturn dX3_blend_17 rfl q
def X3_spread_L7   (m4 : Mm) : Nat → Int32 → Int32 → Int32 → Option Int32
  | 0, _, _, _ => none
  | n + 1, w1, w2, w3 => if (m4 1 2) ≤ w3 then (if 0 ≤ w2 then (some (w2 - w1)) else (some (-9))) else (ob (X2_at 1 w3) (fun y7 => if (m4 y7 2) ≤ 0 then (nm (w3 + 1) (fun v9 => X3_spread_L7 m4 n w1 w2 v9)) else (nm (mmin w1 (m4 y7 3)) (fun v10 => nm (mmax w2 (m4 y7 3)) (fun v11 => nm (w3 + 1) (fun v12 => X3_spread_L7 m4 n v10 v11 v12))))))
def X3_spread (_o : Nat) (mem : Mm) : Option Int32 := X3_spread_L7 mem LF 100 (-1) 0
set_option maxRecDepth 100000 in
set_option maxHeartbeats 8000000 in
theorem X3_spread_L7_ev {S : Sc} {d : Nat}   {m4 : Mm} {rr : Int32} {Q : Po}  (q : Q (some (.int rr)) m4) : ∀ (n : Nat) (w1 : Int32) (w2 : Int32) (w3 : Int32), X3_spread_L7 m4 n w1 w2 w3 = some rr → Ev S (d + 1) 3 cX3_spread (some .int) 7 [some (.ref 0), some (.int w1), some (.int w2), some (.int w3), none] [] m4 Q := by
  intro n
  induction n with
  | zero => intro w1 w2 w3 h; cases h
  | succ n ih =>
    intro w1 w2 w3 h
    unfold X3_spread_L7 at h
    refine ev_iload_n dX3_spread_7 (pc' := 8) rfl rfl ?_
    refine ev_aload_n dX3_spread_8 (pc' := 9) rfl rfl ?_
    refine ev_getR (y := 1) dX3_spread_9 (pc' := 12) rfl fq_3_10 kn_0 rfl ?_
    refine ev_get dX3_spread_12 (pc' := 15) rfl fq_3_161 kn_1 rfl ?_
    refine ev_icmp_ge dX3_spread_15 (pc' := 18) rfl (t := 62) rfl (fun c5 => ?_) (fun c5 => ?_)
    · replace h := it_t c5 h
      refine ev_iload_n dX3_spread_62 (pc' := 63) rfl rfl ?_
      refine ev_if_ge dX3_spread_63 (pc' := 66) rfl (t := 71) rfl (fun c6 => ?_) (fun c6 => ?_)
      · replace h := it_t c6 h
        refine ev_iload_n dX3_spread_71 (pc' := 72) rfl rfl ?_
        refine ev_iload_n dX3_spread_72 (pc' := 73) rfl rfl ?_
        refine ev_isub dX3_spread_73 (pc' := 74) rfl ?_
        obtain rfl := rt1 h
        exact ev_ireturn dX3_spread_74 rfl q
      · replace h := it_f c6 h
        refine ev_bipush dX3_spread_66 (pc' := 68) (v := (-9)) rfl (by decide) ?_
        refine ev_goto dX3_spread_68 (t := 74) rfl ?_
        obtain rfl := rt1 h
        exact ev_ireturn dX3_spread_74 rfl q
    · replace h := it_f c5 h
      refine ev_aload_n dX3_spread_18 (pc' := 19) rfl rfl ?_
      refine ev_getR (y := 1) dX3_spread_19 (pc' := 22) rfl fq_3_10 kn_0 rfl ?_
      refine ev_iload_n dX3_spread_22 (pc' := 23) rfl rfl ?_
      obtain ⟨y7, x_y7, h⟩ := ob_of h
      refine ev_invV dX3_spread_23 (pc' := 26) rfl sq_3_76 mt_X2_at rfl (arecv_ob (x := 1) rfl rfl (by decide) kn_1) ⟨_, rfl, Nat.le_of_ble_eq_true rfl, Nat.le_of_ble_eq_true rfl, rfl, rfl⟩ ?_
      refine X2_at_ca kn_1 x_y7 ?_
      refine ev_r1 ?_
      refine ev_astore dX3_spread_26 (pc' := 28) (ls' := [some (.ref 0), some (.int w1), some (.int w2), some (.int w3), some (.ref y7)]) rfl (Nat.le_of_ble_eq_true rfl) rfl ?_
      refine ev_aload dX3_spread_28 (pc' := 30) rfl rfl ?_
      refine ev_get dX3_spread_30 (pc' := 33) rfl fq_3_88 (X2_at_kd kn_1 x_y7) rfl ?_
      refine ev_if_le dX3_spread_33 (pc' := 36) rfl (t := 56) rfl (fun c8 => ?_) (fun c8 => ?_)
      · replace h := it_t c8 h
        obtain ⟨v9, e_v9⟩ : ∃ y : Int32, y = (w3 + 1) := ⟨_, rfl⟩
        replace h := nm_at e_v9 h
        refine ev_iinc dX3_spread_56 (pc' := 59) (v := v9) (ls' := [some (.ref 0), some (.int w1), some (.int w2), some (.int v9), some (.ref y7)]) rfl rfl (by rw [e_v9]; rfl) (Nat.le_of_ble_eq_true rfl) rfl ?_
        refine ev_goto dX3_spread_59 (t := 7) rfl ?_
        exact ev_sub (lsub_c (lsub_c (lsub_c (lsub_c (lsub_n lsub_nil))))) (ih w1 w2 v9 h)
      · replace h := it_f c8 h
        refine ev_iload_n dX3_spread_36 (pc' := 37) rfl rfl ?_
        refine ev_aload dX3_spread_37 (pc' := 39) rfl rfl ?_
        refine ev_get dX3_spread_39 (pc' := 42) rfl fq_3_91 (X2_at_kd kn_1 x_y7) rfl ?_
        refine ev_invS dX3_spread_42 (pc' := 45) rfl sq_3_178 mt_J9_min_7cf53 rfl ⟨_, rfl, Nat.le_of_ble_eq_true rfl, Nat.le_of_ble_eq_true rfl, rfl, rfl⟩ ?_
        refine ca_math (by decide) (r := some (.int (mmin w1 (m4 y7 3)))) rfl ?_
        refine ev_r1 ?_
        refine ev_topi (fun v10 e_v10 => ?_)
        replace h := nm_at e_v10 h
        refine ev_istore_n dX3_spread_45 (pc' := 46) (ls' := [some (.ref 0), some (.int v10), some (.int w2), some (.int w3), some (.ref y7)]) rfl (Nat.le_of_ble_eq_true rfl) rfl ?_
        refine ev_iload_n dX3_spread_46 (pc' := 47) rfl rfl ?_
        refine ev_aload dX3_spread_47 (pc' := 49) rfl rfl ?_
        refine ev_get dX3_spread_49 (pc' := 52) rfl fq_3_91 (X2_at_kd kn_1 x_y7) rfl ?_
        refine ev_invS dX3_spread_52 (pc' := 55) rfl sq_3_181 mt_J9_max_7cf53 rfl ⟨_, rfl, Nat.le_of_ble_eq_true rfl, Nat.le_of_ble_eq_true rfl, rfl, rfl⟩ ?_
        refine ca_math (by decide) (r := some (.int (mmax w2 (m4 y7 3)))) rfl ?_
        refine ev_r1 ?_
        refine ev_topi (fun v11 e_v11 => ?_)
        replace h := nm_at e_v11 h
        refine ev_istore_n dX3_spread_55 (pc' := 56) (ls' := [some (.ref 0), some (.int v10), some (.int v11), some (.int w3), some (.ref y7)]) rfl (Nat.le_of_ble_eq_true rfl) rfl ?_
        obtain ⟨v12, e_v12⟩ : ∃ y : Int32, y = (w3 + 1) := ⟨_, rfl⟩
        replace h := nm_at e_v12 h
        refine ev_iinc dX3_spread_56 (pc' := 59) (v := v12) (ls' := [some (.ref 0), some (.int v10), some (.int v11), some (.int v12), some (.ref y7)]) rfl rfl (by rw [e_v12]; rfl) (Nat.le_of_ble_eq_true rfl) rfl ?_
        refine ev_goto dX3_spread_59 (t := 7) rfl ?_
        exact ev_sub (lsub_c (lsub_c (lsub_c (lsub_c (lsub_n lsub_nil))))) (ih v10 v11 v12 h)
set_option maxRecDepth 100000 in
set_option maxHeartbeats 8000000 in
theorem X3_spread_ca {S : Sc} {d : Nat}  {mem : Mm} {rr : Int32} {Q : Po}  (h : X3_spread 0 mem = some rr) (q : Q (some (.int rr)) mem) : Ca S (d + 2) 68 [.ref 0] mem Q := by
  unfold X3_spread at h
  refine ca_in (by decide) mt_X3_spread (Nat.le_of_ble_eq_true rfl) ?_
  show Ev S (d + 1) 3 cX3_spread (some .int) 0 [some (.ref 0), none, none, none, none] [] mem Q
  refine ev_bipush dX3_spread_0 (pc' := 2) (v := 100) rfl (by decide) ?_
  refine ev_istore_n dX3_spread_2 (pc' := 3) (ls' := [some (.ref 0), some (.int 100), none, none, none]) rfl (Nat.le_of_ble_eq_true rfl) rfl ?_
  refine ev_iconst dX3_spread_3 (pc' := 4) (v := (-1)) rfl (by decide) ?_
  refine ev_istore_n dX3_spread_4 (pc' := 5) (ls' := [some (.ref 0), some (.int 100), some (.int (-1)), none, none]) rfl (Nat.le_of_ble_eq_true rfl) rfl ?_
  refine ev_iconst dX3_spread_5 (pc' := 6) (v := 0) rfl (by decide) ?_
  refine ev_istore_n dX3_spread_6 (pc' := 7) (ls' := [some (.ref 0), some (.int 100), some (.int (-1)), some (.int 0), none]) rfl (Nat.le_of_ble_eq_true rfl) rfl ?_
  exact ev_sub (lsub_c (lsub_c (lsub_c (lsub_c (lsub_c lsub_nil))))) (X3_spread_L7_ev  q LF 100 (-1) 0 h)
def X3_layDown_L29   (m7 : Mm) : Nat → Int32 → Int32 → Int32 → Option (Int32 × Mm)
  | 0, _, _, _ => none
  | n + 1, w4, w5, w6 => if (m7 11 2) ≤ w6 then (some (w4, m7)) else (ob (X2_at 11 w6) (fun y9 => if (X0_worth y9 m7) ≤ w5 then (nm (w6 + 1) (fun v11 => X3_layDown_L29 m7 n w4 w5 v11)) else (ob (X2_at 11 w6) (fun y12 => nm (X0_worth y12 m7) (fun v13 => nm (w6 + 1) (fun v14 => X3_layDown_L29 m7 n w6 v13 v14))))))
def X3_layDown (_o : Nat) (a1 : Int32) (mem : Mm) : Option (Int32 × Mm) := nm (X3_yearsFault a1) (fun v1 => if v1 = 0 then (ob (X3_thinkOn 0 a1 mem) (fun m3 => X3_layDown_L29 m3 LF (-9) (-1) 0)) else (ob2 (X3_refuse 0 v1 mem) (fun y15 m16 => some (y15, m16))))
set_option maxRecDepth 100000 in
set_option maxHeartbeats 8000000 in
theorem X3_layDown_L29_ev {S : Sc} {d : Nat}   {m7 : Mm} {rr : Int32} {mr : Mm} {Q : Po}  (q : Q (some (.int rr)) mr) : ∀ (n : Nat) (w4 : Int32) (w5 : Int32) (w6 : Int32), X3_layDown_L29 m7 n w4 w5 w6 = some (rr, mr) → Ev S (d + 5) 3 cX3_layDown (some .int) 29 [some (.ref 0), none, none, some (.int w4), some (.int w5), some (.int w6)] [] m7 Q := by
  intro n
  induction n with
  | zero => intro w4 w5 w6 h; cases h
  | succ n ih =>
    intro w4 w5 w6 h
    unfold X3_layDown_L29 at h
    refine ev_iload dX3_layDown_29 (pc' := 31) rfl rfl ?_
    refine ev_aload_n dX3_layDown_31 (pc' := 32) rfl rfl ?_
    refine ev_getR (y := 11) dX3_layDown_32 (pc' := 35) rfl fq_3_16 kn_0 rfl ?_
    refine ev_get dX3_layDown_35 (pc' := 38) rfl fq_3_161 kn_11 rfl ?_
    refine ev_icmp_ge dX3_layDown_38 (pc' := 41) rfl (t := 81) rfl (fun c8 => ?_) (fun c8 => ?_)
    · replace h := it_t c8 h
      refine ev_iload_n dX3_layDown_81 (pc' := 82) rfl rfl ?_
      obtain ⟨rfl, rfl⟩ := rt2 h
      exact ev_ireturn dX3_layDown_82 rfl q
    · replace h := it_f c8 h
      refine ev_aload_n dX3_layDown_41 (pc' := 42) rfl rfl ?_
      refine ev_getR (y := 11) dX3_layDown_42 (pc' := 45) rfl fq_3_16 kn_0 rfl ?_
      refine ev_iload dX3_layDown_45 (pc' := 47) rfl rfl ?_
      obtain ⟨y9, x_y9, h⟩ := ob_of h
      refine ev_invV dX3_layDown_47 (pc' := 50) rfl sq_3_76 mt_X2_at rfl (arecv_ob (x := 11) rfl rfl (by decide) kn_11) ⟨_, rfl, Nat.le_of_ble_eq_true rfl, Nat.le_of_ble_eq_true rfl, rfl, rfl⟩ ?_
      refine X2_at_ca kn_11 x_y9 ?_
      refine ev_r1 ?_
      refine ev_invV dX3_layDown_50 (pc' := 53) rfl sq_3_184 mt_X0_worth rfl (arecv_ob (x := y9) rfl rfl (by decide) (X2_at_kd kn_11 x_y9)) ⟨_, rfl, Nat.le_of_ble_eq_true rfl, Nat.le_of_ble_eq_true rfl, rfl, rfl⟩ ?_
      refine X0_worth_ca (X2_at_kd kn_11 x_y9) rfl ?_
      refine ev_r1 ?_
      refine ev_iload dX3_layDown_53 (pc' := 55) rfl rfl ?_
      refine ev_icmp_le dX3_layDown_55 (pc' := 58) rfl (t := 75) rfl (fun c10 => ?_) (fun c10 => ?_)
      · replace h := it_t c10 h
        obtain ⟨v11, e_v11⟩ : ∃ y : Int32, y = (w6 + 1) := ⟨_, rfl⟩
        replace h := nm_at e_v11 h
        refine ev_iinc dX3_layDown_75 (pc' := 78) (v := v11) (ls' := [some (.ref 0), none, none, some (.int w4), some (.int w5), some (.int v11)]) rfl rfl (by rw [e_v11]; rfl) (Nat.le_of_ble_eq_true rfl) rfl ?_
        refine ev_goto dX3_layDown_78 (t := 29) rfl ?_
        exact ev_sub (lsub_c (lsub_c (lsub_c (lsub_c (lsub_c (lsub_c lsub_nil)))))) (ih w4 w5 v11 h)
      · replace h := it_f c10 h
        refine ev_aload_n dX3_layDown_58 (pc' := 59) rfl rfl ?_
        refine ev_getR (y := 11) dX3_layDown_59 (pc' := 62) rfl fq_3_16 kn_0 rfl ?_
        refine ev_iload dX3_layDown_62 (pc' := 64) rfl rfl ?_
        obtain ⟨y12, x_y12, h⟩ := ob_of h
        refine ev_invV dX3_layDown_64 (pc' := 67) rfl sq_3_76 mt_X2_at rfl (arecv_ob (x := 11) rfl rfl (by decide) kn_11) ⟨_, rfl, Nat.le_of_ble_eq_true rfl, Nat.le_of_ble_eq_true rfl, rfl, rfl⟩ ?_
        refine X2_at_ca kn_11 x_y12 ?_
        refine ev_r1 ?_
        refine ev_invV dX3_layDown_67 (pc' := 70) rfl sq_3_184 mt_X0_worth rfl (arecv_ob (x := y12) rfl rfl (by decide) (X2_at_kd kn_11 x_y12)) ⟨_, rfl, Nat.le_of_ble_eq_true rfl, Nat.le_of_ble_eq_true rfl, rfl, rfl⟩ ?_
        refine X0_worth_ca (X2_at_kd kn_11 x_y12) rfl ?_
        refine ev_r1 ?_
        refine ev_topi (fun v13 e_v13 => ?_)
        replace h := nm_at e_v13 h
        refine ev_istore dX3_layDown_70 (pc' := 72) (ls' := [some (.ref 0), none, none, some (.int w4), some (.int v13), some (.int w6)]) rfl (Nat.le_of_ble_eq_true rfl) rfl ?_
        refine ev_iload dX3_layDown_72 (pc' := 74) rfl rfl ?_
        refine ev_istore_n dX3_layDown_74 (pc' := 75) (ls' := [some (.ref 0), none, none, some (.int w6), some (.int v13), some (.int w6)]) rfl (Nat.le_of_ble_eq_true rfl) rfl ?_
        obtain ⟨v14, e_v14⟩ : ∃ y : Int32, y = (w6 + 1) := ⟨_, rfl⟩
        replace h := nm_at e_v14 h
        refine ev_iinc dX3_layDown_75 (pc' := 78) (v := v14) (ls' := [some (.ref 0), none, none, some (.int w6), some (.int v13), some (.int v14)]) rfl rfl (by rw [e_v14]; rfl) (Nat.le_of_ble_eq_true rfl) rfl ?_
        refine ev_goto dX3_layDown_78 (t := 29) rfl ?_
        exact ev_sub (lsub_c (lsub_c (lsub_c (lsub_c (lsub_c (lsub_c lsub_nil)))))) (ih w6 v13 v14 h)
set_option maxRecDepth 100000 in
set_option maxHeartbeats 8000000 in
theorem X3_layDown_ca {S : Sc} {d : Nat} {a1 : Int32} {mem : Mm} {rr : Int32} {mr : Mm} {Q : Po}  (h : X3_layDown 0 a1 mem = some (rr, mr)) (q : Q (some (.int rr)) mr) : Ca S (d + 6) 69 [.ref 0, .int a1] mem Q := by
  unfold X3_layDown at h
  refine ca_in (by decide) mt_X3_layDown (Nat.le_of_ble_eq_true rfl) ?_
  show Ev S (d + 5) 3 cX3_layDown (some .int) 0 [some (.ref 0), some (.int a1), none, none, none, none] [] mem Q
  refine ev_iload_n dX3_layDown_0 (pc' := 1) rfl rfl ?_
  refine ev_invS dX3_layDown_1 (pc' := 4) rfl sq_3_118 mt_X3_yearsFault rfl ⟨_, rfl, Nat.le_of_ble_eq_true rfl, Nat.le_of_ble_eq_true rfl, rfl, rfl⟩ ?_
  refine X3_yearsFault_ca  rfl ?_
  refine ev_r1 ?_
  refine ev_topi (fun v1 e_v1 => ?_)
  replace h := nm_at e_v1 h
  refine ev_istore_n dX3_layDown_4 (pc' := 5) (ls' := [some (.ref 0), some (.int a1), some (.int v1), none, none, none]) rfl (Nat.le_of_ble_eq_true rfl) rfl ?_
  refine ev_iload_n dX3_layDown_5 (pc' := 6) rfl rfl ?_
  refine ev_if_eq dX3_layDown_6 (pc' := 9) rfl (t := 15) rfl (fun c2 => ?_) (fun c2 => ?_)
  · replace h := it_t c2 h
    refine ev_aload_n dX3_layDown_15 (pc' := 16) rfl rfl ?_
    refine ev_iload_n dX3_layDown_16 (pc' := 17) rfl rfl ?_
    obtain ⟨m3, x_m3, h⟩ := ob_of h
    refine ev_invV dX3_layDown_17 (pc' := 20) rfl sq_3_121 mt_X3_thinkOn rfl (arecv_ob (x := 0) rfl rfl (by decide) kn_0) ⟨_, rfl, Nat.le_of_ble_eq_true rfl, Nat.le_of_ble_eq_true rfl, rfl, rfl⟩ ?_
    refine X3_thinkOn_ca  x_m3 ?_
    refine ev_r0 ?_
    refine ev_bipush dX3_layDown_20 (pc' := 22) (v := (-9)) rfl (by decide) ?_
    refine ev_istore_n dX3_layDown_22 (pc' := 23) (ls' := [some (.ref 0), some (.int a1), some (.int v1), some (.int (-9)), none, none]) rfl (Nat.le_of_ble_eq_true rfl) rfl ?_
    refine ev_iconst dX3_layDown_23 (pc' := 24) (v := (-1)) rfl (by decide) ?_
    refine ev_istore dX3_layDown_24 (pc' := 26) (ls' := [some (.ref 0), some (.int a1), some (.int v1), some (.int (-9)), some (.int (-1)), none]) rfl (Nat.le_of_ble_eq_true rfl) rfl ?_
    refine ev_iconst dX3_layDown_26 (pc' := 27) (v := 0) rfl (by decide) ?_
    refine ev_istore dX3_layDown_27 (pc' := 29) (ls' := [some (.ref 0), some (.int a1), some (.int v1), some (.int (-9)), some (.int (-1)), some (.int 0)]) rfl (Nat.le_of_ble_eq_true rfl) rfl ?_
    exact ev_sub (lsub_c (lsub_n (lsub_n (lsub_c (lsub_c (lsub_c lsub_nil)))))) (X3_layDown_L29_ev  q LF (-9) (-1) 0 h)
  · replace h := it_f c2 h
    refine ev_aload_n dX3_layDown_9 (pc' := 10) rfl rfl ?_
    refine ev_iload_n dX3_layDown_10 (pc' := 11) rfl rfl ?_
    obtain ⟨y15, m16, x_y15, h⟩ := ob2_of h
    refine ev_invV dX3_layDown_11 (pc' := 14) rfl sq_3_56 mt_X3_refuse rfl (arecv_ob (x := 0) rfl rfl (by decide) kn_0) ⟨_, rfl, Nat.le_of_ble_eq_true rfl, Nat.le_of_ble_eq_true rfl, rfl, rfl⟩ ?_
    refine X3_refuse_ca  x_y15 ?_
    refine ev_r1 ?_
    obtain ⟨rfl, rfl⟩ := rt2 h
    exact ev_ireturn dX3_layDown_14 rfl q
def X3_keepsLess (_o : Nat) (a1 : Int32) (a2 : Int32) (mem : Mm) : Option Int32 := ob (X2_at 11 a1) (fun y1 => ob (X2_at 1 a2) (fun y2 => nm (((X0_worth y1 mem)).toInt64 * ((mem y2 2)).toInt64) (fun v3 => ob (X2_at 11 a2) (fun y4 => ob (X2_at 1 a1) (fun y5 => nm (((X0_worth y4 mem)).toInt64 * ((mem y5 2)).toInt64) (fun v6 => if 0 ≤ (lg_cmp v3 v6) then (some 0) else (some 1)))))))
set_option maxRecDepth 100000 in
set_option maxHeartbeats 8000000 in
theorem X3_keepsLess_ca {S : Sc} {d : Nat} {a1 : Int32} {a2 : Int32} {mem : Mm} {rr : Int32} {Q : Po}  (h : X3_keepsLess 0 a1 a2 mem = some rr) (q : Q (some (.int rr)) mem) : Ca S (d + 2) 98 [.ref 0, .int a1, .int a2] mem Q := by
  unfold X3_keepsLess at h
  refine ca_in (by decide) mt_X3_keepsLess (Nat.le_of_ble_eq_true rfl) ?_
  show Ev S (d + 1) 3 cX3_keepsLess (some .boolean) 0 [some (.ref 0), some (.int a1), some (.int a2), none, none, none, none] [] mem Q
  refine ev_aload_n dX3_keepsLess_0 (pc' := 1) rfl rfl ?_
  refine ev_getR (y := 11) dX3_keepsLess_1 (pc' := 4) rfl fq_3_16 kn_0 rfl ?_
  refine ev_iload_n dX3_keepsLess_4 (pc' := 5) rfl rfl ?_
  obtain ⟨y1, x_y1, h⟩ := ob_of h
  refine ev_invV dX3_keepsLess_5 (pc' := 8) rfl sq_3_76 mt_X2_at rfl (arecv_ob (x := 11) rfl rfl (by decide) kn_11) ⟨_, rfl, Nat.le_of_ble_eq_true rfl, Nat.le_of_ble_eq_true rfl, rfl, rfl⟩ ?_
  refine X2_at_ca kn_11 x_y1 ?_
  refine ev_r1 ?_
  refine ev_invV dX3_keepsLess_8 (pc' := 11) rfl sq_3_184 mt_X0_worth rfl (arecv_ob (x := y1) rfl rfl (by decide) (X2_at_kd kn_11 x_y1)) ⟨_, rfl, Nat.le_of_ble_eq_true rfl, Nat.le_of_ble_eq_true rfl, rfl, rfl⟩ ?_
  refine X0_worth_ca (X2_at_kd kn_11 x_y1) rfl ?_
  refine ev_r1 ?_
  refine ev_i2l dX3_keepsLess_11 (pc' := 12) rfl ?_
  refine ev_aload_n dX3_keepsLess_12 (pc' := 13) rfl rfl ?_
  refine ev_getR (y := 1) dX3_keepsLess_13 (pc' := 16) rfl fq_3_10 kn_0 rfl ?_
  refine ev_iload_n dX3_keepsLess_16 (pc' := 17) rfl rfl ?_
  obtain ⟨y2, x_y2, h⟩ := ob_of h
  refine ev_invV dX3_keepsLess_17 (pc' := 20) rfl sq_3_76 mt_X2_at rfl (arecv_ob (x := 1) rfl rfl (by decide) kn_1) ⟨_, rfl, Nat.le_of_ble_eq_true rfl, Nat.le_of_ble_eq_true rfl, rfl, rfl⟩ ?_
  refine X2_at_ca kn_1 x_y2 ?_
  refine ev_r1 ?_
  refine ev_get dX3_keepsLess_20 (pc' := 23) rfl fq_3_88 (X2_at_kd kn_1 x_y2) rfl ?_
  refine ev_i2l dX3_keepsLess_23 (pc' := 24) rfl ?_
  refine ev_lmul dX3_keepsLess_24 (pc' := 25) rfl ?_
  refine ev_topl (fun v3 e_v3 => ?_)
  replace h := nm_at e_v3 h
  refine ev_lstore_n dX3_keepsLess_25 (pc' := 26) (ls' := [some (.ref 0), some (.int a1), some (.int a2), some (.long v3), none, none, none]) rfl (Nat.le_of_ble_eq_true rfl) rfl ?_
  refine ev_aload_n dX3_keepsLess_26 (pc' := 27) rfl rfl ?_
  refine ev_getR (y := 11) dX3_keepsLess_27 (pc' := 30) rfl fq_3_16 kn_0 rfl ?_
  refine ev_iload_n dX3_keepsLess_30 (pc' := 31) rfl rfl ?_
  obtain ⟨y4, x_y4, h⟩ := ob_of h
  refine ev_invV dX3_keepsLess_31 (pc' := 34) rfl sq_3_76 mt_X2_at rfl (arecv_ob (x := 11) rfl rfl (by decide) kn_11) ⟨_, rfl, Nat.le_of_ble_eq_true rfl, Nat.le_of_ble_eq_true rfl, rfl, rfl⟩ ?_
  refine X2_at_ca kn_11 x_y4 ?_
  refine ev_r1 ?_
  refine ev_invV dX3_keepsLess_34 (pc' := 37) rfl sq_3_184 mt_X0_worth rfl (arecv_ob (x := y4) rfl rfl (by decide) (X2_at_kd kn_11 x_y4)) ⟨_, rfl, Nat.le_of_ble_eq_true rfl, Nat.le_of_ble_eq_true rfl, rfl, rfl⟩ ?_
  refine X0_worth_ca (X2_at_kd kn_11 x_y4) rfl ?_
  refine ev_r1 ?_
  refine ev_i2l dX3_keepsLess_37 (pc' := 38) rfl ?_
  refine ev_aload_n dX3_keepsLess_38 (pc' := 39) rfl rfl ?_
  refine ev_getR (y := 1) dX3_keepsLess_39 (pc' := 42) rfl fq_3_10 kn_0 rfl ?_
  refine ev_iload_n dX3_keepsLess_42 (pc' := 43) rfl rfl ?_
  obtain ⟨y5, x_y5, h⟩ := ob_of h
  refine ev_invV dX3_keepsLess_43 (pc' := 46) rfl sq_3_76 mt_X2_at rfl (arecv_ob (x := 1) rfl rfl (by decide) kn_1) ⟨_, rfl, Nat.le_of_ble_eq_true rfl, Nat.le_of_ble_eq_true rfl, rfl, rfl⟩ ?_
  refine X2_at_ca kn_1 x_y5 ?_
  refine ev_r1 ?_
  refine ev_get dX3_keepsLess_46 (pc' := 49) rfl fq_3_88 (X2_at_kd kn_1 x_y5) rfl ?_
  refine ev_i2l dX3_keepsLess_49 (pc' := 50) rfl ?_
  refine ev_lmul dX3_keepsLess_50 (pc' := 51) rfl ?_
  refine ev_topl (fun v6 e_v6 => ?_)
  replace h := nm_at e_v6 h
  refine ev_lstore dX3_keepsLess_51 (pc' := 53) (ls' := [some (.ref 0), some (.int a1), some (.int a2), some (.long v3), none, some (.long v6), none]) rfl (Nat.le_of_ble_eq_true rfl) rfl ?_
  refine ev_lload_n dX3_keepsLess_53 (pc' := 54) rfl rfl ?_
  refine ev_lload dX3_keepsLess_54 (pc' := 56) rfl rfl ?_
  refine ev_lcmp dX3_keepsLess_56 (pc' := 57) rfl ?_
  refine ev_if_ge dX3_keepsLess_57 (pc' := 60) rfl (t := 64) rfl (fun c7 => ?_) (fun c7 => ?_)
  · replace h := it_t c7 h
    refine ev_iconst dX3_keepsLess_64 (pc' := 65) (v := 0) rfl (by decide) ?_
    obtain rfl := rt1 h
    exact ev_ireturn dX3_keepsLess_65 (aret_z (by decide)) q
  · replace h := it_f c7 h
    refine ev_iconst dX3_keepsLess_60 (pc' := 61) (v := 1) rfl (by decide) ?_
    refine ev_goto dX3_keepsLess_61 (t := 65) rfl ?_
    obtain rfl := rt1 h
    exact ev_ireturn dX3_keepsLess_65 (aret_z (by decide)) q
def X3_sell_L26   (m6 : Mm) : Nat → Int32 → Int32 → Option (Int32 × Mm)
  | 0, _, _ => none
  | n + 1, w4, w5 => if (m6 1 2) ≤ w5 then (some (w4, m6)) else (ob (X2_at 1 w5) (fun y8 => if (m6 y8 2) ≤ 0 then (nm (w5 + 1) (fun v10 => X3_sell_L26 m6 n w4 v10)) else (if w4 < 0 then (nm (w5 + 1) (fun v12 => X3_sell_L26 m6 n w5 v12)) else (ob (X3_keepsLess 0 w5 w4 m6) (fun y13 => if y13 = 0 then (nm (w5 + 1) (fun v15 => X3_sell_L26 m6 n w4 v15)) else (nm (w5 + 1) (fun v16 => X3_sell_L26 m6 n w5 v16)))))))
def X3_sell (_o : Nat) (a1 : Int32) (mem : Mm) : Option (Int32 × Mm) := nm (X3_yearsFault a1) (fun v1 => if v1 = 0 then (ob (X3_thinkOn 0 a1 mem) (fun m3 => X3_sell_L26 m3 LF (-9) 0)) else (ob2 (X3_refuse 0 v1 mem) (fun y17 m18 => some (y17, m18))))
set_option maxRecDepth 100000 in
set_option maxHeartbeats 8000000 in
theorem X3_sell_L26_ev {S : Sc} {d : Nat}   {m6 : Mm} {rr : Int32} {mr : Mm} {Q : Po}  (q : Q (some (.int rr)) mr) : ∀ (n : Nat) (w4 : Int32) (w5 : Int32), X3_sell_L26 m6 n w4 w5 = some (rr, mr) → Ev S (d + 5) 3 cX3_sell (some .int) 26 [some (.ref 0), none, none, some (.int w4), some (.int w5)] [] m6 Q := by
  intro n
  induction n with
  | zero => intro w4 w5 h; cases h
  | succ n ih =>
    intro w4 w5 h
    unfold X3_sell_L26 at h
    refine ev_iload dX3_sell_26 (pc' := 28) rfl rfl ?_
    refine ev_aload_n dX3_sell_28 (pc' := 29) rfl rfl ?_
    refine ev_getR (y := 1) dX3_sell_29 (pc' := 32) rfl fq_3_10 kn_0 rfl ?_
    refine ev_get dX3_sell_32 (pc' := 35) rfl fq_3_161 kn_1 rfl ?_
    refine ev_icmp_ge dX3_sell_35 (pc' := 38) rfl (t := 76) rfl (fun c7 => ?_) (fun c7 => ?_)
    · replace h := it_t c7 h
      refine ev_iload_n dX3_sell_76 (pc' := 77) rfl rfl ?_
      obtain ⟨rfl, rfl⟩ := rt2 h
      exact ev_ireturn dX3_sell_77 rfl q
    · replace h := it_f c7 h
      refine ev_aload_n dX3_sell_38 (pc' := 39) rfl rfl ?_
      refine ev_getR (y := 1) dX3_sell_39 (pc' := 42) rfl fq_3_10 kn_0 rfl ?_
      refine ev_iload dX3_sell_42 (pc' := 44) rfl rfl ?_
      obtain ⟨y8, x_y8, h⟩ := ob_of h
      refine ev_invV dX3_sell_44 (pc' := 47) rfl sq_3_76 mt_X2_at rfl (arecv_ob (x := 1) rfl rfl (by decide) kn_1) ⟨_, rfl, Nat.le_of_ble_eq_true rfl, Nat.le_of_ble_eq_true rfl, rfl, rfl⟩ ?_
      refine X2_at_ca kn_1 x_y8 ?_
      refine ev_r1 ?_
      refine ev_get dX3_sell_47 (pc' := 50) rfl fq_3_88 (X2_at_kd kn_1 x_y8) rfl ?_
      refine ev_if_le dX3_sell_50 (pc' := 53) rfl (t := 70) rfl (fun c9 => ?_) (fun c9 => ?_)
      · replace h := it_t c9 h
        obtain ⟨v10, e_v10⟩ : ∃ y : Int32, y = (w5 + 1) := ⟨_, rfl⟩
        replace h := nm_at e_v10 h
        refine ev_iinc dX3_sell_70 (pc' := 73) (v := v10) (ls' := [some (.ref 0), none, none, some (.int w4), some (.int v10)]) rfl rfl (by rw [e_v10]; rfl) (Nat.le_of_ble_eq_true rfl) rfl ?_
        refine ev_goto dX3_sell_73 (t := 26) rfl ?_
        exact ev_sub (lsub_c (lsub_c (lsub_c (lsub_c (lsub_c lsub_nil))))) (ih w4 v10 h)
      · replace h := it_f c9 h
        refine ev_iload_n dX3_sell_53 (pc' := 54) rfl rfl ?_
        refine ev_if_lt dX3_sell_54 (pc' := 57) rfl (t := 67) rfl (fun c11 => ?_) (fun c11 => ?_)
        · replace h := it_t c11 h
          refine ev_iload dX3_sell_67 (pc' := 69) rfl rfl ?_
          refine ev_istore_n dX3_sell_69 (pc' := 70) (ls' := [some (.ref 0), none, none, some (.int w5), some (.int w5)]) rfl (Nat.le_of_ble_eq_true rfl) rfl ?_
          obtain ⟨v12, e_v12⟩ : ∃ y : Int32, y = (w5 + 1) := ⟨_, rfl⟩
          replace h := nm_at e_v12 h
          refine ev_iinc dX3_sell_70 (pc' := 73) (v := v12) (ls' := [some (.ref 0), none, none, some (.int w5), some (.int v12)]) rfl rfl (by rw [e_v12]; rfl) (Nat.le_of_ble_eq_true rfl) rfl ?_
          refine ev_goto dX3_sell_73 (t := 26) rfl ?_
          exact ev_sub (lsub_c (lsub_c (lsub_c (lsub_c (lsub_c lsub_nil))))) (ih w5 v12 h)
        · replace h := it_f c11 h
          refine ev_aload_n dX3_sell_57 (pc' := 58) rfl rfl ?_
          refine ev_iload dX3_sell_58 (pc' := 60) rfl rfl ?_
          refine ev_iload_n dX3_sell_60 (pc' := 61) rfl rfl ?_
          obtain ⟨y13, x_y13, h⟩ := ob_of h
          refine ev_invV dX3_sell_61 (pc' := 64) rfl sq_3_187 mt_X3_keepsLess rfl (arecv_ob (x := 0) rfl rfl (by decide) kn_0) ⟨_, rfl, Nat.le_of_ble_eq_true rfl, Nat.le_of_ble_eq_true rfl, rfl, rfl⟩ ?_
          refine X3_keepsLess_ca  x_y13 ?_
          refine ev_r1 ?_
          refine ev_if_eq dX3_sell_64 (pc' := 67) rfl (t := 70) rfl (fun c14 => ?_) (fun c14 => ?_)
          · replace h := it_t c14 h
            obtain ⟨v15, e_v15⟩ : ∃ y : Int32, y = (w5 + 1) := ⟨_, rfl⟩
            replace h := nm_at e_v15 h
            refine ev_iinc dX3_sell_70 (pc' := 73) (v := v15) (ls' := [some (.ref 0), none, none, some (.int w4), some (.int v15)]) rfl rfl (by rw [e_v15]; rfl) (Nat.le_of_ble_eq_true rfl) rfl ?_
            refine ev_goto dX3_sell_73 (t := 26) rfl ?_
            exact ev_sub (lsub_c (lsub_c (lsub_c (lsub_c (lsub_c lsub_nil))))) (ih w4 v15 h)
          · replace h := it_f c14 h
            refine ev_iload dX3_sell_67 (pc' := 69) rfl rfl ?_
            refine ev_istore_n dX3_sell_69 (pc' := 70) (ls' := [some (.ref 0), none, none, some (.int w5), some (.int w5)]) rfl (Nat.le_of_ble_eq_true rfl) rfl ?_
            obtain ⟨v16, e_v16⟩ : ∃ y : Int32, y = (w5 + 1) := ⟨_, rfl⟩
            replace h := nm_at e_v16 h
            refine ev_iinc dX3_sell_70 (pc' := 73) (v := v16) (ls' := [some (.ref 0), none, none, some (.int w5), some (.int v16)]) rfl rfl (by rw [e_v16]; rfl) (Nat.le_of_ble_eq_true rfl) rfl ?_
            refine ev_goto dX3_sell_73 (t := 26) rfl ?_
            exact ev_sub (lsub_c (lsub_c (lsub_c (lsub_c (lsub_c lsub_nil))))) (ih w5 v16 h)
set_option maxRecDepth 100000 in
set_option maxHeartbeats 8000000 in
theorem X3_sell_ca {S : Sc} {d : Nat} {a1 : Int32} {mem : Mm} {rr : Int32} {mr : Mm} {Q : Po}  (h : X3_sell 0 a1 mem = some (rr, mr)) (q : Q (some (.int rr)) mr) : Ca S (d + 6) 70 [.ref 0, .int a1] mem Q := by
  unfold X3_sell at h
  refine ca_in (by decide) mt_X3_sell (Nat.le_of_ble_eq_true rfl) ?_
  show Ev S (d + 5) 3 cX3_sell (some .int) 0 [some (.ref 0), some (.int a1), none, none, none] [] mem Q
  refine ev_iload_n dX3_sell_0 (pc' := 1) rfl rfl ?_
  refine ev_invS dX3_sell_1 (pc' := 4) rfl sq_3_118 mt_X3_yearsFault rfl ⟨_, rfl, Nat.le_of_ble_eq_true rfl, Nat.le_of_ble_eq_true rfl, rfl, rfl⟩ ?_
  refine X3_yearsFault_ca  rfl ?_
  refine ev_r1 ?_
  refine ev_topi (fun v1 e_v1 => ?_)
  replace h := nm_at e_v1 h
  refine ev_istore_n dX3_sell_4 (pc' := 5) (ls' := [some (.ref 0), some (.int a1), some (.int v1), none, none]) rfl (Nat.le_of_ble_eq_true rfl) rfl ?_
  refine ev_iload_n dX3_sell_5 (pc' := 6) rfl rfl ?_
  refine ev_if_eq dX3_sell_6 (pc' := 9) rfl (t := 15) rfl (fun c2 => ?_) (fun c2 => ?_)
  · replace h := it_t c2 h
    refine ev_aload_n dX3_sell_15 (pc' := 16) rfl rfl ?_
    refine ev_iload_n dX3_sell_16 (pc' := 17) rfl rfl ?_
    obtain ⟨m3, x_m3, h⟩ := ob_of h
    refine ev_invV dX3_sell_17 (pc' := 20) rfl sq_3_121 mt_X3_thinkOn rfl (arecv_ob (x := 0) rfl rfl (by decide) kn_0) ⟨_, rfl, Nat.le_of_ble_eq_true rfl, Nat.le_of_ble_eq_true rfl, rfl, rfl⟩ ?_
    refine X3_thinkOn_ca  x_m3 ?_
    refine ev_r0 ?_
    refine ev_bipush dX3_sell_20 (pc' := 22) (v := (-9)) rfl (by decide) ?_
    refine ev_istore_n dX3_sell_22 (pc' := 23) (ls' := [some (.ref 0), some (.int a1), some (.int v1), some (.int (-9)), none]) rfl (Nat.le_of_ble_eq_true rfl) rfl ?_
    refine ev_iconst dX3_sell_23 (pc' := 24) (v := 0) rfl (by decide) ?_
    refine ev_istore dX3_sell_24 (pc' := 26) (ls' := [some (.ref 0), some (.int a1), some (.int v1), some (.int (-9)), some (.int 0)]) rfl (Nat.le_of_ble_eq_true rfl) rfl ?_
    exact ev_sub (lsub_c (lsub_n (lsub_n (lsub_c (lsub_c lsub_nil))))) (X3_sell_L26_ev  q LF (-9) 0 h)
  · replace h := it_f c2 h
    refine ev_aload_n dX3_sell_9 (pc' := 10) rfl rfl ?_
    refine ev_iload_n dX3_sell_10 (pc' := 11) rfl rfl ?_
    obtain ⟨y17, m18, x_y17, h⟩ := ob2_of h
    refine ev_invV dX3_sell_11 (pc' := 14) rfl sq_3_56 mt_X3_refuse rfl (arecv_ob (x := 0) rfl rfl (by decide) kn_0) ⟨_, rfl, Nat.le_of_ble_eq_true rfl, Nat.le_of_ble_eq_true rfl, rfl, rfl⟩ ?_
    refine X3_refuse_ca  x_y17 ?_
    refine ev_r1 ?_
    obtain ⟨rfl, rfl⟩ := rt2 h
    exact ev_ireturn dX3_sell_14 rfl q
