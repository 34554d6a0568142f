def X4_which_L35  (a7 : Int32) (a8 : Int32) : Nat → Int32 → Int32 → Mm → Option (Int32 × Mm)
  | 0, _, _, _ => none
  | n + 1, w9, w10, m11 => if a8 = 0 then (if 6 ≤ w10 then (some (w9, m11)) else (ob (X4_lays 36 37 m11) (fun m14 => gd (vin (X4_at a7 0) 47) (nm (mset m14 37 ((X4_at a7 0)).toNatClampNeg w10) (fun m16 => ob2 (X4_firstWrong 35 a7 (m16 35 9) m16) (fun y17 m18 => if 0 ≤ y17 then (nm (w10 + 1) (fun v20 => X4_which_L35 a7 a8 n w9 v20 m18)) else (nm (w9 + (1 <<< (w10 &&& 31))) (fun v21 => nm (w10 + 1) (fun v22 => X4_which_L35 a7 a8 n v21 v22 m18))))))))) else (if 41 ≤ w10 then (some (w9, m11)) else (ob (X4_lays 36 37 m11) (fun m24 => nm (mset m24 37 2 w10) (fun m25 => ob2 (X4_firstWrong 35 a7 (m25 35 9) m25) (fun y26 m27 => if 0 ≤ y26 then (nm (w10 + 1) (fun v29 => X4_which_L35 a7 a8 n w9 v29 m27)) else (nm (w9 + 1) (fun v30 => nm (w10 + 1) (fun v31 => X4_which_L35 a7 a8 n v30 v31 m27))))))))
def X4_which (_o : Nat) (a1 : Int32) (a2 : Int32) (mem : Mm) : Option (Int32 × Mm) := if (X4_isCask 35 a1 mem) = 0 then (ob2 (X4_no 35 (-1) mem) (fun y2 m3 => some (y2, m3))) else (if (X4_isIn a2 0 1) = 0 then (ob2 (X4_no 35 (-2) mem) (fun y5 m6 => some (y5, m6))) else (X4_which_L35 a1 a2 LF 0 0 mem))
set_option maxRecDepth 100000 in
set_option maxHeartbeats 8000000 in
theorem X4_which_L35_ev {S : Sc} {d : Nat}  {a7 : Int32} {a8 : Int32} {rr : Int32} {mr : Mm} {Q : Po}  (q : Q (some (.int rr)) mr) : ∀ (n : Nat) (w9 : Int32) (w10 : Int32) (m11 : Mm), X4_which_L35 a7 a8 n w9 w10 m11 = some (rr, mr) → Ev S (d + 5) 4 cX4_which (some .int) 35 [some (.ref 35), some (.int a7), some (.int a8), some (.int w9), some (.int w10)] [] m11 Q := by
  intro n
  induction n with
  | zero => intro w9 w10 m11 h; cases h
  | succ n ih =>
    intro w9 w10 m11 h
    unfold X4_which_L35 at h
    refine ev_iload dX4_which_35 (pc' := 37) rfl rfl ?_
    refine ev_iload_n dX4_which_37 (pc' := 38) rfl rfl ?_
    refine ev_if_ne dX4_which_38 (pc' := 41) rfl (t := 46) rfl (fun c12 => ?_) (fun c12 => ?_)
    · replace h := it_f c12 h
      refine ev_bipush dX4_which_46 (pc' := 48) (v := 41) rfl (by decide) ?_
      refine ev_icmp_ge dX4_which_48 (pc' := 51) rfl (t := 122) rfl (fun c23 => ?_) (fun c23 => ?_)
      · replace h := it_t c23 h
        refine ev_iload_n dX4_which_122 (pc' := 123) rfl rfl ?_
        obtain ⟨rfl, rfl⟩ := rt2 h
        exact ev_ireturn dX4_which_123 rfl q
      · replace h := it_f c23 h
        refine ev_aload_n dX4_which_51 (pc' := 52) rfl rfl ?_
        refine ev_getR (y := 36) dX4_which_52 (pc' := 55) rfl fq_4_9 kn_35 rfl ?_
        refine ev_aload_n dX4_which_55 (pc' := 56) rfl rfl ?_
        refine ev_getR (y := 37) dX4_which_56 (pc' := 59) rfl fq_4_13 kn_35 rfl ?_
        obtain ⟨m24, x_m24, h⟩ := ob_of h
        refine ev_invS dX4_which_59 (pc' := 62) rfl sq_4_78 mt_X4_lays rfl ⟨_, rfl, Nat.le_of_ble_eq_true rfl, Nat.le_of_ble_eq_true rfl, rfl, rfl⟩ ?_
        refine X4_lays_ca kn_36 rfl kn_37 rfl x_m24 ?_
        refine ev_r0 ?_
        refine ev_iload_n dX4_which_62 (pc' := 63) rfl rfl ?_
        refine ev_if_ne dX4_which_63 (pc' := 66) rfl (t := 81) rfl (fun _ => ?_) (fun q => absurd q c12)
        refine ev_aload_n dX4_which_81 (pc' := 82) rfl rfl ?_
        refine ev_getR (y := 37) dX4_which_82 (pc' := 85) rfl fq_4_13 kn_35 rfl ?_
        refine ev_iconst dX4_which_85 (pc' := 86) (v := 2) rfl (by decide) ?_
        refine ev_iload dX4_which_86 (pc' := 88) rfl rfl ?_
        refine ev_iastK (k0 := 2) dX4_which_88 (pc' := 89) rfl kn_37 (by decide) rfl ?_
        refine ev_topm (fun m25 e_m25 => ?_)
        replace h := nm_at e_m25 h
        refine ev_aload_n dX4_which_89 (pc' := 90) rfl rfl ?_
        refine ev_iload_n dX4_which_90 (pc' := 91) rfl rfl ?_
        refine ev_aload_n dX4_which_91 (pc' := 92) rfl rfl ?_
        refine ev_get dX4_which_92 (pc' := 95) rfl fq_4_170 kn_35 rfl ?_
        obtain ⟨y26, m27, x_y26, h⟩ := ob2_of h
        refine ev_invV dX4_which_95 (pc' := 98) rfl sq_4_173 mt_X4_firstWrong rfl (arecv_ob (x := 35) rfl rfl (by decide) kn_35) ⟨_, rfl, Nat.le_of_ble_eq_true rfl, Nat.le_of_ble_eq_true rfl, rfl, rfl⟩ ?_
        refine X4_firstWrong_ca  x_y26 ?_
        refine ev_r1 ?_
        refine ev_if_ge dX4_which_98 (pc' := 101) rfl (t := 116) rfl (fun c28 => ?_) (fun c28 => ?_)
        · replace h := it_t c28 h
          obtain ⟨v29, e_v29⟩ : ∃ y : Int32, y = (w10 + 1) := ⟨_, rfl⟩
          replace h := nm_at e_v29 h
          refine ev_iinc dX4_which_116 (pc' := 119) (v := v29) (ls' := [some (.ref 35), some (.int a7), some (.int a8), some (.int w9), some (.int v29)]) rfl rfl (by rw [e_v29]; rfl) (Nat.le_of_ble_eq_true rfl) rfl ?_
          refine ev_goto dX4_which_119 (t := 35) rfl ?_
          exact ev_sub (lsub_c (lsub_c (lsub_c (lsub_c (lsub_c lsub_nil))))) (ih w9 v29 m27 h)
        · replace h := it_f c28 h
          refine ev_iload_n dX4_which_101 (pc' := 102) rfl rfl ?_
          refine ev_iload_n dX4_which_102 (pc' := 103) rfl rfl ?_
          refine ev_if_ne dX4_which_103 (pc' := 106) rfl (t := 113) rfl (fun _ => ?_) (fun q => absurd q c12)
          refine ev_iconst dX4_which_113 (pc' := 114) (v := 1) rfl (by decide) ?_
          refine ev_iadd dX4_which_114 (pc' := 115) rfl ?_
          refine ev_topi (fun v30 e_v30 => ?_)
          replace h := nm_at e_v30 h
          refine ev_istore_n dX4_which_115 (pc' := 116) (ls' := [some (.ref 35), some (.int a7), some (.int a8), some (.int v30), some (.int w10)]) rfl (Nat.le_of_ble_eq_true rfl) rfl ?_
          obtain ⟨v31, e_v31⟩ : ∃ y : Int32, y = (w10 + 1) := ⟨_, rfl⟩
          replace h := nm_at e_v31 h
          refine ev_iinc dX4_which_116 (pc' := 119) (v := v31) (ls' := [some (.ref 35), some (.int a7), some (.int a8), some (.int v30), some (.int v31)]) rfl rfl (by rw [e_v31]; rfl) (Nat.le_of_ble_eq_true rfl) rfl ?_
          refine ev_goto dX4_which_119 (t := 35) rfl ?_
          exact ev_sub (lsub_c (lsub_c (lsub_c (lsub_c (lsub_c lsub_nil))))) (ih v30 v31 m27 h)
    · replace h := it_t c12 h
      refine ev_bipush dX4_which_41 (pc' := 43) (v := 6) rfl (by decide) ?_
      refine ev_goto dX4_which_43 (t := 48) rfl ?_
      refine ev_icmp_ge dX4_which_48 (pc' := 51) rfl (t := 122) rfl (fun c13 => ?_) (fun c13 => ?_)
      · replace h := it_t c13 h
        refine ev_iload_n dX4_which_122 (pc' := 123) rfl rfl ?_
        obtain ⟨rfl, rfl⟩ := rt2 h
        exact ev_ireturn dX4_which_123 rfl q
      · replace h := it_f c13 h
        refine ev_aload_n dX4_which_51 (pc' := 52) rfl rfl ?_
        refine ev_getR (y := 36) dX4_which_52 (pc' := 55) rfl fq_4_9 kn_35 rfl ?_
        refine ev_aload_n dX4_which_55 (pc' := 56) rfl rfl ?_
        refine ev_getR (y := 37) dX4_which_56 (pc' := 59) rfl fq_4_13 kn_35 rfl ?_
        obtain ⟨m14, x_m14, h⟩ := ob_of h
        refine ev_invS dX4_which_59 (pc' := 62) rfl sq_4_78 mt_X4_lays rfl ⟨_, rfl, Nat.le_of_ble_eq_true rfl, Nat.le_of_ble_eq_true rfl, rfl, rfl⟩ ?_
        refine X4_lays_ca kn_36 rfl kn_37 rfl x_m14 ?_
        refine ev_r0 ?_
        refine ev_iload_n dX4_which_62 (pc' := 63) rfl rfl ?_
        refine ev_if_ne dX4_which_63 (pc' := 66) rfl (t := 81) rfl (fun q => absurd c12 q) (fun _ => ?_)
        refine ev_aload_n dX4_which_66 (pc' := 67) rfl rfl ?_
        refine ev_getR (y := 37) dX4_which_67 (pc' := 70) rfl fq_4_13 kn_35 rfl ?_
        refine ev_iload_n dX4_which_70 (pc' := 71) rfl rfl ?_
        refine ev_iconst dX4_which_71 (pc' := 72) (v := 0) rfl (by decide) ?_
        refine ev_invS dX4_which_72 (pc' := 75) rfl sq_4_44 mt_X4_at rfl ⟨_, rfl, Nat.le_of_ble_eq_true rfl, Nat.le_of_ble_eq_true rfl, rfl, rfl⟩ ?_
        refine X4_at_ca  rfl ?_
        refine ev_r1 ?_
        refine ev_iload dX4_which_75 (pc' := 77) rfl rfl ?_
        obtain ⟨g15, h⟩ := gd_of h
        refine ev_iastK (k0 := ((X4_at a7 0)).toNatClampNeg) dX4_which_77 (pc' := 78) rfl kn_37 g15 rfl ?_
        refine ev_topm (fun m16 e_m16 => ?_)
        replace h := nm_at e_m16 h
        refine ev_goto dX4_which_78 (t := 89) rfl ?_
        refine ev_aload_n dX4_which_89 (pc' := 90) rfl rfl ?_
        refine ev_iload_n dX4_which_90 (pc' := 91) rfl rfl ?_
        refine ev_aload_n dX4_which_91 (pc' := 92) rfl rfl ?_
        refine ev_get dX4_which_92 (pc' := 95) rfl fq_4_170 kn_35 rfl ?_
        obtain ⟨y17, m18, x_y17, h⟩ := ob2_of h
        refine ev_invV dX4_which_95 (pc' := 98) rfl sq_4_173 mt_X4_firstWrong rfl (arecv_ob (x := 35) rfl rfl (by decide) kn_35) ⟨_, rfl, Nat.le_of_ble_eq_true rfl, Nat.le_of_ble_eq_true rfl, rfl, rfl⟩ ?_
        refine X4_firstWrong_ca  x_y17 ?_
        refine ev_r1 ?_
        refine ev_if_ge dX4_which_98 (pc' := 101) rfl (t := 116) rfl (fun c19 => ?_) (fun c19 => ?_)
        · replace h := it_t c19 h
          obtain ⟨v20, e_v20⟩ : ∃ y : Int32, y = (w10 + 1) := ⟨_, rfl⟩
          replace h := nm_at e_v20 h
          refine ev_iinc dX4_which_116 (pc' := 119) (v := v20) (ls' := [some (.ref 35), some (.int a7), some (.int a8), some (.int w9), some (.int v20)]) rfl rfl (by rw [e_v20]; rfl) (Nat.le_of_ble_eq_true rfl) rfl ?_
          refine ev_goto dX4_which_119 (t := 35) rfl ?_
          exact ev_sub (lsub_c (lsub_c (lsub_c (lsub_c (lsub_c lsub_nil))))) (ih w9 v20 m18 h)
        · replace h := it_f c19 h
          refine ev_iload_n dX4_which_101 (pc' := 102) rfl rfl ?_
          refine ev_iload_n dX4_which_102 (pc' := 103) rfl rfl ?_
          refine ev_if_ne dX4_which_103 (pc' := 106) rfl (t := 113) rfl (fun q => absurd c12 q) (fun _ => ?_)
          refine ev_iconst dX4_which_106 (pc' := 107) (v := 1) rfl (by decide) ?_
          refine ev_iload dX4_which_107 (pc' := 109) rfl rfl ?_
          refine ev_ishl dX4_which_109 (pc' := 110) rfl ?_
          refine ev_goto dX4_which_110 (t := 114) rfl ?_
          refine ev_iadd dX4_which_114 (pc' := 115) rfl ?_
          refine ev_topi (fun v21 e_v21 => ?_)
          replace h := nm_at e_v21 h
          refine ev_istore_n dX4_which_115 (pc' := 116) (ls' := [some (.ref 35), some (.int a7), some (.int a8), some (.int v21), some (.int w10)]) rfl (Nat.le_of_ble_eq_true rfl) rfl ?_
          obtain ⟨v22, e_v22⟩ : ∃ y : Int32, y = (w10 + 1) := ⟨_, rfl⟩
          replace h := nm_at e_v22 h
          refine ev_iinc dX4_which_116 (pc' := 119) (v := v22) (ls' := [some (.ref 35), some (.int a7), some (.int a8), some (.int v21), some (.int v22)]) rfl rfl (by rw [e_v22]; rfl) (Nat.le_of_ble_eq_true rfl) rfl ?_
          refine ev_goto dX4_which_119 (t := 35) rfl ?_
          exact ev_sub (lsub_c (lsub_c (lsub_c (lsub_c (lsub_c lsub_nil))))) (ih v21 v22 m18 h)
set_option maxRecDepth 100000 in
set_option maxHeartbeats 8000000 in
theorem X4_which_ca {S : Sc} {d : Nat} {a1 : Int32} {a2 : Int32} {mem : Mm} {rr : Int32} {mr : Mm} {Q : Po}  (h : X4_which 35 a1 a2 mem = some (rr, mr)) (q : Q (some (.int rr)) mr) : Ca S (d + 6) 168 [.ref 35, .int a1, .int a2] mem Q := by
  unfold X4_which at h
  refine ca_in (by decide) mt_X4_which (Nat.le_of_ble_eq_true rfl) ?_
  show Ev S (d + 5) 4 cX4_which (some .int) 0 [some (.ref 35), some (.int a1), some (.int a2), none, none] [] mem Q
  refine ev_aload_n dX4_which_0 (pc' := 1) rfl rfl ?_
  refine ev_iload_n dX4_which_1 (pc' := 2) rfl rfl ?_
  refine ev_invV dX4_which_2 (pc' := 5) rfl sq_4_111 mt_X4_isCask rfl (arecv_ob (x := 35) rfl rfl (by decide) kn_35) ⟨_, rfl, Nat.le_of_ble_eq_true rfl, Nat.le_of_ble_eq_true rfl, rfl, rfl⟩ ?_
  refine X4_isCask_ca  rfl ?_
  refine ev_r1 ?_
  refine ev_if_ne dX4_which_5 (pc' := 8) rfl (t := 14) rfl (fun c1 => ?_) (fun c1 => ?_)
  · replace h := it_f c1 h
    refine ev_iload_n dX4_which_14 (pc' := 15) rfl rfl ?_
    refine ev_iconst dX4_which_15 (pc' := 16) (v := 0) rfl (by decide) ?_
    refine ev_iconst dX4_which_16 (pc' := 17) (v := 1) rfl (by decide) ?_
    refine ev_invS dX4_which_17 (pc' := 20) rfl sq_4_40 mt_X4_isIn rfl ⟨_, rfl, Nat.le_of_ble_eq_true rfl, Nat.le_of_ble_eq_true rfl, rfl, rfl⟩ ?_
    refine X4_isIn_ca  rfl ?_
    refine ev_r1 ?_
    refine ev_if_ne dX4_which_20 (pc' := 23) rfl (t := 30) rfl (fun c4 => ?_) (fun c4 => ?_)
    · replace h := it_f c4 h
      refine ev_iconst dX4_which_30 (pc' := 31) (v := 0) rfl (by decide) ?_
      refine ev_istore_n dX4_which_31 (pc' := 32) (ls' := [some (.ref 35), some (.int a1), some (.int a2), some (.int 0), none]) rfl (Nat.le_of_ble_eq_true rfl) rfl ?_
      refine ev_iconst dX4_which_32 (pc' := 33) (v := 0) rfl (by decide) ?_
      refine ev_istore dX4_which_33 (pc' := 35) (ls' := [some (.ref 35), some (.int a1), some (.int a2), some (.int 0), some (.int 0)]) rfl (Nat.le_of_ble_eq_true rfl) rfl ?_
      exact ev_sub (lsub_c (lsub_c (lsub_c (lsub_c (lsub_c lsub_nil))))) (X4_which_L35_ev  q LF 0 0 mem h)
    · replace h := it_t c4 h
      refine ev_aload_n dX4_which_23 (pc' := 24) rfl rfl ?_
      refine ev_bipush dX4_which_24 (pc' := 26) (v := (-2)) rfl (by decide) ?_
      obtain ⟨y5, m6, x_y5, h⟩ := ob2_of h
      refine ev_invV dX4_which_26 (pc' := 29) rfl sq_4_36 mt_X4_no rfl (arecv_ob (x := 35) rfl rfl (by decide) kn_35) ⟨_, rfl, Nat.le_of_ble_eq_true rfl, Nat.le_of_ble_eq_true rfl, rfl, rfl⟩ ?_
      refine X4_no_ca  x_y5 ?_
      refine ev_r1 ?_
      obtain ⟨rfl, rfl⟩ := rt2 h
      exact ev_ireturn dX4_which_29 rfl q
  · replace h := it_t c1 h
    refine ev_aload_n dX4_which_8 (pc' := 9) rfl rfl ?_
    refine ev_iconst dX4_which_9 (pc' := 10) (v := (-1)) rfl (by decide) ?_
    obtain ⟨y2, m3, x_y2, h⟩ := ob2_of h
    refine ev_invV dX4_which_10 (pc' := 13) rfl sq_4_36 mt_X4_no rfl (arecv_ob (x := 35) rfl rfl (by decide) kn_35) ⟨_, rfl, Nat.le_of_ble_eq_true rfl, Nat.le_of_ble_eq_true rfl, rfl, rfl⟩ ?_
    refine X4_no_ca  x_y2 ?_
    refine ev_r1 ?_
    obtain ⟨rfl, rfl⟩ := rt2 h
    exact ev_ireturn dX4_which_13 rfl q
def X4_judge (_o : Nat) (a1 : Int32) (mem : Mm) : Option (Int32 × Mm) := if (X4_isCask 35 a1 mem) = 0 then (ob2 (X4_no 35 (-1) mem) (fun y2 m3 => some (y2, m3))) else (nm (mem 35 9) (fun v4 => nm (mset mem 35 9 0) (fun m5 => ob (X4_lays 36 37 m5) (fun m6 => ob2 (X4_firstWrong 35 a1 v4 m6) (fun y7 m8 => some (y7, m8))))))
set_option maxRecDepth 100000 in
set_option maxHeartbeats 8000000 in
theorem X4_judge_ca {S : Sc} {d : Nat} {a1 : Int32} {mem : Mm} {rr : Int32} {mr : Mm} {Q : Po}  (h : X4_judge 35 a1 mem = some (rr, mr)) (q : Q (some (.int rr)) mr) : Ca S (d + 6) 169 [.ref 35, .int a1] mem Q := by
  unfold X4_judge at h
  refine ca_in (by decide) mt_X4_judge (Nat.le_of_ble_eq_true rfl) ?_
  show Ev S (d + 5) 4 cX4_judge (some .int) 0 [some (.ref 35), some (.int a1), none] [] mem Q
  refine ev_aload_n dX4_judge_0 (pc' := 1) rfl rfl ?_
  refine ev_iload_n dX4_judge_1 (pc' := 2) rfl rfl ?_
  refine ev_invV dX4_judge_2 (pc' := 5) rfl sq_4_111 mt_X4_isCask rfl (arecv_ob (x := 35) rfl rfl (by decide) kn_35) ⟨_, rfl, Nat.le_of_ble_eq_true rfl, Nat.le_of_ble_eq_true rfl, rfl, rfl⟩ ?_
  refine X4_isCask_ca  rfl ?_
  refine ev_r1 ?_
  refine ev_if_ne dX4_judge_5 (pc' := 8) rfl (t := 14) rfl (fun c1 => ?_) (fun c1 => ?_)
  · replace h := it_f c1 h
    refine ev_aload_n dX4_judge_14 (pc' := 15) rfl rfl ?_
    refine ev_get dX4_judge_15 (pc' := 18) rfl fq_4_170 kn_35 rfl ?_
    refine ev_topi (fun v4 e_v4 => ?_)
    replace h := nm_at e_v4 h
    refine ev_istore_n dX4_judge_18 (pc' := 19) (ls' := [some (.ref 35), some (.int a1), some (.int v4)]) rfl (Nat.le_of_ble_eq_true rfl) rfl ?_
    refine ev_aload_n dX4_judge_19 (pc' := 20) rfl rfl ?_
    refine ev_iconst dX4_judge_20 (pc' := 21) (v := 0) rfl (by decide) ?_
    refine ev_put dX4_judge_21 (pc' := 24) rfl fq_4_170 kn_35 rfl (Or.inl (by decide)) ?_
    refine ev_topm (fun m5 e_m5 => ?_)
    replace h := nm_at e_m5 h
    refine ev_aload_n dX4_judge_24 (pc' := 25) rfl rfl ?_
    refine ev_getR (y := 36) dX4_judge_25 (pc' := 28) rfl fq_4_9 kn_35 rfl ?_
    refine ev_aload_n dX4_judge_28 (pc' := 29) rfl rfl ?_
    refine ev_getR (y := 37) dX4_judge_29 (pc' := 32) rfl fq_4_13 kn_35 rfl ?_
    obtain ⟨m6, x_m6, h⟩ := ob_of h
    refine ev_invS dX4_judge_32 (pc' := 35) rfl sq_4_78 mt_X4_lays rfl ⟨_, rfl, Nat.le_of_ble_eq_true rfl, Nat.le_of_ble_eq_true rfl, rfl, rfl⟩ ?_
    refine X4_lays_ca kn_36 rfl kn_37 rfl x_m6 ?_
    refine ev_r0 ?_
    refine ev_aload_n dX4_judge_35 (pc' := 36) rfl rfl ?_
    refine ev_iload_n dX4_judge_36 (pc' := 37) rfl rfl ?_
    refine ev_iload_n dX4_judge_37 (pc' := 38) rfl rfl ?_
    obtain ⟨y7, m8, x_y7, h⟩ := ob2_of h
    refine ev_invV dX4_judge_38 (pc' := 41) rfl sq_4_173 mt_X4_firstWrong rfl (arecv_ob (x := 35) rfl rfl (by decide) kn_35) ⟨_, rfl, Nat.le_of_ble_eq_true rfl, Nat.le_of_ble_eq_true rfl, rfl, rfl⟩ ?_
    refine X4_firstWrong_ca  x_y7 ?_
    refine ev_r1 ?_
    obtain ⟨rfl, rfl⟩ := rt2 h
    exact ev_ireturn dX4_judge_41 rfl q
  · replace h := it_t c1 h
    refine ev_aload_n dX4_judge_8 (pc' := 9) rfl rfl ?_
    refine ev_iconst dX4_judge_9 (pc' := 10) (v := (-1)) rfl (by decide) ?_
    obtain ⟨y2, m3, x_y2, h⟩ := ob2_of h
    refine ev_invV dX4_judge_10 (pc' := 13) rfl sq_4_36 mt_X4_no rfl (arecv_ob (x := 35) rfl rfl (by decide) kn_35) ⟨_, rfl, Nat.le_of_ble_eq_true rfl, Nat.le_of_ble_eq_true rfl, rfl, rfl⟩ ?_
    refine X4_no_ca  x_y2 ?_
    refine ev_r1 ?_
    obtain ⟨rfl, rfl⟩ := rt2 h
    exact ev_ireturn dX4_judge_13 rfl q
def X4_chance_L136  (a41 : Int32) (a42 : Int32) (a43 : Int32) (a44 : Int32) (a45 : Int32) (a46 : Int64) (a47 : Int64) (a48 : Int32) (k : Int64 → Int32 → Mm → Option (Int64 × Mm)) : Nat → Int64 → Int32 → Mm → Option (Int64 × Mm)
  | 0, _, _, _ => none
  | n + 1, w49, w50, m51 => if a43 ≤ w50 then (k w49 w50 m51) else (if ((a48 >>> (w50 &&& 31)) &&& 1) = 1 then (nm (w49 * 1) (fun v54 => ob (X4_yearBy 35 37 1 m51) (fun m55 => nm (w50 + 1) (fun v56 => X4_chance_L136 a41 a42 a43 a44 a45 a46 a47 a48 k n v54 v56 m55)))) else (nm (w49 * ((a44 - 1)).toInt64) (fun v57 => ob (X4_yearBy 35 37 0 m51) (fun m58 => nm (w50 + 1) (fun v59 => X4_chance_L136 a41 a42 a43 a44 a45 a46 a47 a48 k n v57 v59 m58)))))
def X4_chance_L111  (a30 : Int32) (a31 : Int32) (a32 : Int32) (a33 : Int32) (a34 : Int32) (a35 : Int64) (k : Int64 → Int32 → Mm → Option (Int64 × Mm)) : Nat → Int64 → Int32 → Mm → Option (Int64 × Mm)
  | 0, _, _, _ => none
  | n + 1, w36, w37, m38 => if (1 <<< (a32 &&& 31)) ≤ w37 then (k w36 w37 m38) else (ob (X4_lays 36 37 m38) (fun m40 => X4_chance_L136 a30 a31 a32 a33 a34 w36 a35 w37 (fun v60 v61 m62 => gd (vin (X4_at a30 2) 47) (if (m62 37 ((X4_at a30 2)).toNatClampNeg) < a31 then (nm (w36 + 0) (fun v65 => nm (w37 + 1) (fun v66 => X4_chance_L111 a30 a31 a32 a33 a34 a35 k n v65 v66 m62))) else (nm (w36 + v60) (fun v67 => nm (w37 + 1) (fun v68 => X4_chance_L111 a30 a31 a32 a33 a34 a35 k n v67 v68 m62))))) LF 1 0 m40))
def X4_chance_L88  (a21 : Int32) (a22 : Int32) (a23 : Int32) (a24 : Int32) (a25 : Int32) (m28 : Mm) : Nat → Int64 → Int32 → Option (Int64 × Mm)
  | 0, _, _ => none
  | n + 1, w26, w27 => if a23 ≤ w27 then (X4_chance_L111 a21 a22 a23 a24 a25 w26 (fun v69 v70 m71 => ob (X4_partOf v69 w26 a25) (fun y72 => some (y72, m71))) LF 0 0 m28) else (nm (w26 * (a24).toInt64) (fun v73 => nm (w27 + 1) (fun v74 => X4_chance_L88 a21 a22 a23 a24 a25 m28 n v73 v74)))
def X4_chance (_o : Nat) (a1 : Int32) (a2 : Int32) (a3 : Int32) (a4 : Int32) (a5 : Int32) (mem : Mm) : Option (Int64 × Mm) := if (X4_isCask 35 a1 mem) = 0 then (ob2 (X4_noWide 35 (-1) mem) (fun y2 m3 => some (y2, m3))) else (if a2 < 0 then (ob2 (X4_noWide 35 (-4) mem) (fun y5 m6 => some (y5, m6))) else (if a3 < 0 then (ob2 (X4_noWide 35 (-4) mem) (fun y8 m9 => some (y8, m9))) else (if 2 ≤ a4 then (if 400 < a2 then (ob2 (X4_noWide 35 (-6) mem) (fun y12 m13 => some (y12, m13))) else (if 8 < a3 then (ob2 (X4_noWide 35 (-6) mem) (fun y15 m16 => some (y15, m16))) else (if a4 ≤ 20 then (if (X4_isIn a5 0 1) = 0 then (ob2 (X4_noWide 35 (-2) mem) (fun y19 m20 => some (y19, m20))) else (X4_chance_L88 a1 a2 a3 a4 a5 mem LF 1 0)) else (ob2 (X4_noWide 35 (-6) mem) (fun y75 m76 => some (y75, m76)))))) else (ob2 (X4_noWide 35 (-4) mem) (fun y77 m78 => some (y77, m78))))))
set_option maxRecDepth 100000 in
set_option maxHeartbeats 8000000 in
theorem X4_chance_L136_ev {S : Sc} {d : Nat}  {a41 : Int32} {a42 : Int32} {a43 : Int32} {a44 : Int32} {a45 : Int32} {a46 : Int64} {a47 : Int64} {a48 : Int32} {k : Int64 → Int32 → Mm → Option (Int64 × Mm)} {rr : Int64} {mr : Mm} {Q : Po}  (q : Q (some (.long rr)) mr) (hk : ∀ (w49 : Int64) (w50 : Int32) (m51 : Mm), k w49 w50 m51 = some (rr, mr) → Ev S (d + 3) 4 cX4_chance (some .long) 195 [some (.ref 35), some (.int a41), some (.int a42), some (.int a43), some (.int a44), some (.int a45), some (.long a46), none, some (.long a47), none, some (.int a48), some (.long w49), none, some (.int w50), none] [] m51 Q) : ∀ (n : Nat) (w49 : Int64) (w50 : Int32) (m51 : Mm), X4_chance_L136 a41 a42 a43 a44 a45 a46 a47 a48 k n w49 w50 m51 = some (rr, mr) → Ev S (d + 3) 4 cX4_chance (some .long) 136 [some (.ref 35), some (.int a41), some (.int a42), some (.int a43), some (.int a44), some (.int a45), some (.long a46), none, some (.long a47), none, some (.int a48), some (.long w49), none, some (.int w50), none] [] m51 Q := by
  intro n
  induction n with
  | zero => intro w49 w50 m51 h; cases h
  | succ n ih =>
    intro w49 w50 m51 h
    unfold X4_chance_L136 at h
    refine ev_iload dX4_chance_136 (pc' := 138) rfl rfl ?_
    refine ev_iload_n dX4_chance_138 (pc' := 139) rfl rfl ?_
    refine ev_icmp_ge dX4_chance_139 (pc' := 142) rfl (t := 195) rfl (fun c52 => ?_) (fun c52 => ?_)
    · replace h := it_t c52 h
      exact ev_sub (lsub_c (lsub_c (lsub_c (lsub_c (lsub_c (lsub_c (lsub_c (lsub_c (lsub_c (lsub_c (lsub_c (lsub_c (lsub_c (lsub_c (lsub_c lsub_nil))))))))))))))) (hk w49 w50 m51 h)
    · replace h := it_f c52 h
      refine ev_iload dX4_chance_142 (pc' := 144) rfl rfl ?_
      refine ev_iload dX4_chance_144 (pc' := 146) rfl rfl ?_
      refine ev_ishr dX4_chance_146 (pc' := 147) rfl ?_
      refine ev_iconst dX4_chance_147 (pc' := 148) (v := 1) rfl (by decide) ?_
      refine ev_iand dX4_chance_148 (pc' := 149) rfl ?_
      refine ev_iconst dX4_chance_149 (pc' := 150) (v := 1) rfl (by decide) ?_
      refine ev_icmp_ne dX4_chance_150 (pc' := 153) rfl (t := 157) rfl (fun c53 => ?_) (fun c53 => ?_)
      · replace h := it_f c53 h
        refine ev_iconst dX4_chance_157 (pc' := 158) (v := 0) rfl (by decide) ?_
        refine ev_istore dX4_chance_158 (pc' := 160) (ls' := [some (.ref 35), some (.int a41), some (.int a42), some (.int a43), some (.int a44), some (.int a45), some (.long a46), none, some (.long a47), none, some (.int a48), some (.long w49), none, some (.int w50), some (.int 0)]) rfl (Nat.le_of_ble_eq_true rfl) rfl ?_
        refine ev_lload dX4_chance_160 (pc' := 162) rfl rfl ?_
        refine ev_iload dX4_chance_162 (pc' := 164) rfl rfl ?_
        refine ev_if_eq dX4_chance_164 (pc' := 167) rfl (t := 171) rfl (fun _ => ?_) (fun q => absurd (by decide) q)
        refine ev_iload dX4_chance_171 (pc' := 173) rfl rfl ?_
        refine ev_iconst dX4_chance_173 (pc' := 174) (v := 1) rfl (by decide) ?_
        refine ev_isub dX4_chance_174 (pc' := 175) rfl ?_
        refine ev_i2l dX4_chance_175 (pc' := 176) rfl ?_
        refine ev_lmul dX4_chance_176 (pc' := 177) rfl ?_
        refine ev_topl (fun v57 e_v57 => ?_)
        replace h := nm_at e_v57 h
        refine ev_lstore dX4_chance_177 (pc' := 179) (ls' := [some (.ref 35), some (.int a41), some (.int a42), some (.int a43), some (.int a44), some (.int a45), some (.long a46), none, some (.long a47), none, some (.int a48), some (.long v57), none, some (.int w50), some (.int 0)]) rfl (Nat.le_of_ble_eq_true rfl) rfl ?_
        refine ev_aload_n dX4_chance_179 (pc' := 180) rfl rfl ?_
        refine ev_aload_n dX4_chance_180 (pc' := 181) rfl rfl ?_
        refine ev_getR (y := 37) dX4_chance_181 (pc' := 184) rfl fq_4_13 kn_35 rfl ?_
        refine ev_iload dX4_chance_184 (pc' := 186) rfl rfl ?_
        obtain ⟨m58, x_m58, h⟩ := ob_of h
        refine ev_invV dX4_chance_186 (pc' := 189) rfl sq_4_70 mt_X4_yearBy rfl (arecv_ob (x := 35) rfl rfl (by decide) kn_35) ⟨_, rfl, Nat.le_of_ble_eq_true rfl, Nat.le_of_ble_eq_true rfl, rfl, rfl⟩ ?_
        refine X4_yearBy_ca kn_37 rfl x_m58 ?_
        refine ev_r0 ?_
        obtain ⟨v59, e_v59⟩ : ∃ y : Int32, y = (w50 + 1) := ⟨_, rfl⟩
        replace h := nm_at e_v59 h
        refine ev_iinc dX4_chance_189 (pc' := 192) (v := v59) (ls' := [some (.ref 35), some (.int a41), some (.int a42), some (.int a43), some (.int a44), some (.int a45), some (.long a46), none, some (.long a47), none, some (.int a48), some (.long v57), none, some (.int v59), some (.int 0)]) rfl rfl (by rw [e_v59]; rfl) (Nat.le_of_ble_eq_true rfl) rfl ?_
        refine ev_goto dX4_chance_192 (t := 136) rfl ?_
        exact ev_sub (lsub_c (lsub_c (lsub_c (lsub_c (lsub_c (lsub_c (lsub_c (lsub_c (lsub_c (lsub_c (lsub_c (lsub_c (lsub_c (lsub_c (lsub_n lsub_nil))))))))))))))) (ih v57 v59 m58 h)
      · replace h := it_t c53 h
        refine ev_iconst dX4_chance_153 (pc' := 154) (v := 1) rfl (by decide) ?_
        refine ev_goto dX4_chance_154 (t := 158) rfl ?_
        refine ev_istore dX4_chance_158 (pc' := 160) (ls' := [some (.ref 35), some (.int a41), some (.int a42), some (.int a43), some (.int a44), some (.int a45), some (.long a46), none, some (.long a47), none, some (.int a48), some (.long w49), none, some (.int w50), some (.int 1)]) rfl (Nat.le_of_ble_eq_true rfl) rfl ?_
        refine ev_lload dX4_chance_160 (pc' := 162) rfl rfl ?_
        refine ev_iload dX4_chance_162 (pc' := 164) rfl rfl ?_
        refine ev_if_eq dX4_chance_164 (pc' := 167) rfl (t := 171) rfl (fun q => absurd q (by decide)) (fun _ => ?_)
        refine ev_lconst dX4_chance_167 (pc' := 168) (v := 1) rfl (by decide) ?_
        refine ev_goto dX4_chance_168 (t := 176) rfl ?_
        refine ev_lmul dX4_chance_176 (pc' := 177) rfl ?_
        refine ev_topl (fun v54 e_v54 => ?_)
        replace h := nm_at e_v54 h
        refine ev_lstore dX4_chance_177 (pc' := 179) (ls' := [some (.ref 35), some (.int a41), some (.int a42), some (.int a43), some (.int a44), some (.int a45), some (.long a46), none, some (.long a47), none, some (.int a48), some (.long v54), none, some (.int w50), some (.int 1)]) rfl (Nat.le_of_ble_eq_true rfl) rfl ?_
        refine ev_aload_n dX4_chance_179 (pc' := 180) rfl rfl ?_
        refine ev_aload_n dX4_chance_180 (pc' := 181) rfl rfl ?_
        refine ev_getR (y := 37) dX4_chance_181 (pc' := 184) rfl fq_4_13 kn_35 rfl ?_
        refine ev_iload dX4_chance_184 (pc' := 186) rfl rfl ?_
        obtain ⟨m55, x_m55, h⟩ := ob_of h
        refine ev_invV dX4_chance_186 (pc' := 189) rfl sq_4_70 mt_X4_yearBy rfl (arecv_ob (x := 35) rfl rfl (by decide) kn_35) ⟨_, rfl, Nat.le_of_ble_eq_true rfl, Nat.le_of_ble_eq_true rfl, rfl, rfl⟩ ?_
        refine X4_yearBy_ca kn_37 rfl x_m55 ?_
        refine ev_r0 ?_
        obtain ⟨v56, e_v56⟩ : ∃ y : Int32, y = (w50 + 1) := ⟨_, rfl⟩
        replace h := nm_at e_v56 h
        refine ev_iinc dX4_chance_189 (pc' := 192) (v := v56) (ls' := [some (.ref 35), some (.int a41), some (.int a42), some (.int a43), some (.int a44), some (.int a45), some (.long a46), none, some (.long a47), none, some (.int a48), some (.long v54), none, some (.int v56), some (.int 1)]) rfl rfl (by rw [e_v56]; rfl) (Nat.le_of_ble_eq_true rfl) rfl ?_
        refine ev_goto dX4_chance_192 (t := 136) rfl ?_
        exact ev_sub (lsub_c (lsub_c (lsub_c (lsub_c (lsub_c (lsub_c (lsub_c (lsub_c (lsub_c (lsub_c (lsub_c (lsub_c (lsub_c (lsub_c (lsub_n lsub_nil))))))))))))))) (ih v54 v56 m55 h)
set_option maxRecDepth 100000 in
set_option maxHeartbeats 8000000 in
theorem X4_chance_L111_ev {S : Sc} {d : Nat}  {a30 : Int32} {a31 : Int32} {a32 : Int32} {a33 : Int32} {a34 : Int32} {a35 : Int64} {k : Int64 → Int32 → Mm → Option (Int64 × Mm)} {rr : Int64} {mr : Mm} {Q : Po}  (q : Q (some (.long rr)) mr) (hk : ∀ (w36 : Int64) (w37 : Int32) (m38 : Mm), k w36 w37 m38 = some (rr, mr) → Ev S (d + 3) 4 cX4_chance (some .long) 226 [some (.ref 35), some (.int a30), some (.int a31), some (.int a32), some (.int a33), some (.int a34), some (.long w36), none, some (.long a35), none, some (.int w37), none, none, none, none] [] m38 Q) : ∀ (n : Nat) (w36 : Int64) (w37 : Int32) (m38 : Mm), X4_chance_L111 a30 a31 a32 a33 a34 a35 k n w36 w37 m38 = some (rr, mr) → Ev S (d + 3) 4 cX4_chance (some .long) 111 [some (.ref 35), some (.int a30), some (.int a31), some (.int a32), some (.int a33), some (.int a34), some (.long w36), none, some (.long a35), none, some (.int w37), none, none, none, none] [] m38 Q := by
  intro n
  induction n with
  | zero => intro w36 w37 m38 h; cases h
  | succ n ih =>
    intro w36 w37 m38 h
    unfold X4_chance_L111 at h
    refine ev_iload dX4_chance_111 (pc' := 113) rfl rfl ?_
    refine ev_iconst dX4_chance_113 (pc' := 114) (v := 1) rfl (by decide) ?_
    refine ev_iload_n dX4_chance_114 (pc' := 115) rfl rfl ?_
    refine ev_ishl dX4_chance_115 (pc' := 116) rfl ?_
    refine ev_icmp_ge dX4_chance_116 (pc' := 119) rfl (t := 226) rfl (fun c39 => ?_) (fun c39 => ?_)
    · replace h := it_t c39 h
      exact ev_sub (lsub_c (lsub_c (lsub_c (lsub_c (lsub_c (lsub_c (lsub_c (lsub_c (lsub_c (lsub_c (lsub_c (lsub_c (lsub_c (lsub_c (lsub_c lsub_nil))))))))))))))) (hk w36 w37 m38 h)
    · replace h := it_f c39 h
      refine ev_aload_n dX4_chance_119 (pc' := 120) rfl rfl ?_
      refine ev_getR (y := 36) dX4_chance_120 (pc' := 123) rfl fq_4_9 kn_35 rfl ?_
      refine ev_aload_n dX4_chance_123 (pc' := 124) rfl rfl ?_
      refine ev_getR (y := 37) dX4_chance_124 (pc' := 127) rfl fq_4_13 kn_35 rfl ?_
      obtain ⟨m40, x_m40, h⟩ := ob_of h
      refine ev_invS dX4_chance_127 (pc' := 130) rfl sq_4_78 mt_X4_lays rfl ⟨_, rfl, Nat.le_of_ble_eq_true rfl, Nat.le_of_ble_eq_true rfl, rfl, rfl⟩ ?_
      refine X4_lays_ca kn_36 rfl kn_37 rfl x_m40 ?_
      refine ev_r0 ?_
      refine ev_lconst dX4_chance_130 (pc' := 131) (v := 1) rfl (by decide) ?_
      refine ev_lstore dX4_chance_131 (pc' := 133) (ls' := [some (.ref 35), some (.int a30), some (.int a31), some (.int a32), some (.int a33), some (.int a34), some (.long w36), none, some (.long a35), none, some (.int w37), some (.long 1), none, none, none]) rfl (Nat.le_of_ble_eq_true rfl) rfl ?_
      refine ev_iconst dX4_chance_133 (pc' := 134) (v := 0) rfl (by decide) ?_
      refine ev_istore dX4_chance_134 (pc' := 136) (ls' := [some (.ref 35), some (.int a30), some (.int a31), some (.int a32), some (.int a33), some (.int a34), some (.long w36), none, some (.long a35), none, some (.int w37), some (.long 1), none, some (.int 0), none]) rfl (Nat.le_of_ble_eq_true rfl) rfl ?_
      refine ev_sub (lsub_c (lsub_c (lsub_c (lsub_c (lsub_c (lsub_c (lsub_c (lsub_c (lsub_c (lsub_c (lsub_c (lsub_c (lsub_c (lsub_c (lsub_c lsub_nil))))))))))))))) (X4_chance_L136_ev  (k := fun v60 v61 m62 => gd (vin (X4_at a30 2) 47) (if (m62 37 ((X4_at a30 2)).toNatClampNeg) < a31 then (nm (w36 + 0) (fun v65 => nm (w37 + 1) (fun v66 => X4_chance_L111 a30 a31 a32 a33 a34 a35 k n v65 v66 m62))) else (nm (w36 + v60) (fun v67 => nm (w37 + 1) (fun v68 => X4_chance_L111 a30 a31 a32 a33 a34 a35 k n v67 v68 m62))))) q (fun v60 v61 m62 h => ?_) LF 1 0 m40 h)
      refine ev_lload dX4_chance_195 (pc' := 197) rfl rfl ?_
      refine ev_aload_n dX4_chance_197 (pc' := 198) rfl rfl ?_
      refine ev_getR (y := 37) dX4_chance_198 (pc' := 201) rfl fq_4_13 kn_35 rfl ?_
      refine ev_iload_n dX4_chance_201 (pc' := 202) rfl rfl ?_
      refine ev_iconst dX4_chance_202 (pc' := 203) (v := 2) rfl (by decide) ?_
      refine ev_invS dX4_chance_203 (pc' := 206) rfl sq_4_44 mt_X4_at rfl ⟨_, rfl, Nat.le_of_ble_eq_true rfl, Nat.le_of_ble_eq_true rfl, rfl, rfl⟩ ?_
      refine X4_at_ca  rfl ?_
      refine ev_r1 ?_
      obtain ⟨g63, h⟩ := gd_of h
      refine ev_ialdK (k0 := ((X4_at a30 2)).toNatClampNeg) dX4_chance_206 (pc' := 207) rfl kn_37 g63 rfl ?_
      refine ev_iload_n dX4_chance_207 (pc' := 208) rfl rfl ?_
      refine ev_icmp_lt dX4_chance_208 (pc' := 211) rfl (t := 216) rfl (fun c64 => ?_) (fun c64 => ?_)
      · replace h := it_t c64 h
        refine ev_lconst dX4_chance_216 (pc' := 217) (v := 0) rfl (by decide) ?_
        refine ev_ladd dX4_chance_217 (pc' := 218) rfl ?_
        refine ev_topl (fun v65 e_v65 => ?_)
        replace h := nm_at e_v65 h
        refine ev_lstore dX4_chance_218 (pc' := 220) (ls' := [some (.ref 35), some (.int a30), some (.int a31), some (.int a32), some (.int a33), some (.int a34), some (.long v65), none, some (.long a35), none, some (.int w37), some (.long v60), none, some (.int v61), none]) rfl (Nat.le_of_ble_eq_true rfl) rfl ?_
        obtain ⟨v66, e_v66⟩ : ∃ y : Int32, y = (w37 + 1) := ⟨_, rfl⟩
        replace h := nm_at e_v66 h
        refine ev_iinc dX4_chance_220 (pc' := 223) (v := v66) (ls' := [some (.ref 35), some (.int a30), some (.int a31), some (.int a32), some (.int a33), some (.int a34), some (.long v65), none, some (.long a35), none, some (.int v66), some (.long v60), none, some (.int v61), none]) rfl rfl (by rw [e_v66]; rfl) (Nat.le_of_ble_eq_true rfl) rfl ?_
        refine ev_goto dX4_chance_223 (t := 111) rfl ?_
        exact ev_sub (lsub_c (lsub_c (lsub_c (lsub_c (lsub_c (lsub_c (lsub_c (lsub_c (lsub_c (lsub_c (lsub_c (lsub_n (lsub_c (lsub_n (lsub_c lsub_nil))))))))))))))) (ih v65 v66 m62 h)
      · replace h := it_f c64 h
        refine ev_lload dX4_chance_211 (pc' := 213) rfl rfl ?_
        refine ev_goto dX4_chance_213 (t := 217) rfl ?_
        refine ev_ladd dX4_chance_217 (pc' := 218) rfl ?_
        refine ev_topl (fun v67 e_v67 => ?_)
        replace h := nm_at e_v67 h
        refine ev_lstore dX4_chance_218 (pc' := 220) (ls' := [some (.ref 35), some (.int a30), some (.int a31), some (.int a32), some (.int a33), some (.int a34), some (.long v67), none, some (.long a35), none, some (.int w37), some (.long v60), none, some (.int v61), none]) rfl (Nat.le_of_ble_eq_true rfl) rfl ?_
        obtain ⟨v68, e_v68⟩ : ∃ y : Int32, y = (w37 + 1) := ⟨_, rfl⟩
        replace h := nm_at e_v68 h
        refine ev_iinc dX4_chance_220 (pc' := 223) (v := v68) (ls' := [some (.ref 35), some (.int a30), some (.int a31), some (.int a32), some (.int a33), some (.int a34), some (.long v67), none, some (.long a35), none, some (.int v68), some (.long v60), none, some (.int v61), none]) rfl rfl (by rw [e_v68]; rfl) (Nat.le_of_ble_eq_true rfl) rfl ?_
        refine ev_goto dX4_chance_223 (t := 111) rfl ?_
        exact ev_sub (lsub_c (lsub_c (lsub_c (lsub_c (lsub_c (lsub_c (lsub_c (lsub_c (lsub_c (lsub_c (lsub_c (lsub_n (lsub_c (lsub_n (lsub_c lsub_nil))))))))))))))) (ih v67 v68 m62 h)
set_option maxRecDepth 100000 in
set_option maxHeartbeats 8000000 in
theorem X4_chance_L88_ev {S : Sc} {d : Nat}  {a21 : Int32} {a22 : Int32} {a23 : Int32} {a24 : Int32} {a25 : Int32} {m28 : Mm} {rr : Int64} {mr : Mm} {Q : Po}  (q : Q (some (.long rr)) mr) : ∀ (n : Nat) (w26 : Int64) (w27 : Int32), X4_chance_L88 a21 a22 a23 a24 a25 m28 n w26 w27 = some (rr, mr) → Ev S (d + 3) 4 cX4_chance (some .long) 88 [some (.ref 35), some (.int a21), some (.int a22), some (.int a23), some (.int a24), some (.int a25), some (.long 0), none, some (.long w26), none, some (.int w27), none, none, none, none] [] m28 Q := by
  intro n
  induction n with
  | zero => intro w26 w27 h; cases h
  | succ n ih =>
    intro w26 w27 h
    unfold X4_chance_L88 at h
    refine ev_iload dX4_chance_88 (pc' := 90) rfl rfl ?_
    refine ev_iload_n dX4_chance_90 (pc' := 91) rfl rfl ?_
    refine ev_icmp_ge dX4_chance_91 (pc' := 94) rfl (t := 108) rfl (fun c29 => ?_) (fun c29 => ?_)
    · replace h := it_t c29 h
      refine ev_iconst dX4_chance_108 (pc' := 109) (v := 0) rfl (by decide) ?_
      refine ev_istore dX4_chance_109 (pc' := 111) (ls' := [some (.ref 35), some (.int a21), some (.int a22), some (.int a23), some (.int a24), some (.int a25), some (.long 0), none, some (.long w26), none, some (.int 0), none, none, none, none]) rfl (Nat.le_of_ble_eq_true rfl) rfl ?_
      refine ev_sub (lsub_c (lsub_c (lsub_c (lsub_c (lsub_c (lsub_c (lsub_c (lsub_c (lsub_c (lsub_c (lsub_c (lsub_c (lsub_c (lsub_c (lsub_c lsub_nil))))))))))))))) (X4_chance_L111_ev  (k := fun v69 v70 m71 => ob (X4_partOf v69 w26 a25) (fun y72 => some (y72, m71))) q (fun v69 v70 m71 h => ?_) LF 0 0 m28 h)
      refine ev_lload dX4_chance_226 (pc' := 228) rfl rfl ?_
      refine ev_lload dX4_chance_228 (pc' := 230) rfl rfl ?_
      refine ev_iload dX4_chance_230 (pc' := 232) rfl rfl ?_
      obtain ⟨y72, x_y72, h⟩ := ob_of h
      refine ev_invS dX4_chance_232 (pc' := 235) rfl sq_4_146 mt_X4_partOf rfl ⟨_, rfl, Nat.le_of_ble_eq_true rfl, Nat.le_of_ble_eq_true rfl, rfl, rfl⟩ ?_
      refine X4_partOf_ca  x_y72 ?_
      refine ev_r1 ?_
      obtain ⟨rfl, rfl⟩ := rt2 h
      exact ev_lreturn dX4_chance_235 rfl q
    · replace h := it_f c29 h
      refine ev_lload dX4_chance_94 (pc' := 96) rfl rfl ?_
      refine ev_iload dX4_chance_96 (pc' := 98) rfl rfl ?_
      refine ev_i2l dX4_chance_98 (pc' := 99) rfl ?_
      refine ev_lmul dX4_chance_99 (pc' := 100) rfl ?_
      refine ev_topl (fun v73 e_v73 => ?_)
      replace h := nm_at e_v73 h
      refine ev_lstore dX4_chance_100 (pc' := 102) (ls' := [some (.ref 35), some (.int a21), some (.int a22), some (.int a23), some (.int a24), some (.int a25), some (.long 0), none, some (.long v73), none, some (.int w27), none, none, none, none]) rfl (Nat.le_of_ble_eq_true rfl) rfl ?_
      obtain ⟨v74, e_v74⟩ : ∃ y : Int32, y = (w27 + 1) := ⟨_, rfl⟩
      replace h := nm_at e_v74 h
      refine ev_iinc dX4_chance_102 (pc' := 105) (v := v74) (ls' := [some (.ref 35), some (.int a21), some (.int a22), some (.int a23), some (.int a24), some (.int a25), some (.long 0), none, some (.long v73), none, some (.int v74), none, none, none, none]) rfl rfl (by rw [e_v74]; rfl) (Nat.le_of_ble_eq_true rfl) rfl ?_
      refine ev_goto dX4_chance_105 (t := 88) rfl ?_
      exact ev_sub (lsub_c (lsub_c (lsub_c (lsub_c (lsub_c (lsub_c (lsub_c (lsub_c (lsub_c (lsub_c (lsub_c (lsub_c (lsub_c (lsub_c (lsub_c lsub_nil))))))))))))))) (ih v73 v74 h)
set_option maxRecDepth 100000 in
set_option maxHeartbeats 8000000 in
theorem X4_chance_ca {S : Sc} {d : Nat} {a1 : Int32} {a2 : Int32} {a3 : Int32} {a4 : Int32} {a5 : Int32} {mem : Mm} {rr : Int64} {mr : Mm} {Q : Po}  (h : X4_chance 35 a1 a2 a3 a4 a5 mem = some (rr, mr)) (q : Q (some (.long rr)) mr) : Ca S (d + 4) 170 [.ref 35, .int a1, .int a2, .int a3, .int a4, .int a5] mem Q := by
  unfold X4_chance at h
  refine ca_in (by decide) mt_X4_chance (Nat.le_of_ble_eq_true rfl) ?_
  show Ev S (d + 3) 4 cX4_chance (some .long) 0 [some (.ref 35), some (.int a1), some (.int a2), some (.int a3), some (.int a4), some (.int a5), none, none, none, none, none, none, none, none, none] [] mem Q
  refine ev_aload_n dX4_chance_0 (pc' := 1) rfl rfl ?_
  refine ev_iload_n dX4_chance_1 (pc' := 2) rfl rfl ?_
  refine ev_invV dX4_chance_2 (pc' := 5) rfl sq_4_111 mt_X4_isCask rfl (arecv_ob (x := 35) rfl rfl (by decide) kn_35) ⟨_, rfl, Nat.le_of_ble_eq_true rfl, Nat.le_of_ble_eq_true rfl, rfl, rfl⟩ ?_
  refine X4_isCask_ca  rfl ?_
  refine ev_r1 ?_
  refine ev_if_ne dX4_chance_5 (pc' := 8) rfl (t := 14) rfl (fun c1 => ?_) (fun c1 => ?_)
  · replace h := it_f c1 h
    refine ev_iload_n dX4_chance_14 (pc' := 15) rfl rfl ?_
    refine ev_if_lt dX4_chance_15 (pc' := 18) rfl (t := 28) rfl (fun c4 => ?_) (fun c4 => ?_)
    · replace h := it_t c4 h
      refine ev_aload_n dX4_chance_28 (pc' := 29) rfl rfl ?_
      refine ev_bipush dX4_chance_29 (pc' := 31) (v := (-4)) rfl (by decide) ?_
      obtain ⟨y5, m6, x_y5, h⟩ := ob2_of h
      refine ev_invV dX4_chance_31 (pc' := 34) rfl sq_4_142 mt_X4_noWide rfl (arecv_ob (x := 35) rfl rfl (by decide) kn_35) ⟨_, rfl, Nat.le_of_ble_eq_true rfl, Nat.le_of_ble_eq_true rfl, rfl, rfl⟩ ?_
      refine X4_noWide_ca  x_y5 ?_
      refine ev_r1 ?_
      obtain ⟨rfl, rfl⟩ := rt2 h
      exact ev_lreturn dX4_chance_34 rfl q
    · replace h := it_f c4 h
      refine ev_iload_n dX4_chance_18 (pc' := 19) rfl rfl ?_
      refine ev_if_lt dX4_chance_19 (pc' := 22) rfl (t := 28) rfl (fun c7 => ?_) (fun c7 => ?_)
      · replace h := it_t c7 h
        refine ev_aload_n dX4_chance_28 (pc' := 29) rfl rfl ?_
        refine ev_bipush dX4_chance_29 (pc' := 31) (v := (-4)) rfl (by decide) ?_
        obtain ⟨y8, m9, x_y8, h⟩ := ob2_of h
        refine ev_invV dX4_chance_31 (pc' := 34) rfl sq_4_142 mt_X4_noWide rfl (arecv_ob (x := 35) rfl rfl (by decide) kn_35) ⟨_, rfl, Nat.le_of_ble_eq_true rfl, Nat.le_of_ble_eq_true rfl, rfl, rfl⟩ ?_
        refine X4_noWide_ca  x_y8 ?_
        refine ev_r1 ?_
        obtain ⟨rfl, rfl⟩ := rt2 h
        exact ev_lreturn dX4_chance_34 rfl q
      · replace h := it_f c7 h
        refine ev_iload dX4_chance_22 (pc' := 24) rfl rfl ?_
        refine ev_iconst dX4_chance_24 (pc' := 25) (v := 2) rfl (by decide) ?_
        refine ev_icmp_ge dX4_chance_25 (pc' := 28) rfl (t := 35) rfl (fun c10 => ?_) (fun c10 => ?_)
        · replace h := it_t c10 h
          refine ev_iload_n dX4_chance_35 (pc' := 36) rfl rfl ?_
          refine ev_sipush dX4_chance_36 (pc' := 39) (v := 400) rfl (by decide) ?_
          refine ev_icmp_gt dX4_chance_39 (pc' := 42) rfl (t := 55) rfl (fun c11 => ?_) (fun c11 => ?_)
          · replace h := it_t c11 h
            refine ev_aload_n dX4_chance_55 (pc' := 56) rfl rfl ?_
            refine ev_bipush dX4_chance_56 (pc' := 58) (v := (-6)) rfl (by decide) ?_
            obtain ⟨y12, m13, x_y12, h⟩ := ob2_of h
            refine ev_invV dX4_chance_58 (pc' := 61) rfl sq_4_142 mt_X4_noWide rfl (arecv_ob (x := 35) rfl rfl (by decide) kn_35) ⟨_, rfl, Nat.le_of_ble_eq_true rfl, Nat.le_of_ble_eq_true rfl, rfl, rfl⟩ ?_
            refine X4_noWide_ca  x_y12 ?_
            refine ev_r1 ?_
            obtain ⟨rfl, rfl⟩ := rt2 h
            exact ev_lreturn dX4_chance_61 rfl q
          · replace h := it_f c11 h
            refine ev_iload_n dX4_chance_42 (pc' := 43) rfl rfl ?_
            refine ev_bipush dX4_chance_43 (pc' := 45) (v := 8) rfl (by decide) ?_
            refine ev_icmp_gt dX4_chance_45 (pc' := 48) rfl (t := 55) rfl (fun c14 => ?_) (fun c14 => ?_)
            · replace h := it_t c14 h
              refine ev_aload_n dX4_chance_55 (pc' := 56) rfl rfl ?_
              refine ev_bipush dX4_chance_56 (pc' := 58) (v := (-6)) rfl (by decide) ?_
              obtain ⟨y15, m16, x_y15, h⟩ := ob2_of h
              refine ev_invV dX4_chance_58 (pc' := 61) rfl sq_4_142 mt_X4_noWide rfl (arecv_ob (x := 35) rfl rfl (by decide) kn_35) ⟨_, rfl, Nat.le_of_ble_eq_true rfl, Nat.le_of_ble_eq_true rfl, rfl, rfl⟩ ?_
              refine X4_noWide_ca  x_y15 ?_
              refine ev_r1 ?_
              obtain ⟨rfl, rfl⟩ := rt2 h
              exact ev_lreturn dX4_chance_61 rfl q
            · replace h := it_f c14 h
              refine ev_iload dX4_chance_48 (pc' := 50) rfl rfl ?_
              refine ev_bipush dX4_chance_50 (pc' := 52) (v := 20) rfl (by decide) ?_
              refine ev_icmp_le dX4_chance_52 (pc' := 55) rfl (t := 62) rfl (fun c17 => ?_) (fun c17 => ?_)
              · replace h := it_t c17 h
                refine ev_iload dX4_chance_62 (pc' := 64) rfl rfl ?_
                refine ev_iconst dX4_chance_64 (pc' := 65) (v := 0) rfl (by decide) ?_
                refine ev_iconst dX4_chance_65 (pc' := 66) (v := 1) rfl (by decide) ?_
                refine ev_invS dX4_chance_66 (pc' := 69) rfl sq_4_40 mt_X4_isIn rfl ⟨_, rfl, Nat.le_of_ble_eq_true rfl, Nat.le_of_ble_eq_true rfl, rfl, rfl⟩ ?_
                refine X4_isIn_ca  rfl ?_
                refine ev_r1 ?_
                refine ev_if_ne dX4_chance_69 (pc' := 72) rfl (t := 79) rfl (fun c18 => ?_) (fun c18 => ?_)
                · replace h := it_f c18 h
                  refine ev_lconst dX4_chance_79 (pc' := 80) (v := 0) rfl (by decide) ?_
                  refine ev_lstore dX4_chance_80 (pc' := 82) (ls' := [some (.ref 35), some (.int a1), some (.int a2), some (.int a3), some (.int a4), some (.int a5), some (.long 0), none, none, none, none, none, none, none, none]) rfl (Nat.le_of_ble_eq_true rfl) rfl ?_
                  refine ev_lconst dX4_chance_82 (pc' := 83) (v := 1) rfl (by decide) ?_
                  refine ev_lstore dX4_chance_83 (pc' := 85) (ls' := [some (.ref 35), some (.int a1), some (.int a2), some (.int a3), some (.int a4), some (.int a5), some (.long 0), none, some (.long 1), none, none, none, none, none, none]) rfl (Nat.le_of_ble_eq_true rfl) rfl ?_
                  refine ev_iconst dX4_chance_85 (pc' := 86) (v := 0) rfl (by decide) ?_
                  refine ev_istore dX4_chance_86 (pc' := 88) (ls' := [some (.ref 35), some (.int a1), some (.int a2), some (.int a3), some (.int a4), some (.int a5), some (.long 0), none, some (.long 1), none, some (.int 0), none, none, none, none]) rfl (Nat.le_of_ble_eq_true rfl) rfl ?_
                  exact ev_sub (lsub_c (lsub_c (lsub_c (lsub_c (lsub_c (lsub_c (lsub_c (lsub_c (lsub_c (lsub_c (lsub_c (lsub_c (lsub_c (lsub_c (lsub_c lsub_nil))))))))))))))) (X4_chance_L88_ev  q LF 1 0 h)
                · replace h := it_t c18 h
                  refine ev_aload_n dX4_chance_72 (pc' := 73) rfl rfl ?_
                  refine ev_bipush dX4_chance_73 (pc' := 75) (v := (-2)) rfl (by decide) ?_
                  obtain ⟨y19, m20, x_y19, h⟩ := ob2_of h
                  refine ev_invV dX4_chance_75 (pc' := 78) rfl sq_4_142 mt_X4_noWide rfl (arecv_ob (x := 35) rfl rfl (by decide) kn_35) ⟨_, rfl, Nat.le_of_ble_eq_true rfl, Nat.le_of_ble_eq_true rfl, rfl, rfl⟩ ?_
                  refine X4_noWide_ca  x_y19 ?_
                  refine ev_r1 ?_
                  obtain ⟨rfl, rfl⟩ := rt2 h
                  exact ev_lreturn dX4_chance_78 rfl q
              · replace h := it_f c17 h
                refine ev_aload_n dX4_chance_55 (pc' := 56) rfl rfl ?_
                refine ev_bipush dX4_chance_56 (pc' := 58) (v := (-6)) rfl (by decide) ?_
                obtain ⟨y75, m76, x_y75, h⟩ := ob2_of h
                refine ev_invV dX4_chance_58 (pc' := 61) rfl sq_4_142 mt_X4_noWide rfl (arecv_ob (x := 35) rfl rfl (by decide) kn_35) ⟨_, rfl, Nat.le_of_ble_eq_true rfl, Nat.le_of_ble_eq_true rfl, rfl, rfl⟩ ?_
                refine X4_noWide_ca  x_y75 ?_
                refine ev_r1 ?_
                obtain ⟨rfl, rfl⟩ := rt2 h
                exact ev_lreturn dX4_chance_61 rfl q
        · replace h := it_f c10 h
          refine ev_aload_n dX4_chance_28 (pc' := 29) rfl rfl ?_
          refine ev_bipush dX4_chance_29 (pc' := 31) (v := (-4)) rfl (by decide) ?_
          obtain ⟨y77, m78, x_y77, h⟩ := ob2_of h
          refine ev_invV dX4_chance_31 (pc' := 34) rfl sq_4_142 mt_X4_noWide rfl (arecv_ob (x := 35) rfl rfl (by decide) kn_35) ⟨_, rfl, Nat.le_of_ble_eq_true rfl, Nat.le_of_ble_eq_true rfl, rfl, rfl⟩ ?_
          refine X4_noWide_ca  x_y77 ?_
          refine ev_r1 ?_
          obtain ⟨rfl, rfl⟩ := rt2 h
          exact ev_lreturn dX4_chance_34 rfl q
  · replace h := it_t c1 h
    refine ev_aload_n dX4_chance_8 (pc' := 9) rfl rfl ?_
    refine ev_iconst dX4_chance_9 (pc' := 10) (v := (-1)) rfl (by decide) ?_
    obtain ⟨y2, m3, x_y2, h⟩ := ob2_of h
    refine ev_invV dX4_chance_10 (pc' := 13) rfl sq_4_142 mt_X4_noWide rfl (arecv_ob (x := 35) rfl rfl (by decide) kn_35) ⟨_, rfl, Nat.le_of_ble_eq_true rfl, Nat.le_of_ble_eq_true rfl, rfl, rfl⟩ ?_
    refine X4_noWide_ca  x_y2 ?_
    refine ev_r1 ?_
    obtain ⟨rfl, rfl⟩ := rt2 h
    exact ev_lreturn dX4_chance_13 rfl q
def X4_drawn (_o : Nat) (a1 : Int32) (mem : Mm) : Option (Int32 × Mm) := nm (mset mem 35 14 (((mem 35 14) * 1664525) + 1013904223)) (fun m1 => gd (¬ a1 = 0) (some ((airem (((m1 35 14) &&& 2147483647) / 256) a1), m1)))
set_option maxRecDepth 100000 in
set_option maxHeartbeats 8000000 in
theorem X4_drawn_ca {S : Sc} {d : Nat} {a1 : Int32} {mem : Mm} {rr : Int32} {mr : Mm} {Q : Po}  (h : X4_drawn 35 a1 mem = some (rr, mr)) (q : Q (some (.int rr)) mr) : Ca S (d + 1) 171 [.ref 35, .int a1] mem Q := by
  unfold X4_drawn at h
  refine ca_in (by decide) mt_X4_drawn (Nat.le_of_ble_eq_true rfl) ?_
  show Ev S (d + 0) 4 cX4_drawn (some .int) 0 [some (.ref 35), some (.int a1)] [] mem Q
  refine ev_aload_n dX4_drawn_0 (pc' := 1) rfl rfl ?_
  refine ev_aload_n dX4_drawn_1 (pc' := 2) rfl rfl ?_
  refine ev_get dX4_drawn_2 (pc' := 5) rfl fq_4_176 kn_35 rfl ?_
  refine ev_ldc dX4_drawn_5 (pc' := 7) rfl iq_4_179 ?_
  refine ev_imul dX4_drawn_7 (pc' := 8) rfl ?_
  refine ev_ldc dX4_drawn_8 (pc' := 10) rfl iq_4_180 ?_
  refine ev_iadd dX4_drawn_10 (pc' := 11) rfl ?_
  refine ev_put dX4_drawn_11 (pc' := 14) rfl fq_4_176 kn_35 rfl (Or.inl (by decide)) ?_
  refine ev_topm (fun m1 e_m1 => ?_)
  replace h := nm_at e_m1 h
  refine ev_aload_n dX4_drawn_14 (pc' := 15) rfl rfl ?_
  refine ev_get dX4_drawn_15 (pc' := 18) rfl fq_4_176 kn_35 rfl ?_
  refine ev_ldc dX4_drawn_18 (pc' := 20) rfl iq_4_181 ?_
  refine ev_iand dX4_drawn_20 (pc' := 21) rfl ?_
  refine ev_sipush dX4_drawn_21 (pc' := 24) (v := 256) rfl (by decide) ?_
  refine ev_idiv dX4_drawn_24 (pc' := 25) rfl (by decide) ?_
  refine ev_iload_n dX4_drawn_25 (pc' := 26) rfl rfl ?_
  obtain ⟨g2, h⟩ := gd_of h
  refine ev_irem dX4_drawn_26 (pc' := 27) rfl g2 ?_
  obtain ⟨rfl, rfl⟩ := rt2 h
  exact ev_ireturn dX4_drawn_27 rfl q
def X4_lots_L52  (a7 : Int32) (a8 : Int32) : Nat → Int32 → Int32 → Mm → Option (Int32 × Mm)
  | 0, _, _, _ => none
  | n + 1, w9, w10, m11 => if a7 ≤ w10 then (some (w9, m11)) else (ob (X4_lays 36 37 m11) (fun m13 => ob2 (X4_drawn 35 9 m13) (fun y14 m15 => nm (mset m15 37 3 (y14 + 1)) (fun m16 => ob (X4_yearsOn 35 37 20 m16) (fun m17 => if a8 = 0 then (ob (X4_sumOf 37 2 m17) (fun y19 => nm (w9 + y19) (fun v20 => nm (w10 + 1) (fun v21 => X4_lots_L52 a7 a8 n v20 v21 m17)))) else (ob (X4_sumOf 37 5 m17) (fun y22 => nm (w9 + y22) (fun v23 => nm (w10 + 1) (fun v24 => X4_lots_L52 a7 a8 n v23 v24 m17)))))))))
def X4_lots (_o : Nat) (a1 : Int32) (a2 : Int32) (a3 : Int32) (mem : Mm) : Option (Int32 × Mm) := if 1 ≤ a1 then (if a1 ≤ 20 then (if (X4_isIn a3 0 1) = 0 then (ob2 (X4_no 35 (-2) mem) (fun y4 m5 => some (y4, m5))) else (nm (mset mem 35 14 a2) (fun m6 => X4_lots_L52 a1 a3 LF 0 0 m6))) else (ob2 (X4_no 35 (-6) mem) (fun y25 m26 => some (y25, m26)))) else (ob2 (X4_no 35 (-4) mem) (fun y27 m28 => some (y27, m28)))
set_option maxRecDepth 100000 in
set_option maxHeartbeats 8000000 in
theorem X4_lots_L52_ev {S : Sc} {d : Nat}  {a7 : Int32} {a8 : Int32} {rr : Int32} {mr : Mm} {Q : Po}  (q : Q (some (.int rr)) mr) : ∀ (n : Nat) (w9 : Int32) (w10 : Int32) (m11 : Mm), X4_lots_L52 a7 a8 n w9 w10 m11 = some (rr, mr) → Ev S (d + 5) 4 cX4_lots (some .int) 52 [some (.ref 35), some (.int a7), none, some (.int a8), some (.int w9), some (.int w10)] [] m11 Q := by
  intro n
  induction n with
  | zero => intro w9 w10 m11 h; cases h
  | succ n ih =>
    intro w9 w10 m11 h
    unfold X4_lots_L52 at h
    refine ev_iload dX4_lots_52 (pc' := 54) rfl rfl ?_
    refine ev_iload_n dX4_lots_54 (pc' := 55) rfl rfl ?_
    refine ev_icmp_ge dX4_lots_55 (pc' := 58) rfl (t := 120) rfl (fun c12 => ?_) (fun c12 => ?_)
    · replace h := it_t c12 h
      refine ev_iload dX4_lots_120 (pc' := 122) rfl rfl ?_
      obtain ⟨rfl, rfl⟩ := rt2 h
      exact ev_ireturn dX4_lots_122 rfl q
    · replace h := it_f c12 h
      refine ev_aload_n dX4_lots_58 (pc' := 59) rfl rfl ?_
      refine ev_getR (y := 36) dX4_lots_59 (pc' := 62) rfl fq_4_9 kn_35 rfl ?_
      refine ev_aload_n dX4_lots_62 (pc' := 63) rfl rfl ?_
      refine ev_getR (y := 37) dX4_lots_63 (pc' := 66) rfl fq_4_13 kn_35 rfl ?_
      obtain ⟨m13, x_m13, h⟩ := ob_of h
      refine ev_invS dX4_lots_66 (pc' := 69) rfl sq_4_78 mt_X4_lays rfl ⟨_, rfl, Nat.le_of_ble_eq_true rfl, Nat.le_of_ble_eq_true rfl, rfl, rfl⟩ ?_
      refine X4_lays_ca kn_36 rfl kn_37 rfl x_m13 ?_
      refine ev_r0 ?_
      refine ev_aload_n dX4_lots_69 (pc' := 70) rfl rfl ?_
      refine ev_getR (y := 37) dX4_lots_70 (pc' := 73) rfl fq_4_13 kn_35 rfl ?_
      refine ev_iconst dX4_lots_73 (pc' := 74) (v := 3) rfl (by decide) ?_
      refine ev_aload_n dX4_lots_74 (pc' := 75) rfl rfl ?_
      refine ev_bipush dX4_lots_75 (pc' := 77) (v := 9) rfl (by decide) ?_
      obtain ⟨y14, m15, x_y14, h⟩ := ob2_of h
      refine ev_invV dX4_lots_77 (pc' := 80) rfl sq_4_182 mt_X4_drawn rfl (arecv_ob (x := 35) rfl rfl (by decide) kn_35) ⟨_, rfl, Nat.le_of_ble_eq_true rfl, Nat.le_of_ble_eq_true rfl, rfl, rfl⟩ ?_
      refine X4_drawn_ca  x_y14 ?_
      refine ev_r1 ?_
      refine ev_iconst dX4_lots_80 (pc' := 81) (v := 1) rfl (by decide) ?_
      refine ev_iadd dX4_lots_81 (pc' := 82) rfl ?_
      refine ev_iastK (k0 := 3) dX4_lots_82 (pc' := 83) rfl kn_37 (by decide) rfl ?_
      refine ev_topm (fun m16 e_m16 => ?_)
      replace h := nm_at e_m16 h
      refine ev_aload_n dX4_lots_83 (pc' := 84) rfl rfl ?_
      refine ev_aload_n dX4_lots_84 (pc' := 85) rfl rfl ?_
      refine ev_getR (y := 37) dX4_lots_85 (pc' := 88) rfl fq_4_13 kn_35 rfl ?_
      refine ev_bipush dX4_lots_88 (pc' := 90) (v := 20) rfl (by decide) ?_
      obtain ⟨m17, x_m17, h⟩ := ob_of h
      refine ev_invV dX4_lots_90 (pc' := 93) rfl sq_4_82 mt_X4_yearsOn rfl (arecv_ob (x := 35) rfl rfl (by decide) kn_35) ⟨_, rfl, Nat.le_of_ble_eq_true rfl, Nat.le_of_ble_eq_true rfl, rfl, rfl⟩ ?_
      refine X4_yearsOn_ca kn_37 rfl x_m17 ?_
      refine ev_r0 ?_
      refine ev_iload dX4_lots_93 (pc' := 95) rfl rfl ?_
      refine ev_aload_n dX4_lots_95 (pc' := 96) rfl rfl ?_
      refine ev_getR (y := 37) dX4_lots_96 (pc' := 99) rfl fq_4_13 kn_35 rfl ?_
      refine ev_iload_n dX4_lots_99 (pc' := 100) rfl rfl ?_
      refine ev_if_ne dX4_lots_100 (pc' := 103) rfl (t := 107) rfl (fun c18 => ?_) (fun c18 => ?_)
      · replace h := it_f c18 h
        refine ev_iconst dX4_lots_107 (pc' := 108) (v := 5) rfl (by decide) ?_
        obtain ⟨y22, x_y22, h⟩ := ob_of h
        refine ev_invS dX4_lots_108 (pc' := 111) rfl sq_4_135 mt_X4_sumOf rfl ⟨_, rfl, Nat.le_of_ble_eq_true rfl, Nat.le_of_ble_eq_true rfl, rfl, rfl⟩ ?_
        refine X4_sumOf_ca kn_37 rfl x_y22 ?_
        refine ev_r1 ?_
        refine ev_iadd dX4_lots_111 (pc' := 112) rfl ?_
        refine ev_topi (fun v23 e_v23 => ?_)
        replace h := nm_at e_v23 h
        refine ev_istore dX4_lots_112 (pc' := 114) (ls' := [some (.ref 35), some (.int a7), none, some (.int a8), some (.int v23), some (.int w10)]) rfl (Nat.le_of_ble_eq_true rfl) rfl ?_
        obtain ⟨v24, e_v24⟩ : ∃ y : Int32, y = (w10 + 1) := ⟨_, rfl⟩
        replace h := nm_at e_v24 h
        refine ev_iinc dX4_lots_114 (pc' := 117) (v := v24) (ls' := [some (.ref 35), some (.int a7), none, some (.int a8), some (.int v23), some (.int v24)]) rfl rfl (by rw [e_v24]; rfl) (Nat.le_of_ble_eq_true rfl) rfl ?_
        refine ev_goto dX4_lots_117 (t := 52) rfl ?_
        exact ev_sub (lsub_c (lsub_c (lsub_c (lsub_c (lsub_c (lsub_c lsub_nil)))))) (ih v23 v24 m17 h)
      · replace h := it_t c18 h
        refine ev_iconst dX4_lots_103 (pc' := 104) (v := 2) rfl (by decide) ?_
        refine ev_goto dX4_lots_104 (t := 108) rfl ?_
        obtain ⟨y19, x_y19, h⟩ := ob_of h
        refine ev_invS dX4_lots_108 (pc' := 111) rfl sq_4_135 mt_X4_sumOf rfl ⟨_, rfl, Nat.le_of_ble_eq_true rfl, Nat.le_of_ble_eq_true rfl, rfl, rfl⟩ ?_
        refine X4_sumOf_ca kn_37 rfl x_y19 ?_
        refine ev_r1 ?_
        refine ev_iadd dX4_lots_111 (pc' := 112) rfl ?_
        refine ev_topi (fun v20 e_v20 => ?_)
        replace h := nm_at e_v20 h
        refine ev_istore dX4_lots_112 (pc' := 114) (ls' := [some (.ref 35), some (.int a7), none, some (.int a8), some (.int v20), some (.int w10)]) rfl (Nat.le_of_ble_eq_true rfl) rfl ?_
        obtain ⟨v21, e_v21⟩ : ∃ y : Int32, y = (w10 + 1) := ⟨_, rfl⟩
        replace h := nm_at e_v21 h
        refine ev_iinc dX4_lots_114 (pc' := 117) (v := v21) (ls' := [some (.ref 35), some (.int a7), none, some (.int a8), some (.int v20), some (.int v21)]) rfl rfl (by rw [e_v21]; rfl) (Nat.le_of_ble_eq_true rfl) rfl ?_
        refine ev_goto dX4_lots_117 (t := 52) rfl ?_
        exact ev_sub (lsub_c (lsub_c (lsub_c (lsub_c (lsub_c (lsub_c lsub_nil)))))) (ih v20 v21 m17 h)
set_option maxRecDepth 100000 in
set_option maxHeartbeats 8000000 in
theorem X4_lots_ca {S : Sc} {d : Nat} {a1 : Int32} {a2 : Int32} {a3 : Int32} {mem : Mm} {rr : Int32} {mr : Mm} {Q : Po}  (h : X4_lots 35 a1 a2 a3 mem = some (rr, mr)) (q : Q (some (.int rr)) mr) : Ca S (d + 6) 172 [.ref 35, .int a1, .int a2, .int a3] mem Q := by
  unfold X4_lots at h
  refine ca_in (by decide) mt_X4_lots (Nat.le_of_ble_eq_true rfl) ?_
  show Ev S (d + 5) 4 cX4_lots (some .int) 0 [some (.ref 35), some (.int a1), some (.int a2), some (.int a3), none, none] [] mem Q
  refine ev_iload_n dX4_lots_0 (pc' := 1) rfl rfl ?_
  refine ev_iconst dX4_lots_1 (pc' := 2) (v := 1) rfl (by decide) ?_
  refine ev_icmp_ge dX4_lots_2 (pc' := 5) rfl (t := 12) rfl (fun c1 => ?_) (fun c1 => ?_)
  · replace h := it_t c1 h
    refine ev_iload_n dX4_lots_12 (pc' := 13) rfl rfl ?_
    refine ev_bipush dX4_lots_13 (pc' := 15) (v := 20) rfl (by decide) ?_
    refine ev_icmp_le dX4_lots_15 (pc' := 18) rfl (t := 25) rfl (fun c2 => ?_) (fun c2 => ?_)
    · replace h := it_t c2 h
      refine ev_iload_n dX4_lots_25 (pc' := 26) rfl rfl ?_
      refine ev_iconst dX4_lots_26 (pc' := 27) (v := 0) rfl (by decide) ?_
      refine ev_iconst dX4_lots_27 (pc' := 28) (v := 1) rfl (by decide) ?_
      refine ev_invS dX4_lots_28 (pc' := 31) rfl sq_4_40 mt_X4_isIn rfl ⟨_, rfl, Nat.le_of_ble_eq_true rfl, Nat.le_of_ble_eq_true rfl, rfl, rfl⟩ ?_
      refine X4_isIn_ca  rfl ?_
      refine ev_r1 ?_
      refine ev_if_ne dX4_lots_31 (pc' := 34) rfl (t := 41) rfl (fun c3 => ?_) (fun c3 => ?_)
      · replace h := it_f c3 h
        refine ev_aload_n dX4_lots_41 (pc' := 42) rfl rfl ?_
        refine ev_iload_n dX4_lots_42 (pc' := 43) rfl rfl ?_
        refine ev_put dX4_lots_43 (pc' := 46) rfl fq_4_176 kn_35 rfl (Or.inl (by decide)) ?_
        refine ev_topm (fun m6 e_m6 => ?_)
        replace h := nm_at e_m6 h
        refine ev_iconst dX4_lots_46 (pc' := 47) (v := 0) rfl (by decide) ?_
        refine ev_istore dX4_lots_47 (pc' := 49) (ls' := [some (.ref 35), some (.int a1), some (.int a2), some (.int a3), some (.int 0), none]) rfl (Nat.le_of_ble_eq_true rfl) rfl ?_
        refine ev_iconst dX4_lots_49 (pc' := 50) (v := 0) rfl (by decide) ?_
        refine ev_istore dX4_lots_50 (pc' := 52) (ls' := [some (.ref 35), some (.int a1), some (.int a2), some (.int a3), some (.int 0), some (.int 0)]) rfl (Nat.le_of_ble_eq_true rfl) rfl ?_
        exact ev_sub (lsub_c (lsub_c (lsub_n (lsub_c (lsub_c (lsub_c lsub_nil)))))) (X4_lots_L52_ev  q LF 0 0 m6 h)
      · replace h := it_t c3 h
        refine ev_aload_n dX4_lots_34 (pc' := 35) rfl rfl ?_
        refine ev_bipush dX4_lots_35 (pc' := 37) (v := (-2)) rfl (by decide) ?_
        obtain ⟨y4, m5, x_y4, h⟩ := ob2_of h
        refine ev_invV dX4_lots_37 (pc' := 40) rfl sq_4_36 mt_X4_no rfl (arecv_ob (x := 35) rfl rfl (by decide) kn_35) ⟨_, rfl, Nat.le_of_ble_eq_true rfl, Nat.le_of_ble_eq_true rfl, rfl, rfl⟩ ?_
        refine X4_no_ca  x_y4 ?_
        refine ev_r1 ?_
        obtain ⟨rfl, rfl⟩ := rt2 h
        exact ev_ireturn dX4_lots_40 rfl q
    · replace h := it_f c2 h
      refine ev_aload_n dX4_lots_18 (pc' := 19) rfl rfl ?_
      refine ev_bipush dX4_lots_19 (pc' := 21) (v := (-6)) rfl (by decide) ?_
      obtain ⟨y25, m26, x_y25, h⟩ := ob2_of h
      refine ev_invV dX4_lots_21 (pc' := 24) rfl sq_4_36 mt_X4_no rfl (arecv_ob (x := 35) rfl rfl (by decide) kn_35) ⟨_, rfl, Nat.le_of_ble_eq_true rfl, Nat.le_of_ble_eq_true rfl, rfl, rfl⟩ ?_
      refine X4_no_ca  x_y25 ?_
      refine ev_r1 ?_
      obtain ⟨rfl, rfl⟩ := rt2 h
      exact ev_ireturn dX4_lots_24 rfl q
  · replace h := it_f c1 h
    refine ev_aload_n dX4_lots_5 (pc' := 6) rfl rfl ?_
    refine ev_bipush dX4_lots_6 (pc' := 8) (v := (-4)) rfl (by decide) ?_
    obtain ⟨y27, m28, x_y27, h⟩ := ob2_of h
    refine ev_invV dX4_lots_8 (pc' := 11) rfl sq_4_36 mt_X4_no rfl (arecv_ob (x := 35) rfl rfl (by decide) kn_35) ⟨_, rfl, Nat.le_of_ble_eq_true rfl, Nat.le_of_ble_eq_true rfl, rfl, rfl⟩ ?_
    refine X4_no_ca  x_y27 ?_
    refine ev_r1 ?_
    obtain ⟨rfl, rfl⟩ := rt2 h
    exact ev_ireturn dX4_lots_11 rfl q
def X4_image (_o : Nat) (mem : Mm) : Option (Int32 × Mm) := ob (X4_lays 36 38 mem) (fun m1 => nm (mset m1 35 4 1) (fun m2 => some ((m2 36 1), m2)))
set_option maxRecDepth 100000 in
set_option maxHeartbeats 8000000 in
theorem X4_image_ca {S : Sc} {d : Nat}  {mem : Mm} {rr : Int32} {mr : Mm} {Q : Po}  (h : X4_image 35 mem = some (rr, mr)) (q : Q (some (.int rr)) mr) : Ca S (d + 2) 173 [.ref 35] mem Q := by
  unfold X4_image at h
  refine ca_in (by decide) mt_X4_image (Nat.le_of_ble_eq_true rfl) ?_
  show Ev S (d + 1) 4 cX4_image (some .int) 0 [some (.ref 35)] [] mem Q
  refine ev_aload_n dX4_image_0 (pc' := 1) rfl rfl ?_
  refine ev_getR (y := 36) dX4_image_1 (pc' := 4) rfl fq_4_9 kn_35 rfl ?_
  refine ev_aload_n dX4_image_4 (pc' := 5) rfl rfl ?_
  refine ev_getR (y := 38) dX4_image_5 (pc' := 8) rfl fq_4_16 kn_35 rfl ?_
  obtain ⟨m1, x_m1, h⟩ := ob_of h
  refine ev_invS dX4_image_8 (pc' := 11) rfl sq_4_78 mt_X4_lays rfl ⟨_, rfl, Nat.le_of_ble_eq_true rfl, Nat.le_of_ble_eq_true rfl, rfl, rfl⟩ ?_
  refine X4_lays_ca kn_36 rfl kn_38 rfl x_m1 ?_
  refine ev_r0 ?_
  refine ev_aload_n dX4_image_11 (pc' := 12) rfl rfl ?_
  refine ev_iconst dX4_image_12 (pc' := 13) (v := 1) rfl (by decide) ?_
  refine ev_put dX4_image_13 (pc' := 16) rfl fq_4_185 kn_35 rfl ((by decide)) ?_
  refine ev_topm (fun m2 e_m2 => ?_)
  replace h := nm_at e_m2 h
  refine ev_aload_n dX4_image_16 (pc' := 17) rfl rfl ?_
  refine ev_getR (y := 36) dX4_image_17 (pc' := 20) rfl fq_4_9 kn_35 rfl ?_
  refine ev_iconst dX4_image_20 (pc' := 21) (v := 1) rfl (by decide) ?_
  refine ev_ialdK (k0 := 1) dX4_image_21 (pc' := 22) rfl kn_36 (by decide) rfl ?_
  obtain ⟨rfl, rfl⟩ := rt2 h
  exact ev_ireturn dX4_image_22 rfl q
def X4_on (_o : Nat) (mem : Mm) : Option (Int32 × Mm) := if (mem 35 4) = 0 then (ob2 (X4_no 35 (-3) mem) (fun y2 m3 => some (y2, m3))) else (ob (X4_lays 38 36 mem) (fun m4 => some ((m4 36 1), m4)))
set_option maxRecDepth 100000 in
set_option maxHeartbeats 8000000 in
theorem X4_on_ca {S : Sc} {d : Nat}  {mem : Mm} {rr : Int32} {mr : Mm} {Q : Po}  (h : X4_on 35 mem = some (rr, mr)) (q : Q (some (.int rr)) mr) : Ca S (d + 2) 174 [.ref 35] mem Q := by
  unfold X4_on at h
  refine ca_in (by decide) mt_X4_on (Nat.le_of_ble_eq_true rfl) ?_
  show Ev S (d + 1) 4 cX4_on (some .int) 0 [some (.ref 35)] [] mem Q
  refine ev_aload_n dX4_on_0 (pc' := 1) rfl rfl ?_
  refine ev_get dX4_on_1 (pc' := 4) rfl fq_4_185 kn_35 rfl ?_
  refine ev_if_ne dX4_on_4 (pc' := 7) rfl (t := 14) rfl (fun c1 => ?_) (fun c1 => ?_)
  · replace h := it_f c1 h
    refine ev_aload_n dX4_on_14 (pc' := 15) rfl rfl ?_
    refine ev_getR (y := 38) dX4_on_15 (pc' := 18) rfl fq_4_16 kn_35 rfl ?_
    refine ev_aload_n dX4_on_18 (pc' := 19) rfl rfl ?_
    refine ev_getR (y := 36) dX4_on_19 (pc' := 22) rfl fq_4_9 kn_35 rfl ?_
    obtain ⟨m4, x_m4, h⟩ := ob_of h
    refine ev_invS dX4_on_22 (pc' := 25) rfl sq_4_78 mt_X4_lays rfl ⟨_, rfl, Nat.le_of_ble_eq_true rfl, Nat.le_of_ble_eq_true rfl, rfl, rfl⟩ ?_
    refine X4_lays_ca kn_38 rfl kn_36 rfl x_m4 ?_
    refine ev_r0 ?_
    refine ev_aload_n dX4_on_25 (pc' := 26) rfl rfl ?_
    refine ev_getR (y := 36) dX4_on_26 (pc' := 29) rfl fq_4_9 kn_35 rfl ?_
    refine ev_iconst dX4_on_29 (pc' := 30) (v := 1) rfl (by decide) ?_
    refine ev_ialdK (k0 := 1) dX4_on_30 (pc' := 31) rfl kn_36 (by decide) rfl ?_
    obtain ⟨rfl, rfl⟩ := rt2 h
    exact ev_ireturn dX4_on_31 rfl q
  · replace h := it_t c1 h
    refine ev_aload_n dX4_on_7 (pc' := 8) rfl rfl ?_
    refine ev_bipush dX4_on_8 (pc' := 10) (v := (-3)) rfl (by decide) ?_
    obtain ⟨y2, m3, x_y2, h⟩ := ob2_of h
    refine ev_invV dX4_on_10 (pc' := 13) rfl sq_4_36 mt_X4_no rfl (arecv_ob (x := 35) rfl rfl (by decide) kn_35) ⟨_, rfl, Nat.le_of_ble_eq_true rfl, Nat.le_of_ble_eq_true rfl, rfl, rfl⟩ ?_
    refine X4_no_ca  x_y2 ?_
    refine ev_r1 ?_
    obtain ⟨rfl, rfl⟩ := rt2 h
    exact ev_ireturn dX4_on_13 rfl q
def X4_count (_o : Nat) (a1 : Int32) (mem : Mm) : Option Int32 := if (X4_isIn a1 11 16) = 0 then (if a1 = 0 then (gd (vin a1 47) (some (mem 36 (a1).toNatClampNeg))) else (if a1 = 1 then (gd (vin a1 47) (some (mem 36 (a1).toNatClampNeg))) else (if a1 = 2 then (gd (vin a1 47) (some (mem 36 (a1).toNatClampNeg))) else (if a1 = 3 then (gd (vin a1 47) (some (mem 36 (a1).toNatClampNeg))) else (if a1 = 4 then (gd (vin a1 47) (some (mem 36 (a1).toNatClampNeg))) else (if a1 = 5 then (ob (X4_sumOf 36 2 mem) (fun y13 => some y13)) else (if a1 = 6 then (ob (X4_sumOf 36 5 mem) (fun y15 => some y15)) else (if a1 = 7 then (some (mem 35 9)) else (if a1 = 8 then (some (mem 35 8)) else (some (-9))))))))))) else (gd (vin (a1 - 10) 7) (some (mem 42 ((a1 - 10)).toNatClampNeg)))
set_option maxRecDepth 100000 in
set_option maxHeartbeats 8000000 in
theorem X4_count_ca {S : Sc} {d : Nat} {a1 : Int32} {mem : Mm} {rr : Int32} {Q : Po}  (h : X4_count 35 a1 mem = some rr) (q : Q (some (.int rr)) mem) : Ca S (d + 3) 175 [.ref 35, .int a1] mem Q := by
  unfold X4_count at h
  refine ca_in (by decide) mt_X4_count (Nat.le_of_ble_eq_true rfl) ?_
  show Ev S (d + 2) 4 cX4_count (some .int) 0 [some (.ref 35), some (.int a1)] [] mem Q
  refine ev_iload_n dX4_count_0 (pc' := 1) rfl rfl ?_
  refine ev_bipush dX4_count_1 (pc' := 3) (v := 11) rfl (by decide) ?_
  refine ev_bipush dX4_count_3 (pc' := 5) (v := 16) rfl (by decide) ?_
  refine ev_invS dX4_count_5 (pc' := 8) rfl sq_4_40 mt_X4_isIn rfl ⟨_, rfl, Nat.le_of_ble_eq_true rfl, Nat.le_of_ble_eq_true rfl, rfl, rfl⟩ ?_
  refine X4_isIn_ca  rfl ?_
  refine ev_r1 ?_
  refine ev_if_eq dX4_count_8 (pc' := 11) rfl (t := 21) rfl (fun c1 => ?_) (fun c1 => ?_)
  · replace h := it_t c1 h
    refine ev_iload_n dX4_count_21 (pc' := 22) rfl rfl ?_
    by_cases c2 : a1 = 0
    · replace h := it_t c2 h
      refine ev_tableIn dX4_count_22 c2 (by decide) rfl (t := 72) rfl ?_
      refine ev_aload_n dX4_count_72 (pc' := 73) rfl rfl ?_
      refine ev_getR (y := 36) dX4_count_73 (pc' := 76) rfl fq_4_9 kn_35 rfl ?_
      refine ev_iload_n dX4_count_76 (pc' := 77) rfl rfl ?_
      obtain ⟨g3, h⟩ := gd_of h
      refine ev_ialdK (k0 := (a1).toNatClampNeg) dX4_count_77 (pc' := 78) rfl kn_36 g3 rfl ?_
      obtain rfl := rt1 h
      exact ev_ireturn dX4_count_78 rfl q
    · replace h := it_f c2 h
      by_cases c4 : a1 = 1
      · replace h := it_t c4 h
        refine ev_tableIn dX4_count_22 c4 (by decide) rfl (t := 72) rfl ?_
        refine ev_aload_n dX4_count_72 (pc' := 73) rfl rfl ?_
        refine ev_getR (y := 36) dX4_count_73 (pc' := 76) rfl fq_4_9 kn_35 rfl ?_
        refine ev_iload_n dX4_count_76 (pc' := 77) rfl rfl ?_
        obtain ⟨g5, h⟩ := gd_of h
        refine ev_ialdK (k0 := (a1).toNatClampNeg) dX4_count_77 (pc' := 78) rfl kn_36 g5 rfl ?_
        obtain rfl := rt1 h
        exact ev_ireturn dX4_count_78 rfl q
      · replace h := it_f c4 h
        by_cases c6 : a1 = 2
        · replace h := it_t c6 h
          refine ev_tableIn dX4_count_22 c6 (by decide) rfl (t := 72) rfl ?_
          refine ev_aload_n dX4_count_72 (pc' := 73) rfl rfl ?_
          refine ev_getR (y := 36) dX4_count_73 (pc' := 76) rfl fq_4_9 kn_35 rfl ?_
          refine ev_iload_n dX4_count_76 (pc' := 77) rfl rfl ?_
          obtain ⟨g7, h⟩ := gd_of h
          refine ev_ialdK (k0 := (a1).toNatClampNeg) dX4_count_77 (pc' := 78) rfl kn_36 g7 rfl ?_
          obtain rfl := rt1 h
          exact ev_ireturn dX4_count_78 rfl q
        · replace h := it_f c6 h
          by_cases c8 : a1 = 3
          · replace h := it_t c8 h
            refine ev_tableIn dX4_count_22 c8 (by decide) rfl (t := 72) rfl ?_
            refine ev_aload_n dX4_count_72 (pc' := 73) rfl rfl ?_
            refine ev_getR (y := 36) dX4_count_73 (pc' := 76) rfl fq_4_9 kn_35 rfl ?_
            refine ev_iload_n dX4_count_76 (pc' := 77) rfl rfl ?_
            obtain ⟨g9, h⟩ := gd_of h
            refine ev_ialdK (k0 := (a1).toNatClampNeg) dX4_count_77 (pc' := 78) rfl kn_36 g9 rfl ?_
            obtain rfl := rt1 h
            exact ev_ireturn dX4_count_78 rfl q
          · replace h := it_f c8 h
            by_cases c10 : a1 = 4
            · replace h := it_t c10 h
              refine ev_tableIn dX4_count_22 c10 (by decide) rfl (t := 72) rfl ?_
              refine ev_aload_n dX4_count_72 (pc' := 73) rfl rfl ?_
              refine ev_getR (y := 36) dX4_count_73 (pc' := 76) rfl fq_4_9 kn_35 rfl ?_
              refine ev_iload_n dX4_count_76 (pc' := 77) rfl rfl ?_
              obtain ⟨g11, h⟩ := gd_of h
              refine ev_ialdK (k0 := (a1).toNatClampNeg) dX4_count_77 (pc' := 78) rfl kn_36 g11 rfl ?_
              obtain rfl := rt1 h
              exact ev_ireturn dX4_count_78 rfl q
            · replace h := it_f c10 h
              by_cases c12 : a1 = 5
              · replace h := it_t c12 h
                refine ev_tableIn dX4_count_22 c12 (by decide) rfl (t := 79) rfl ?_
                refine ev_aload_n dX4_count_79 (pc' := 80) rfl rfl ?_
                refine ev_getR (y := 36) dX4_count_80 (pc' := 83) rfl fq_4_9 kn_35 rfl ?_
                refine ev_iconst dX4_count_83 (pc' := 84) (v := 2) rfl (by decide) ?_
                obtain ⟨y13, x_y13, h⟩ := ob_of h
                refine ev_invS dX4_count_84 (pc' := 87) rfl sq_4_135 mt_X4_sumOf rfl ⟨_, rfl, Nat.le_of_ble_eq_true rfl, Nat.le_of_ble_eq_true rfl, rfl, rfl⟩ ?_
                refine X4_sumOf_ca kn_36 rfl x_y13 ?_
                refine ev_r1 ?_
                obtain rfl := rt1 h
                exact ev_ireturn dX4_count_87 rfl q
              · replace h := it_f c12 h
                by_cases c14 : a1 = 6
                · replace h := it_t c14 h
                  refine ev_tableIn dX4_count_22 c14 (by decide) rfl (t := 88) rfl ?_
                  refine ev_aload_n dX4_count_88 (pc' := 89) rfl rfl ?_
                  refine ev_getR (y := 36) dX4_count_89 (pc' := 92) rfl fq_4_9 kn_35 rfl ?_
                  refine ev_iconst dX4_count_92 (pc' := 93) (v := 5) rfl (by decide) ?_
                  obtain ⟨y15, x_y15, h⟩ := ob_of h
                  refine ev_invS dX4_count_93 (pc' := 96) rfl sq_4_135 mt_X4_sumOf rfl ⟨_, rfl, Nat.le_of_ble_eq_true rfl, Nat.le_of_ble_eq_true rfl, rfl, rfl⟩ ?_
                  refine X4_sumOf_ca kn_36 rfl x_y15 ?_
                  refine ev_r1 ?_
                  obtain rfl := rt1 h
                  exact ev_ireturn dX4_count_96 rfl q
                · replace h := it_f c14 h
                  by_cases c16 : a1 = 7
                  · replace h := it_t c16 h
                    refine ev_tableIn dX4_count_22 c16 (by decide) rfl (t := 97) rfl ?_
                    refine ev_aload_n dX4_count_97 (pc' := 98) rfl rfl ?_
                    refine ev_get dX4_count_98 (pc' := 101) rfl fq_4_170 kn_35 rfl ?_
                    obtain rfl := rt1 h
                    exact ev_ireturn dX4_count_101 rfl q
                  · replace h := it_f c16 h
                    by_cases c17 : a1 = 8
                    · replace h := it_t c17 h
                      refine ev_tableIn dX4_count_22 c17 (by decide) rfl (t := 102) rfl ?_
                      refine ev_aload_n dX4_count_102 (pc' := 103) rfl rfl ?_
                      refine ev_get dX4_count_103 (pc' := 106) rfl fq_4_86 kn_35 rfl ?_
                      obtain rfl := rt1 h
                      exact ev_ireturn dX4_count_106 rfl q
                    · replace h := it_f c17 h
                      refine ev_tableDef dX4_count_22 [0, 1, 2, 3, 4, 5, 6, 7, 8] (by decide) (List.forall_mem_cons.mpr ⟨c2, List.forall_mem_cons.mpr ⟨c4, List.forall_mem_cons.mpr ⟨c6, List.forall_mem_cons.mpr ⟨c8, List.forall_mem_cons.mpr ⟨c10, List.forall_mem_cons.mpr ⟨c12, List.forall_mem_cons.mpr ⟨c14, List.forall_mem_cons.mpr ⟨c16, List.forall_mem_cons.mpr ⟨c17, fun _ h => absurd h List.not_mem_nil⟩⟩⟩⟩⟩⟩⟩⟩⟩) (t := 107) rfl ?_
                      refine ev_bipush dX4_count_107 (pc' := 109) (v := (-9)) rfl (by decide) ?_
                      obtain rfl := rt1 h
                      exact ev_ireturn dX4_count_109 rfl q
  · replace h := it_f c1 h
    refine ev_aload_n dX4_count_11 (pc' := 12) rfl rfl ?_
    refine ev_getR (y := 42) dX4_count_12 (pc' := 15) rfl fq_4_28 kn_35 rfl ?_
    refine ev_iload_n dX4_count_15 (pc' := 16) rfl rfl ?_
    refine ev_bipush dX4_count_16 (pc' := 18) (v := 10) rfl (by decide) ?_
    refine ev_isub dX4_count_18 (pc' := 19) rfl ?_
    obtain ⟨g18, h⟩ := gd_of h
    refine ev_ialdK (k0 := ((a1 - 10)).toNatClampNeg) dX4_count_19 (pc' := 20) rfl kn_42 g18 rfl ?_
    obtain rfl := rt1 h
    exact ev_ireturn dX4_count_20 rfl q
