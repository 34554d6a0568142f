def X4_allBehind_L65   (m10 : Mm) : Nat → Int32 → Int32 → Option (Int32 × Mm)
  | 0, _, _ => none
  | n + 1, w8, w9 => if (m10 37 0) ≤ w9 then (some (w8, m10)) else (if w8 < 0 then (nm (w9 + 1) (fun v13 => X4_allBehind_L65 m10 n w9 v13)) else (gd (vin (X4_at w9 2) 47) (gd (vin (X4_at w8 2) 47) (if (m10 37 ((X4_at w9 2)).toNatClampNeg) ≤ (m10 37 ((X4_at w8 2)).toNatClampNeg) then (nm (w9 + 1) (fun v17 => X4_allBehind_L65 m10 n w8 v17)) else (nm (w9 + 1) (fun v18 => X4_allBehind_L65 m10 n w9 v18))))))
def X4_allBehind (_o : Nat) (a1 : Int32) (a2 : Int32) (mem : Mm) : Option (Int32 × Mm) := nm (X4_wrongYears a1) (fun v1 => if v1 = 0 then (if (X4_isIn a2 0 2) = 0 then (ob2 (X4_no 35 (-2) mem) (fun y4 m5 => some (y4, m5))) else (ob (X4_inMind 35 a1 mem) (fun m6 => if 2 ≤ a2 then (X4_allBehind_L65 m6 LF (-9) 0) else (if a2 = 0 then (ob (X4_sumOf 37 2 m6) (fun y20 => some (y20, m6))) else (ob (X4_sumOf 37 5 m6) (fun y21 => some (y21, m6))))))) else (ob2 (X4_no 35 v1 mem) (fun y22 m23 => some (y22, m23))))
set_option maxRecDepth 100000 in
set_option maxHeartbeats 8000000 in
theorem X4_allBehind_L65_ev {S : Sc} {d : Nat}   {m10 : Mm} {rr : Int32} {mr : Mm} {Q : Po}  (q : Q (some (.int rr)) mr) : ∀ (n : Nat) (w8 : Int32) (w9 : Int32), X4_allBehind_L65 m10 n w8 w9 = some (rr, mr) → Ev S (d + 6) 4 cX4_allBehind (some .int) 65 [some (.ref 35), none, none, none, some (.int w8), some (.int w9)] [] m10 Q := by
  intro n
  induction n with
  | zero => intro w8 w9 h; cases h
  | succ n ih =>
    intro w8 w9 h
    unfold X4_allBehind_L65 at h
    refine ev_iload dX4_allBehind_65 (pc' := 67) rfl rfl ?_
    refine ev_aload_n dX4_allBehind_67 (pc' := 68) rfl rfl ?_
    refine ev_getR (y := 37) dX4_allBehind_68 (pc' := 71) rfl fq_4_13 kn_35 rfl ?_
    refine ev_iconst dX4_allBehind_71 (pc' := 72) (v := 0) rfl (by decide) ?_
    refine ev_ialdK (k0 := 0) dX4_allBehind_72 (pc' := 73) rfl kn_37 (by decide) rfl ?_
    refine ev_icmp_ge dX4_allBehind_73 (pc' := 76) rfl (t := 116) rfl (fun c11 => ?_) (fun c11 => ?_)
    · replace h := it_t c11 h
      refine ev_iload dX4_allBehind_116 (pc' := 118) rfl rfl ?_
      obtain ⟨rfl, rfl⟩ := rt2 h
      exact ev_ireturn dX4_allBehind_118 rfl q
    · replace h := it_f c11 h
      refine ev_iload dX4_allBehind_76 (pc' := 78) rfl rfl ?_
      refine ev_if_lt dX4_allBehind_78 (pc' := 81) rfl (t := 106) rfl (fun c12 => ?_) (fun c12 => ?_)
      · replace h := it_t c12 h
        refine ev_iload dX4_allBehind_106 (pc' := 108) rfl rfl ?_
        refine ev_istore dX4_allBehind_108 (pc' := 110) (ls' := [some (.ref 35), none, none, none, some (.int w9), some (.int w9)]) rfl (Nat.le_of_ble_eq_true rfl) rfl ?_
        obtain ⟨v13, e_v13⟩ : ∃ y : Int32, y = (w9 + 1) := ⟨_, rfl⟩
        replace h := nm_at e_v13 h
        refine ev_iinc dX4_allBehind_110 (pc' := 113) (v := v13) (ls' := [some (.ref 35), none, none, none, some (.int w9), some (.int v13)]) rfl rfl (by rw [e_v13]; rfl) (Nat.le_of_ble_eq_true rfl) rfl ?_
        refine ev_goto dX4_allBehind_113 (t := 65) rfl ?_
        exact ev_sub (lsub_c (lsub_c (lsub_c (lsub_c (lsub_c (lsub_c lsub_nil)))))) (ih w9 v13 h)
      · replace h := it_f c12 h
        refine ev_aload_n dX4_allBehind_81 (pc' := 82) rfl rfl ?_
        refine ev_getR (y := 37) dX4_allBehind_82 (pc' := 85) rfl fq_4_13 kn_35 rfl ?_
        refine ev_iload dX4_allBehind_85 (pc' := 87) rfl rfl ?_
        refine ev_iconst dX4_allBehind_87 (pc' := 88) (v := 2) rfl (by decide) ?_
        refine ev_invS dX4_allBehind_88 (pc' := 91) rfl sq_4_44 mt_X4_at rfl ⟨_, rfl, Nat.le_of_ble_eq_true rfl, Nat.le_of_ble_eq_true rfl, rfl, rfl⟩ ?_
        refine X4_at_ca  rfl ?_
        refine ev_r1 ?_
        obtain ⟨g14, h⟩ := gd_of h
        refine ev_ialdK (k0 := ((X4_at w9 2)).toNatClampNeg) dX4_allBehind_91 (pc' := 92) rfl kn_37 g14 rfl ?_
        refine ev_aload_n dX4_allBehind_92 (pc' := 93) rfl rfl ?_
        refine ev_getR (y := 37) dX4_allBehind_93 (pc' := 96) rfl fq_4_13 kn_35 rfl ?_
        refine ev_iload dX4_allBehind_96 (pc' := 98) rfl rfl ?_
        refine ev_iconst dX4_allBehind_98 (pc' := 99) (v := 2) rfl (by decide) ?_
        refine ev_invS dX4_allBehind_99 (pc' := 102) rfl sq_4_44 mt_X4_at rfl ⟨_, rfl, Nat.le_of_ble_eq_true rfl, Nat.le_of_ble_eq_true rfl, rfl, rfl⟩ ?_
        refine X4_at_ca  rfl ?_
        refine ev_r1 ?_
        obtain ⟨g15, h⟩ := gd_of h
        refine ev_ialdK (k0 := ((X4_at w8 2)).toNatClampNeg) dX4_allBehind_102 (pc' := 103) rfl kn_37 g15 rfl ?_
        refine ev_icmp_le dX4_allBehind_103 (pc' := 106) rfl (t := 110) rfl (fun c16 => ?_) (fun c16 => ?_)
        · replace h := it_t c16 h
          obtain ⟨v17, e_v17⟩ : ∃ y : Int32, y = (w9 + 1) := ⟨_, rfl⟩
          replace h := nm_at e_v17 h
          refine ev_iinc dX4_allBehind_110 (pc' := 113) (v := v17) (ls' := [some (.ref 35), none, none, none, some (.int w8), some (.int v17)]) rfl rfl (by rw [e_v17]; rfl) (Nat.le_of_ble_eq_true rfl) rfl ?_
          refine ev_goto dX4_allBehind_113 (t := 65) rfl ?_
          exact ev_sub (lsub_c (lsub_c (lsub_c (lsub_c (lsub_c (lsub_c lsub_nil)))))) (ih w8 v17 h)
        · replace h := it_f c16 h
          refine ev_iload dX4_allBehind_106 (pc' := 108) rfl rfl ?_
          refine ev_istore dX4_allBehind_108 (pc' := 110) (ls' := [some (.ref 35), none, none, none, some (.int w9), some (.int w9)]) rfl (Nat.le_of_ble_eq_true rfl) rfl ?_
          obtain ⟨v18, e_v18⟩ : ∃ y : Int32, y = (w9 + 1) := ⟨_, rfl⟩
          replace h := nm_at e_v18 h
          refine ev_iinc dX4_allBehind_110 (pc' := 113) (v := v18) (ls' := [some (.ref 35), none, none, none, some (.int w9), some (.int v18)]) rfl rfl (by rw [e_v18]; rfl) (Nat.le_of_ble_eq_true rfl) rfl ?_
          refine ev_goto dX4_allBehind_113 (t := 65) rfl ?_
          exact ev_sub (lsub_c (lsub_c (lsub_c (lsub_c (lsub_c (lsub_c lsub_nil)))))) (ih w9 v18 h)
set_option maxRecDepth 100000 in
set_option maxHeartbeats 8000000 in
theorem X4_allBehind_ca {S : Sc} {d : Nat} {a1 : Int32} {a2 : Int32} {mem : Mm} {rr : Int32} {mr : Mm} {Q : Po}  (h : X4_allBehind 35 a1 a2 mem = some (rr, mr)) (q : Q (some (.int rr)) mr) : Ca S (d + 7) 145 [.ref 35, .int a1, .int a2] mem Q := by
  unfold X4_allBehind at h
  refine ca_in (by decide) mt_X4_allBehind (Nat.le_of_ble_eq_true rfl) ?_
  show Ev S (d + 6) 4 cX4_allBehind (some .int) 0 [some (.ref 35), some (.int a1), some (.int a2), none, none, none] [] mem Q
  refine ev_iload_n dX4_allBehind_0 (pc' := 1) rfl rfl ?_
  refine ev_invS dX4_allBehind_1 (pc' := 4) rfl sq_4_128 mt_X4_wrongYears rfl ⟨_, rfl, Nat.le_of_ble_eq_true rfl, Nat.le_of_ble_eq_true rfl, rfl, rfl⟩ ?_
  refine X4_wrongYears_ca  rfl ?_
  refine ev_r1 ?_
  refine ev_topi (fun v1 e_v1 => ?_)
  replace h := nm_at e_v1 h
  refine ev_istore_n dX4_allBehind_4 (pc' := 5) (ls' := [some (.ref 35), some (.int a1), some (.int a2), some (.int v1), none, none]) rfl (Nat.le_of_ble_eq_true rfl) rfl ?_
  refine ev_iload_n dX4_allBehind_5 (pc' := 6) rfl rfl ?_
  refine ev_if_ne dX4_allBehind_6 (pc' := 9) rfl (t := 21) rfl (fun c2 => ?_) (fun c2 => ?_)
  · replace h := it_f c2 h
    refine ev_iload_n dX4_allBehind_21 (pc' := 22) rfl rfl ?_
    refine ev_if_eq dX4_allBehind_22 (pc' := 25) rfl (t := 31) rfl (fun q => absurd q c2) (fun _ => ?_)
    refine ev_aload_n dX4_allBehind_25 (pc' := 26) rfl rfl ?_
    refine ev_iload_n dX4_allBehind_26 (pc' := 27) rfl rfl ?_
    obtain ⟨y22, m23, x_y22, h⟩ := ob2_of h
    refine ev_invV dX4_allBehind_27 (pc' := 30) rfl sq_4_36 mt_X4_no rfl (arecv_ob (x := 35) rfl rfl (by decide) kn_35) ⟨_, rfl, Nat.le_of_ble_eq_true rfl, Nat.le_of_ble_eq_true rfl, rfl, rfl⟩ ?_
    refine X4_no_ca  x_y22 ?_
    refine ev_r1 ?_
    obtain ⟨rfl, rfl⟩ := rt2 h
    exact ev_ireturn dX4_allBehind_30 rfl q
  · replace h := it_t c2 h
    refine ev_iload_n dX4_allBehind_9 (pc' := 10) rfl rfl ?_
    refine ev_iconst dX4_allBehind_10 (pc' := 11) (v := 0) rfl (by decide) ?_
    refine ev_iconst dX4_allBehind_11 (pc' := 12) (v := 2) rfl (by decide) ?_
    refine ev_invS dX4_allBehind_12 (pc' := 15) rfl sq_4_40 mt_X4_isIn rfl ⟨_, rfl, Nat.le_of_ble_eq_true rfl, Nat.le_of_ble_eq_true rfl, rfl, rfl⟩ ?_
    refine X4_isIn_ca  rfl ?_
    refine ev_r1 ?_
    refine ev_if_ne dX4_allBehind_15 (pc' := 18) rfl (t := 21) rfl (fun c3 => ?_) (fun c3 => ?_)
    · replace h := it_f c3 h
      refine ev_iload_n dX4_allBehind_21 (pc' := 22) rfl rfl ?_
      refine ev_if_eq dX4_allBehind_22 (pc' := 25) rfl (t := 31) rfl (fun _ => ?_) (fun q => absurd c2 q)
      refine ev_aload_n dX4_allBehind_31 (pc' := 32) rfl rfl ?_
      refine ev_iload_n dX4_allBehind_32 (pc' := 33) rfl rfl ?_
      obtain ⟨m6, x_m6, h⟩ := ob_of h
      refine ev_invV dX4_allBehind_33 (pc' := 36) rfl sq_4_131 mt_X4_inMind rfl (arecv_ob (x := 35) rfl rfl (by decide) kn_35) ⟨_, rfl, Nat.le_of_ble_eq_true rfl, Nat.le_of_ble_eq_true rfl, rfl, rfl⟩ ?_
      refine X4_inMind_ca  x_m6 ?_
      refine ev_r0 ?_
      refine ev_iload_n dX4_allBehind_36 (pc' := 37) rfl rfl ?_
      refine ev_iconst dX4_allBehind_37 (pc' := 38) (v := 2) rfl (by decide) ?_
      refine ev_icmp_ge dX4_allBehind_38 (pc' := 41) rfl (t := 58) rfl (fun c7 => ?_) (fun c7 => ?_)
      · replace h := it_t c7 h
        refine ev_bipush dX4_allBehind_58 (pc' := 60) (v := (-9)) rfl (by decide) ?_
        refine ev_istore dX4_allBehind_60 (pc' := 62) (ls' := [some (.ref 35), some (.int a1), some (.int a2), some (.int v1), some (.int (-9)), none]) rfl (Nat.le_of_ble_eq_true rfl) rfl ?_
        refine ev_iconst dX4_allBehind_62 (pc' := 63) (v := 0) rfl (by decide) ?_
        refine ev_istore dX4_allBehind_63 (pc' := 65) (ls' := [some (.ref 35), some (.int a1), some (.int a2), some (.int v1), some (.int (-9)), some (.int 0)]) rfl (Nat.le_of_ble_eq_true rfl) rfl ?_
        exact ev_sub (lsub_c (lsub_n (lsub_n (lsub_n (lsub_c (lsub_c lsub_nil)))))) (X4_allBehind_L65_ev  q LF (-9) 0 h)
      · replace h := it_f c7 h
        refine ev_aload_n dX4_allBehind_41 (pc' := 42) rfl rfl ?_
        refine ev_getR (y := 37) dX4_allBehind_42 (pc' := 45) rfl fq_4_13 kn_35 rfl ?_
        refine ev_iload_n dX4_allBehind_45 (pc' := 46) rfl rfl ?_
        refine ev_if_ne dX4_allBehind_46 (pc' := 49) rfl (t := 53) rfl (fun c19 => ?_) (fun c19 => ?_)
        · replace h := it_f c19 h
          refine ev_iconst dX4_allBehind_53 (pc' := 54) (v := 5) rfl (by decide) ?_
          obtain ⟨y21, x_y21, h⟩ := ob_of h
          refine ev_invS dX4_allBehind_54 (pc' := 57) rfl sq_4_135 mt_X4_sumOf rfl ⟨_, rfl, Nat.le_of_ble_eq_true rfl, Nat.le_of_ble_eq_true rfl, rfl, rfl⟩ ?_
          refine X4_sumOf_ca kn_37 rfl x_y21 ?_
          refine ev_r1 ?_
          obtain ⟨rfl, rfl⟩ := rt2 h
          exact ev_ireturn dX4_allBehind_57 rfl q
        · replace h := it_t c19 h
          refine ev_iconst dX4_allBehind_49 (pc' := 50) (v := 2) rfl (by decide) ?_
          refine ev_goto dX4_allBehind_50 (t := 54) rfl ?_
          obtain ⟨y20, x_y20, h⟩ := ob_of h
          refine ev_invS dX4_allBehind_54 (pc' := 57) rfl sq_4_135 mt_X4_sumOf rfl ⟨_, rfl, Nat.le_of_ble_eq_true rfl, Nat.le_of_ble_eq_true rfl, rfl, rfl⟩ ?_
          refine X4_sumOf_ca kn_37 rfl x_y20 ?_
          refine ev_r1 ?_
          obtain ⟨rfl, rfl⟩ := rt2 h
          exact ev_ireturn dX4_allBehind_57 rfl q
    · replace h := it_t c3 h
      refine ev_bipush dX4_allBehind_18 (pc' := 20) (v := (-2)) rfl (by decide) ?_
      refine ev_istore_n dX4_allBehind_20 (pc' := 21) (ls' := [some (.ref 35), some (.int a1), some (.int a2), some (.int (-2)), none, none]) rfl (Nat.le_of_ble_eq_true rfl) rfl ?_
      refine ev_iload_n dX4_allBehind_21 (pc' := 22) rfl rfl ?_
      refine ev_if_eq dX4_allBehind_22 (pc' := 25) rfl (t := 31) rfl (fun q => absurd q (by decide)) (fun _ => ?_)
      refine ev_aload_n dX4_allBehind_25 (pc' := 26) rfl rfl ?_
      refine ev_iload_n dX4_allBehind_26 (pc' := 27) rfl rfl ?_
      obtain ⟨y4, m5, x_y4, h⟩ := ob2_of h
      refine ev_invV dX4_allBehind_27 (pc' := 30) rfl sq_4_36 mt_X4_no rfl (arecv_ob (x := 35) rfl rfl (by decide) kn_35) ⟨_, rfl, Nat.le_of_ble_eq_true rfl, Nat.le_of_ble_eq_true rfl, rfl, rfl⟩ ?_
      refine X4_no_ca  x_y4 ?_
      refine ev_r1 ?_
      obtain ⟨rfl, rfl⟩ := rt2 h
      exact ev_ireturn dX4_allBehind_30 rfl q
def X4_gcd_L6   : Nat → Int64 → Int64 → Option Int64
  | 0, _, _ => none
  | n + 1, w1, w2 => if (lg_cmp w2 0) = 0 then (some w1) else (gd (¬ w2 = 0) (nm (airemL w1 w2) (fun v6 => X4_gcd_L6  n w2 v6)))
def X4_gcd (a1 : Int64) (a2 : Int64) : Option Int64 := X4_gcd_L6  LF a1 a2
set_option maxRecDepth 100000 in
set_option maxHeartbeats 8000000 in
theorem X4_gcd_L6_ev {S : Sc} {d : Nat}   {m3 : Mm} {rr : Int64} {Q : Po}  (q : Q (some (.long rr)) m3) : ∀ (n : Nat) (w1 : Int64) (w2 : Int64), X4_gcd_L6  n w1 w2 = some rr → Ev S (d + 0) 4 cX4_gcd (some .long) 6 [none, none, none, none, some (.long w1), none, some (.long w2), none, none, none] [] m3 Q := by
  intro n
  induction n with
  | zero => intro w1 w2 h; cases h
  | succ n ih =>
    intro w1 w2 h
    unfold X4_gcd_L6 at h
    refine ev_lload dX4_gcd_6 (pc' := 8) rfl rfl ?_
    refine ev_lconst dX4_gcd_8 (pc' := 9) (v := 0) rfl (by decide) ?_
    refine ev_lcmp dX4_gcd_9 (pc' := 10) rfl ?_
    refine ev_if_eq dX4_gcd_10 (pc' := 13) rfl (t := 31) rfl (fun c4 => ?_) (fun c4 => ?_)
    · replace h := it_t c4 h
      refine ev_lload dX4_gcd_31 (pc' := 33) rfl rfl ?_
      obtain rfl := rt1 h
      exact ev_lreturn dX4_gcd_33 rfl q
    · replace h := it_f c4 h
      refine ev_lload dX4_gcd_13 (pc' := 15) rfl rfl ?_
      refine ev_lload dX4_gcd_15 (pc' := 17) rfl rfl ?_
      obtain ⟨g5, h⟩ := gd_of h
      refine ev_lrem dX4_gcd_17 (pc' := 18) rfl g5 ?_
      refine ev_topl (fun v6 e_v6 => ?_)
      replace h := nm_at e_v6 h
      refine ev_lstore dX4_gcd_18 (pc' := 20) (ls' := [none, none, none, none, some (.long w1), none, some (.long w2), none, some (.long v6), none]) rfl (Nat.le_of_ble_eq_true rfl) rfl ?_
      refine ev_lload dX4_gcd_20 (pc' := 22) rfl rfl ?_
      refine ev_lstore dX4_gcd_22 (pc' := 24) (ls' := [none, none, none, none, some (.long w2), none, some (.long w2), none, some (.long v6), none]) rfl (Nat.le_of_ble_eq_true rfl) rfl ?_
      refine ev_lload dX4_gcd_24 (pc' := 26) rfl rfl ?_
      refine ev_lstore dX4_gcd_26 (pc' := 28) (ls' := [none, none, none, none, some (.long w2), none, some (.long v6), none, some (.long v6), none]) rfl (Nat.le_of_ble_eq_true rfl) rfl ?_
      refine ev_goto dX4_gcd_28 (t := 6) rfl ?_
      exact ev_sub (lsub_c (lsub_c (lsub_c (lsub_c (lsub_c (lsub_c (lsub_c (lsub_c (lsub_n (lsub_c lsub_nil)))))))))) (ih w2 v6 h)
set_option maxRecDepth 100000 in
set_option maxHeartbeats 8000000 in
theorem X4_gcd_ca {S : Sc} {d : Nat} {a1 : Int64} {a2 : Int64} {mem : Mm} {rr : Int64} {Q : Po}  (h : X4_gcd a1 a2 = some rr) (q : Q (some (.long rr)) mem) : Ca S (d + 1) 146 [.long a1, .long a2] mem Q := by
  unfold X4_gcd at h
  refine ca_in (by decide) mt_X4_gcd (Nat.le_of_ble_eq_true rfl) ?_
  show Ev S (d + 0) 4 cX4_gcd (some .long) 0 [some (.long a1), none, some (.long a2), none, none, none, none, none, none, none] [] mem Q
  refine ev_lload_n dX4_gcd_0 (pc' := 1) rfl rfl ?_
  refine ev_lstore dX4_gcd_1 (pc' := 3) (ls' := [some (.long a1), none, some (.long a2), none, some (.long a1), none, none, none, none, none]) rfl (Nat.le_of_ble_eq_true rfl) rfl ?_
  refine ev_lload_n dX4_gcd_3 (pc' := 4) rfl rfl ?_
  refine ev_lstore dX4_gcd_4 (pc' := 6) (ls' := [some (.long a1), none, some (.long a2), none, some (.long a1), none, some (.long a2), none, none, none]) rfl (Nat.le_of_ble_eq_true rfl) rfl ?_
  exact ev_sub (lsub_n (lsub_c (lsub_n (lsub_c (lsub_c (lsub_c (lsub_c (lsub_c (lsub_c (lsub_c lsub_nil)))))))))) (X4_gcd_L6_ev  q LF a1 a2 h)
def X4_partOf (a1 : Int64) (a2 : Int64) (a3 : Int32) : Option Int64 := if (lg_cmp a1 0) = 0 then (some (a3).toInt64) else (if a3 = 0 then (ob (X4_gcd a1 a2) (fun y3 => gd (¬ y3 = 0) (some (a1 / y3)))) else (ob (X4_gcd a1 a2) (fun y5 => gd (¬ y5 = 0) (some (a2 / y5)))))
set_option maxRecDepth 100000 in
set_option maxHeartbeats 8000000 in
theorem X4_partOf_ca {S : Sc} {d : Nat} {a1 : Int64} {a2 : Int64} {a3 : Int32} {mem : Mm} {rr : Int64} {Q : Po}  (h : X4_partOf a1 a2 a3 = some rr) (q : Q (some (.long rr)) mem) : Ca S (d + 2) 147 [.long a1, .long a2, .int a3] mem Q := by
  unfold X4_partOf at h
  refine ca_in (by decide) mt_X4_partOf (Nat.le_of_ble_eq_true rfl) ?_
  show Ev S (d + 1) 4 cX4_partOf (some .long) 0 [some (.long a1), none, some (.long a2), none, some (.int a3)] [] mem Q
  refine ev_lload_n dX4_partOf_0 (pc' := 1) rfl rfl ?_
  refine ev_lconst dX4_partOf_1 (pc' := 2) (v := 0) rfl (by decide) ?_
  refine ev_lcmp dX4_partOf_2 (pc' := 3) rfl ?_
  refine ev_if_ne dX4_partOf_3 (pc' := 6) rfl (t := 10) rfl (fun c1 => ?_) (fun c1 => ?_)
  · replace h := it_f c1 h
    refine ev_iload dX4_partOf_10 (pc' := 12) rfl rfl ?_
    refine ev_if_ne dX4_partOf_12 (pc' := 15) rfl (t := 19) rfl (fun c2 => ?_) (fun c2 => ?_)
    · replace h := it_f c2 h
      refine ev_lload_n dX4_partOf_19 (pc' := 20) rfl rfl ?_
      refine ev_lload_n dX4_partOf_20 (pc' := 21) rfl rfl ?_
      refine ev_lload_n dX4_partOf_21 (pc' := 22) rfl rfl ?_
      obtain ⟨y5, x_y5, h⟩ := ob_of h
      refine ev_invS dX4_partOf_22 (pc' := 25) rfl sq_4_138 mt_X4_gcd rfl ⟨_, rfl, Nat.le_of_ble_eq_true rfl, Nat.le_of_ble_eq_true rfl, rfl, rfl⟩ ?_
      refine X4_gcd_ca  x_y5 ?_
      refine ev_r1 ?_
      obtain ⟨g6, h⟩ := gd_of h
      refine ev_ldiv dX4_partOf_25 (pc' := 26) rfl g6 ?_
      obtain rfl := rt1 h
      exact ev_lreturn dX4_partOf_26 rfl q
    · replace h := it_t c2 h
      refine ev_lload_n dX4_partOf_15 (pc' := 16) rfl rfl ?_
      refine ev_goto dX4_partOf_16 (t := 20) rfl ?_
      refine ev_lload_n dX4_partOf_20 (pc' := 21) rfl rfl ?_
      refine ev_lload_n dX4_partOf_21 (pc' := 22) rfl rfl ?_
      obtain ⟨y3, x_y3, h⟩ := ob_of h
      refine ev_invS dX4_partOf_22 (pc' := 25) rfl sq_4_138 mt_X4_gcd rfl ⟨_, rfl, Nat.le_of_ble_eq_true rfl, Nat.le_of_ble_eq_true rfl, rfl, rfl⟩ ?_
      refine X4_gcd_ca  x_y3 ?_
      refine ev_r1 ?_
      obtain ⟨g4, h⟩ := gd_of h
      refine ev_ldiv dX4_partOf_25 (pc' := 26) rfl g4 ?_
      obtain rfl := rt1 h
      exact ev_lreturn dX4_partOf_26 rfl q
  · replace h := it_t c1 h
    refine ev_iload dX4_partOf_6 (pc' := 8) rfl rfl ?_
    refine ev_i2l dX4_partOf_8 (pc' := 9) rfl ?_
    obtain rfl := rt1 h
    exact ev_lreturn dX4_partOf_9 rfl q
def X4_theirs (_o : Nat) (a1 : Int32) (a2 : Int32) (a3 : Int32) (mem : Mm) : Option (Int64 × Mm) := if a1 = (-1) then (nm (X4_wrongYears a2) (fun v2 => if v2 = 0 then (if (X4_isIn a3 0 1) = 0 then (ob2 (X4_noWide 35 (-2) mem) (fun y5 m6 => some (y5, m6))) else (ob (X4_inMind 35 a2 mem) (fun m7 => if 0 ≤ a1 then (gd (vin (X4_at a1 5) 47) (nm (m7 37 ((X4_at a1 5)).toNatClampNeg) (fun v10 => gd (vin (X4_at a1 2) 47) (nm (m7 37 ((X4_at a1 2)).toNatClampNeg) (fun v12 => ob (X4_partOf (v10).toInt64 ((v10 + v12)).toInt64 a3) (fun y13 => some (y13, m7))))))) else (ob (X4_sumOf 37 5 m7) (fun y14 => ob (X4_sumOf 37 2 m7) (fun y15 => ob (X4_partOf (y14).toInt64 ((y14 + y15)).toInt64 a3) (fun y16 => some (y16, m7)))))))) else (ob2 (X4_noWide 35 v2 mem) (fun y17 m18 => some (y17, m18))))) else (if (X4_isCask 35 a1 mem) = 0 then (ob2 (X4_noWide 35 (-1) mem) (fun y20 m21 => some (y20, m21))) else (nm (X4_wrongYears a2) (fun v22 => if v22 = 0 then (if (X4_isIn a3 0 1) = 0 then (ob2 (X4_noWide 35 (-2) mem) (fun y25 m26 => some (y25, m26))) else (ob (X4_inMind 35 a2 mem) (fun m27 => if 0 ≤ a1 then (gd (vin (X4_at a1 5) 47) (nm (m27 37 ((X4_at a1 5)).toNatClampNeg) (fun v30 => gd (vin (X4_at a1 2) 47) (nm (m27 37 ((X4_at a1 2)).toNatClampNeg) (fun v32 => ob (X4_partOf (v30).toInt64 ((v30 + v32)).toInt64 a3) (fun y33 => some (y33, m27))))))) else (ob (X4_sumOf 37 5 m27) (fun y34 => ob (X4_sumOf 37 2 m27) (fun y35 => ob (X4_partOf (y34).toInt64 ((y34 + y35)).toInt64 a3) (fun y36 => some (y36, m27)))))))) else (ob2 (X4_noWide 35 v22 mem) (fun y37 m38 => some (y37, m38))))))
set_option maxRecDepth 100000 in
set_option maxHeartbeats 8000000 in
theorem X4_theirs_ca {S : Sc} {d : Nat} {a1 : Int32} {a2 : Int32} {a3 : Int32} {mem : Mm} {rr : Int64} {mr : Mm} {Q : Po}  (h : X4_theirs 35 a1 a2 a3 mem = some (rr, mr)) (q : Q (some (.long rr)) mr) : Ca S (d + 7) 148 [.ref 35, .int a1, .int a2, .int a3] mem Q := by
  unfold X4_theirs at h
  refine ca_in (by decide) mt_X4_theirs (Nat.le_of_ble_eq_true rfl) ?_
  show Ev S (d + 6) 4 cX4_theirs (some .long) 0 [some (.ref 35), some (.int a1), some (.int a2), some (.int a3), none, none, none] [] mem Q
  refine ev_iload_n dX4_theirs_0 (pc' := 1) rfl rfl ?_
  refine ev_iconst dX4_theirs_1 (pc' := 2) (v := (-1)) rfl (by decide) ?_
  refine ev_icmp_eq dX4_theirs_2 (pc' := 5) rfl (t := 17) rfl (fun c1 => ?_) (fun c1 => ?_)
  · replace h := it_t c1 h
    refine ev_iload_n dX4_theirs_17 (pc' := 18) rfl rfl ?_
    refine ev_invS dX4_theirs_18 (pc' := 21) rfl sq_4_128 mt_X4_wrongYears rfl ⟨_, rfl, Nat.le_of_ble_eq_true rfl, Nat.le_of_ble_eq_true rfl, rfl, rfl⟩ ?_
    refine X4_wrongYears_ca  rfl ?_
    refine ev_r1 ?_
    refine ev_topi (fun v2 e_v2 => ?_)
    replace h := nm_at e_v2 h
    refine ev_istore dX4_theirs_21 (pc' := 23) (ls' := [some (.ref 35), some (.int a1), some (.int a2), some (.int a3), some (.int v2), none, none]) rfl (Nat.le_of_ble_eq_true rfl) rfl ?_
    refine ev_iload dX4_theirs_23 (pc' := 25) rfl rfl ?_
    refine ev_if_ne dX4_theirs_25 (pc' := 28) rfl (t := 41) rfl (fun c3 => ?_) (fun c3 => ?_)
    · replace h := it_f c3 h
      refine ev_iload dX4_theirs_41 (pc' := 43) rfl rfl ?_
      refine ev_if_eq dX4_theirs_43 (pc' := 46) rfl (t := 53) rfl (fun q => absurd q c3) (fun _ => ?_)
      refine ev_aload_n dX4_theirs_46 (pc' := 47) rfl rfl ?_
      refine ev_iload dX4_theirs_47 (pc' := 49) rfl rfl ?_
      obtain ⟨y17, m18, x_y17, h⟩ := ob2_of h
      refine ev_invV dX4_theirs_49 (pc' := 52) rfl sq_4_142 mt_X4_noWide rfl (arecv_ob (x := 35) rfl rfl (by decide) kn_35) ⟨_, rfl, Nat.le_of_ble_eq_true rfl, Nat.le_of_ble_eq_true rfl, rfl, rfl⟩ ?_
      refine X4_noWide_ca  x_y17 ?_
      refine ev_r1 ?_
      obtain ⟨rfl, rfl⟩ := rt2 h
      exact ev_lreturn dX4_theirs_52 rfl q
    · replace h := it_t c3 h
      refine ev_iload_n dX4_theirs_28 (pc' := 29) rfl rfl ?_
      refine ev_iconst dX4_theirs_29 (pc' := 30) (v := 0) rfl (by decide) ?_
      refine ev_iconst dX4_theirs_30 (pc' := 31) (v := 1) rfl (by decide) ?_
      refine ev_invS dX4_theirs_31 (pc' := 34) rfl sq_4_40 mt_X4_isIn rfl ⟨_, rfl, Nat.le_of_ble_eq_true rfl, Nat.le_of_ble_eq_true rfl, rfl, rfl⟩ ?_
      refine X4_isIn_ca  rfl ?_
      refine ev_r1 ?_
      refine ev_if_ne dX4_theirs_34 (pc' := 37) rfl (t := 41) rfl (fun c4 => ?_) (fun c4 => ?_)
      · replace h := it_f c4 h
        refine ev_iload dX4_theirs_41 (pc' := 43) rfl rfl ?_
        refine ev_if_eq dX4_theirs_43 (pc' := 46) rfl (t := 53) rfl (fun _ => ?_) (fun q => absurd c3 q)
        refine ev_aload_n dX4_theirs_53 (pc' := 54) rfl rfl ?_
        refine ev_iload_n dX4_theirs_54 (pc' := 55) rfl rfl ?_
        obtain ⟨m7, x_m7, h⟩ := ob_of h
        refine ev_invV dX4_theirs_55 (pc' := 58) rfl sq_4_131 mt_X4_inMind rfl (arecv_ob (x := 35) rfl rfl (by decide) kn_35) ⟨_, rfl, Nat.le_of_ble_eq_true rfl, Nat.le_of_ble_eq_true rfl, rfl, rfl⟩ ?_
        refine X4_inMind_ca  x_m7 ?_
        refine ev_r0 ?_
        refine ev_iload_n dX4_theirs_58 (pc' := 59) rfl rfl ?_
        refine ev_if_ge dX4_theirs_59 (pc' := 62) rfl (t := 73) rfl (fun c8 => ?_) (fun c8 => ?_)
        · replace h := it_t c8 h
          refine ev_aload_n dX4_theirs_73 (pc' := 74) rfl rfl ?_
          refine ev_getR (y := 37) dX4_theirs_74 (pc' := 77) rfl fq_4_13 kn_35 rfl ?_
          refine ev_iload_n dX4_theirs_77 (pc' := 78) rfl rfl ?_
          refine ev_iconst dX4_theirs_78 (pc' := 79) (v := 5) rfl (by decide) ?_
          refine ev_invS dX4_theirs_79 (pc' := 82) rfl sq_4_44 mt_X4_at rfl ⟨_, rfl, Nat.le_of_ble_eq_true rfl, Nat.le_of_ble_eq_true rfl, rfl, rfl⟩ ?_
          refine X4_at_ca  rfl ?_
          refine ev_r1 ?_
          obtain ⟨g9, h⟩ := gd_of h
          refine ev_ialdK (k0 := ((X4_at a1 5)).toNatClampNeg) dX4_theirs_82 (pc' := 83) rfl kn_37 g9 rfl ?_
          refine ev_topi (fun v10 e_v10 => ?_)
          replace h := nm_at e_v10 h
          refine ev_istore dX4_theirs_83 (pc' := 85) (ls' := [some (.ref 35), some (.int a1), some (.int a2), some (.int a3), some (.int v2), some (.int v10), none]) rfl (Nat.le_of_ble_eq_true rfl) rfl ?_
          refine ev_iload_n dX4_theirs_85 (pc' := 86) rfl rfl ?_
          refine ev_if_ge dX4_theirs_86 (pc' := 89) rfl (t := 100) rfl (fun _ => ?_) (fun q => absurd c8 q)
          refine ev_aload_n dX4_theirs_100 (pc' := 101) rfl rfl ?_
          refine ev_getR (y := 37) dX4_theirs_101 (pc' := 104) rfl fq_4_13 kn_35 rfl ?_
          refine ev_iload_n dX4_theirs_104 (pc' := 105) rfl rfl ?_
          refine ev_iconst dX4_theirs_105 (pc' := 106) (v := 2) rfl (by decide) ?_
          refine ev_invS dX4_theirs_106 (pc' := 109) rfl sq_4_44 mt_X4_at rfl ⟨_, rfl, Nat.le_of_ble_eq_true rfl, Nat.le_of_ble_eq_true rfl, rfl, rfl⟩ ?_
          refine X4_at_ca  rfl ?_
          refine ev_r1 ?_
          obtain ⟨g11, h⟩ := gd_of h
          refine ev_ialdK (k0 := ((X4_at a1 2)).toNatClampNeg) dX4_theirs_109 (pc' := 110) rfl kn_37 g11 rfl ?_
          refine ev_topi (fun v12 e_v12 => ?_)
          replace h := nm_at e_v12 h
          refine ev_istore dX4_theirs_110 (pc' := 112) (ls' := [some (.ref 35), some (.int a1), some (.int a2), some (.int a3), some (.int v2), some (.int v10), some (.int v12)]) rfl (Nat.le_of_ble_eq_true rfl) rfl ?_
          refine ev_iload dX4_theirs_112 (pc' := 114) rfl rfl ?_
          refine ev_i2l dX4_theirs_114 (pc' := 115) rfl ?_
          refine ev_iload dX4_theirs_115 (pc' := 117) rfl rfl ?_
          refine ev_iload dX4_theirs_117 (pc' := 119) rfl rfl ?_
          refine ev_iadd dX4_theirs_119 (pc' := 120) rfl ?_
          refine ev_i2l dX4_theirs_120 (pc' := 121) rfl ?_
          refine ev_iload_n dX4_theirs_121 (pc' := 122) rfl rfl ?_
          obtain ⟨y13, x_y13, h⟩ := ob_of h
          refine ev_invS dX4_theirs_122 (pc' := 125) rfl sq_4_146 mt_X4_partOf rfl ⟨_, rfl, Nat.le_of_ble_eq_true rfl, Nat.le_of_ble_eq_true rfl, rfl, rfl⟩ ?_
          refine X4_partOf_ca  x_y13 ?_
          refine ev_r1 ?_
          obtain ⟨rfl, rfl⟩ := rt2 h
          exact ev_lreturn dX4_theirs_125 rfl q
        · replace h := it_f c8 h
          refine ev_aload_n dX4_theirs_62 (pc' := 63) rfl rfl ?_
          refine ev_getR (y := 37) dX4_theirs_63 (pc' := 66) rfl fq_4_13 kn_35 rfl ?_
          refine ev_iconst dX4_theirs_66 (pc' := 67) (v := 5) rfl (by decide) ?_
          obtain ⟨y14, x_y14, h⟩ := ob_of h
          refine ev_invS dX4_theirs_67 (pc' := 70) rfl sq_4_135 mt_X4_sumOf rfl ⟨_, rfl, Nat.le_of_ble_eq_true rfl, Nat.le_of_ble_eq_true rfl, rfl, rfl⟩ ?_
          refine X4_sumOf_ca kn_37 rfl x_y14 ?_
          refine ev_r1 ?_
          refine ev_goto dX4_theirs_70 (t := 83) rfl ?_
          refine ev_istore dX4_theirs_83 (pc' := 85) (ls' := [some (.ref 35), some (.int a1), some (.int a2), some (.int a3), some (.int v2), some (.int y14), none]) rfl (Nat.le_of_ble_eq_true rfl) rfl ?_
          refine ev_iload_n dX4_theirs_85 (pc' := 86) rfl rfl ?_
          refine ev_if_ge dX4_theirs_86 (pc' := 89) rfl (t := 100) rfl (fun q => absurd q c8) (fun _ => ?_)
          refine ev_aload_n dX4_theirs_89 (pc' := 90) rfl rfl ?_
          refine ev_getR (y := 37) dX4_theirs_90 (pc' := 93) rfl fq_4_13 kn_35 rfl ?_
          refine ev_iconst dX4_theirs_93 (pc' := 94) (v := 2) rfl (by decide) ?_
          obtain ⟨y15, x_y15, h⟩ := ob_of h
          refine ev_invS dX4_theirs_94 (pc' := 97) rfl sq_4_135 mt_X4_sumOf rfl ⟨_, rfl, Nat.le_of_ble_eq_true rfl, Nat.le_of_ble_eq_true rfl, rfl, rfl⟩ ?_
          refine X4_sumOf_ca kn_37 rfl x_y15 ?_
          refine ev_r1 ?_
          refine ev_goto dX4_theirs_97 (t := 110) rfl ?_
          refine ev_istore dX4_theirs_110 (pc' := 112) (ls' := [some (.ref 35), some (.int a1), some (.int a2), some (.int a3), some (.int v2), some (.int y14), some (.int y15)]) rfl (Nat.le_of_ble_eq_true rfl) rfl ?_
          refine ev_iload dX4_theirs_112 (pc' := 114) rfl rfl ?_
          refine ev_i2l dX4_theirs_114 (pc' := 115) rfl ?_
          refine ev_iload dX4_theirs_115 (pc' := 117) rfl rfl ?_
          refine ev_iload dX4_theirs_117 (pc' := 119) rfl rfl ?_
          refine ev_iadd dX4_theirs_119 (pc' := 120) rfl ?_
          refine ev_i2l dX4_theirs_120 (pc' := 121) rfl ?_
          refine ev_iload_n dX4_theirs_121 (pc' := 122) rfl rfl ?_
          obtain ⟨y16, x_y16, h⟩ := ob_of h
          refine ev_invS dX4_theirs_122 (pc' := 125) rfl sq_4_146 mt_X4_partOf rfl ⟨_, rfl, Nat.le_of_ble_eq_true rfl, Nat.le_of_ble_eq_true rfl, rfl, rfl⟩ ?_
          refine X4_partOf_ca  x_y16 ?_
          refine ev_r1 ?_
          obtain ⟨rfl, rfl⟩ := rt2 h
          exact ev_lreturn dX4_theirs_125 rfl q
      · replace h := it_t c4 h
        refine ev_bipush dX4_theirs_37 (pc' := 39) (v := (-2)) rfl (by decide) ?_
        refine ev_istore dX4_theirs_39 (pc' := 41) (ls' := [some (.ref 35), some (.int a1), some (.int a2), some (.int a3), some (.int (-2)), none, none]) rfl (Nat.le_of_ble_eq_true rfl) rfl ?_
        refine ev_iload dX4_theirs_41 (pc' := 43) rfl rfl ?_
        refine ev_if_eq dX4_theirs_43 (pc' := 46) rfl (t := 53) rfl (fun q => absurd q (by decide)) (fun _ => ?_)
        refine ev_aload_n dX4_theirs_46 (pc' := 47) rfl rfl ?_
        refine ev_iload dX4_theirs_47 (pc' := 49) rfl rfl ?_
        obtain ⟨y5, m6, x_y5, h⟩ := ob2_of h
        refine ev_invV dX4_theirs_49 (pc' := 52) rfl sq_4_142 mt_X4_noWide rfl (arecv_ob (x := 35) rfl rfl (by decide) kn_35) ⟨_, rfl, Nat.le_of_ble_eq_true rfl, Nat.le_of_ble_eq_true rfl, rfl, rfl⟩ ?_
        refine X4_noWide_ca  x_y5 ?_
        refine ev_r1 ?_
        obtain ⟨rfl, rfl⟩ := rt2 h
        exact ev_lreturn dX4_theirs_52 rfl q
  · replace h := it_f c1 h
    refine ev_aload_n dX4_theirs_5 (pc' := 6) rfl rfl ?_
    refine ev_iload_n dX4_theirs_6 (pc' := 7) rfl rfl ?_
    refine ev_invV dX4_theirs_7 (pc' := 10) rfl sq_4_111 mt_X4_isCask rfl (arecv_ob (x := 35) rfl rfl (by decide) kn_35) ⟨_, rfl, Nat.le_of_ble_eq_true rfl, Nat.le_of_ble_eq_true rfl, rfl, rfl⟩ ?_
    refine X4_isCask_ca  rfl ?_
    refine ev_r1 ?_
    refine ev_if_ne dX4_theirs_10 (pc' := 13) rfl (t := 17) rfl (fun c19 => ?_) (fun c19 => ?_)
    · replace h := it_f c19 h
      refine ev_iload_n dX4_theirs_17 (pc' := 18) rfl rfl ?_
      refine ev_invS dX4_theirs_18 (pc' := 21) rfl sq_4_128 mt_X4_wrongYears rfl ⟨_, rfl, Nat.le_of_ble_eq_true rfl, Nat.le_of_ble_eq_true rfl, rfl, rfl⟩ ?_
      refine X4_wrongYears_ca  rfl ?_
      refine ev_r1 ?_
      refine ev_topi (fun v22 e_v22 => ?_)
      replace h := nm_at e_v22 h
      refine ev_istore dX4_theirs_21 (pc' := 23) (ls' := [some (.ref 35), some (.int a1), some (.int a2), some (.int a3), some (.int v22), none, none]) rfl (Nat.le_of_ble_eq_true rfl) rfl ?_
      refine ev_iload dX4_theirs_23 (pc' := 25) rfl rfl ?_
      refine ev_if_ne dX4_theirs_25 (pc' := 28) rfl (t := 41) rfl (fun c23 => ?_) (fun c23 => ?_)
      · replace h := it_f c23 h
        refine ev_iload dX4_theirs_41 (pc' := 43) rfl rfl ?_
        refine ev_if_eq dX4_theirs_43 (pc' := 46) rfl (t := 53) rfl (fun q => absurd q c23) (fun _ => ?_)
        refine ev_aload_n dX4_theirs_46 (pc' := 47) rfl rfl ?_
        refine ev_iload dX4_theirs_47 (pc' := 49) rfl rfl ?_
        obtain ⟨y37, m38, x_y37, h⟩ := ob2_of h
        refine ev_invV dX4_theirs_49 (pc' := 52) rfl sq_4_142 mt_X4_noWide rfl (arecv_ob (x := 35) rfl rfl (by decide) kn_35) ⟨_, rfl, Nat.le_of_ble_eq_true rfl, Nat.le_of_ble_eq_true rfl, rfl, rfl⟩ ?_
        refine X4_noWide_ca  x_y37 ?_
        refine ev_r1 ?_
        obtain ⟨rfl, rfl⟩ := rt2 h
        exact ev_lreturn dX4_theirs_52 rfl q
      · replace h := it_t c23 h
        refine ev_iload_n dX4_theirs_28 (pc' := 29) rfl rfl ?_
        refine ev_iconst dX4_theirs_29 (pc' := 30) (v := 0) rfl (by decide) ?_
        refine ev_iconst dX4_theirs_30 (pc' := 31) (v := 1) rfl (by decide) ?_
        refine ev_invS dX4_theirs_31 (pc' := 34) rfl sq_4_40 mt_X4_isIn rfl ⟨_, rfl, Nat.le_of_ble_eq_true rfl, Nat.le_of_ble_eq_true rfl, rfl, rfl⟩ ?_
        refine X4_isIn_ca  rfl ?_
        refine ev_r1 ?_
        refine ev_if_ne dX4_theirs_34 (pc' := 37) rfl (t := 41) rfl (fun c24 => ?_) (fun c24 => ?_)
        · replace h := it_f c24 h
          refine ev_iload dX4_theirs_41 (pc' := 43) rfl rfl ?_
          refine ev_if_eq dX4_theirs_43 (pc' := 46) rfl (t := 53) rfl (fun _ => ?_) (fun q => absurd c23 q)
          refine ev_aload_n dX4_theirs_53 (pc' := 54) rfl rfl ?_
          refine ev_iload_n dX4_theirs_54 (pc' := 55) rfl rfl ?_
          obtain ⟨m27, x_m27, h⟩ := ob_of h
          refine ev_invV dX4_theirs_55 (pc' := 58) rfl sq_4_131 mt_X4_inMind rfl (arecv_ob (x := 35) rfl rfl (by decide) kn_35) ⟨_, rfl, Nat.le_of_ble_eq_true rfl, Nat.le_of_ble_eq_true rfl, rfl, rfl⟩ ?_
          refine X4_inMind_ca  x_m27 ?_
          refine ev_r0 ?_
          refine ev_iload_n dX4_theirs_58 (pc' := 59) rfl rfl ?_
          refine ev_if_ge dX4_theirs_59 (pc' := 62) rfl (t := 73) rfl (fun c28 => ?_) (fun c28 => ?_)
          · replace h := it_t c28 h
            refine ev_aload_n dX4_theirs_73 (pc' := 74) rfl rfl ?_
            refine ev_getR (y := 37) dX4_theirs_74 (pc' := 77) rfl fq_4_13 kn_35 rfl ?_
            refine ev_iload_n dX4_theirs_77 (pc' := 78) rfl rfl ?_
            refine ev_iconst dX4_theirs_78 (pc' := 79) (v := 5) rfl (by decide) ?_
            refine ev_invS dX4_theirs_79 (pc' := 82) rfl sq_4_44 mt_X4_at rfl ⟨_, rfl, Nat.le_of_ble_eq_true rfl, Nat.le_of_ble_eq_true rfl, rfl, rfl⟩ ?_
            refine X4_at_ca  rfl ?_
            refine ev_r1 ?_
            obtain ⟨g29, h⟩ := gd_of h
            refine ev_ialdK (k0 := ((X4_at a1 5)).toNatClampNeg) dX4_theirs_82 (pc' := 83) rfl kn_37 g29 rfl ?_
            refine ev_topi (fun v30 e_v30 => ?_)
            replace h := nm_at e_v30 h
            refine ev_istore dX4_theirs_83 (pc' := 85) (ls' := [some (.ref 35), some (.int a1), some (.int a2), some (.int a3), some (.int v22), some (.int v30), none]) rfl (Nat.le_of_ble_eq_true rfl) rfl ?_
            refine ev_iload_n dX4_theirs_85 (pc' := 86) rfl rfl ?_
            refine ev_if_ge dX4_theirs_86 (pc' := 89) rfl (t := 100) rfl (fun _ => ?_) (fun q => absurd c28 q)
            refine ev_aload_n dX4_theirs_100 (pc' := 101) rfl rfl ?_
            refine ev_getR (y := 37) dX4_theirs_101 (pc' := 104) rfl fq_4_13 kn_35 rfl ?_
            refine ev_iload_n dX4_theirs_104 (pc' := 105) rfl rfl ?_
            refine ev_iconst dX4_theirs_105 (pc' := 106) (v := 2) rfl (by decide) ?_
            refine ev_invS dX4_theirs_106 (pc' := 109) rfl sq_4_44 mt_X4_at rfl ⟨_, rfl, Nat.le_of_ble_eq_true rfl, Nat.le_of_ble_eq_true rfl, rfl, rfl⟩ ?_
            refine X4_at_ca  rfl ?_
            refine ev_r1 ?_
            obtain ⟨g31, h⟩ := gd_of h
            refine ev_ialdK (k0 := ((X4_at a1 2)).toNatClampNeg) dX4_theirs_109 (pc' := 110) rfl kn_37 g31 rfl ?_
            refine ev_topi (fun v32 e_v32 => ?_)
            replace h := nm_at e_v32 h
            refine ev_istore dX4_theirs_110 (pc' := 112) (ls' := [some (.ref 35), some (.int a1), some (.int a2), some (.int a3), some (.int v22), some (.int v30), some (.int v32)]) rfl (Nat.le_of_ble_eq_true rfl) rfl ?_
            refine ev_iload dX4_theirs_112 (pc' := 114) rfl rfl ?_
            refine ev_i2l dX4_theirs_114 (pc' := 115) rfl ?_
            refine ev_iload dX4_theirs_115 (pc' := 117) rfl rfl ?_
            refine ev_iload dX4_theirs_117 (pc' := 119) rfl rfl ?_
            refine ev_iadd dX4_theirs_119 (pc' := 120) rfl ?_
            refine ev_i2l dX4_theirs_120 (pc' := 121) rfl ?_
            refine ev_iload_n dX4_theirs_121 (pc' := 122) rfl rfl ?_
            obtain ⟨y33, x_y33, h⟩ := ob_of h
            refine ev_invS dX4_theirs_122 (pc' := 125) rfl sq_4_146 mt_X4_partOf rfl ⟨_, rfl, Nat.le_of_ble_eq_true rfl, Nat.le_of_ble_eq_true rfl, rfl, rfl⟩ ?_
            refine X4_partOf_ca  x_y33 ?_
            refine ev_r1 ?_
            obtain ⟨rfl, rfl⟩ := rt2 h
            exact ev_lreturn dX4_theirs_125 rfl q
          · replace h := it_f c28 h
            refine ev_aload_n dX4_theirs_62 (pc' := 63) rfl rfl ?_
            refine ev_getR (y := 37) dX4_theirs_63 (pc' := 66) rfl fq_4_13 kn_35 rfl ?_
            refine ev_iconst dX4_theirs_66 (pc' := 67) (v := 5) rfl (by decide) ?_
            obtain ⟨y34, x_y34, h⟩ := ob_of h
            refine ev_invS dX4_theirs_67 (pc' := 70) rfl sq_4_135 mt_X4_sumOf rfl ⟨_, rfl, Nat.le_of_ble_eq_true rfl, Nat.le_of_ble_eq_true rfl, rfl, rfl⟩ ?_
            refine X4_sumOf_ca kn_37 rfl x_y34 ?_
            refine ev_r1 ?_
            refine ev_goto dX4_theirs_70 (t := 83) rfl ?_
            refine ev_istore dX4_theirs_83 (pc' := 85) (ls' := [some (.ref 35), some (.int a1), some (.int a2), some (.int a3), some (.int v22), some (.int y34), none]) rfl (Nat.le_of_ble_eq_true rfl) rfl ?_
            refine ev_iload_n dX4_theirs_85 (pc' := 86) rfl rfl ?_
            refine ev_if_ge dX4_theirs_86 (pc' := 89) rfl (t := 100) rfl (fun q => absurd q c28) (fun _ => ?_)
            refine ev_aload_n dX4_theirs_89 (pc' := 90) rfl rfl ?_
            refine ev_getR (y := 37) dX4_theirs_90 (pc' := 93) rfl fq_4_13 kn_35 rfl ?_
            refine ev_iconst dX4_theirs_93 (pc' := 94) (v := 2) rfl (by decide) ?_
            obtain ⟨y35, x_y35, h⟩ := ob_of h
            refine ev_invS dX4_theirs_94 (pc' := 97) rfl sq_4_135 mt_X4_sumOf rfl ⟨_, rfl, Nat.le_of_ble_eq_true rfl, Nat.le_of_ble_eq_true rfl, rfl, rfl⟩ ?_
            refine X4_sumOf_ca kn_37 rfl x_y35 ?_
            refine ev_r1 ?_
            refine ev_goto dX4_theirs_97 (t := 110) rfl ?_
            refine ev_istore dX4_theirs_110 (pc' := 112) (ls' := [some (.ref 35), some (.int a1), some (.int a2), some (.int a3), some (.int v22), some (.int y34), some (.int y35)]) rfl (Nat.le_of_ble_eq_true rfl) rfl ?_
            refine ev_iload dX4_theirs_112 (pc' := 114) rfl rfl ?_
            refine ev_i2l dX4_theirs_114 (pc' := 115) rfl ?_
            refine ev_iload dX4_theirs_115 (pc' := 117) rfl rfl ?_
            refine ev_iload dX4_theirs_117 (pc' := 119) rfl rfl ?_
            refine ev_iadd dX4_theirs_119 (pc' := 120) rfl ?_
            refine ev_i2l dX4_theirs_120 (pc' := 121) rfl ?_
            refine ev_iload_n dX4_theirs_121 (pc' := 122) rfl rfl ?_
            obtain ⟨y36, x_y36, h⟩ := ob_of h
            refine ev_invS dX4_theirs_122 (pc' := 125) rfl sq_4_146 mt_X4_partOf rfl ⟨_, rfl, Nat.le_of_ble_eq_true rfl, Nat.le_of_ble_eq_true rfl, rfl, rfl⟩ ?_
            refine X4_partOf_ca  x_y36 ?_
            refine ev_r1 ?_
            obtain ⟨rfl, rfl⟩ := rt2 h
            exact ev_lreturn dX4_theirs_125 rfl q
        · replace h := it_t c24 h
          refine ev_bipush dX4_theirs_37 (pc' := 39) (v := (-2)) rfl (by decide) ?_
          refine ev_istore dX4_theirs_39 (pc' := 41) (ls' := [some (.ref 35), some (.int a1), some (.int a2), some (.int a3), some (.int (-2)), none, none]) rfl (Nat.le_of_ble_eq_true rfl) rfl ?_
          refine ev_iload dX4_theirs_41 (pc' := 43) rfl rfl ?_
          refine ev_if_eq dX4_theirs_43 (pc' := 46) rfl (t := 53) rfl (fun q => absurd q (by decide)) (fun _ => ?_)
          refine ev_aload_n dX4_theirs_46 (pc' := 47) rfl rfl ?_
          refine ev_iload dX4_theirs_47 (pc' := 49) rfl rfl ?_
          obtain ⟨y25, m26, x_y25, h⟩ := ob2_of h
          refine ev_invV dX4_theirs_49 (pc' := 52) rfl sq_4_142 mt_X4_noWide rfl (arecv_ob (x := 35) rfl rfl (by decide) kn_35) ⟨_, rfl, Nat.le_of_ble_eq_true rfl, Nat.le_of_ble_eq_true rfl, rfl, rfl⟩ ?_
          refine X4_noWide_ca  x_y25 ?_
          refine ev_r1 ?_
          obtain ⟨rfl, rfl⟩ := rt2 h
          exact ev_lreturn dX4_theirs_52 rfl q
    · replace h := it_t c19 h
      refine ev_iconst dX4_theirs_13 (pc' := 14) (v := (-1)) rfl (by decide) ?_
      refine ev_goto dX4_theirs_14 (t := 21) rfl ?_
      refine ev_istore dX4_theirs_21 (pc' := 23) (ls' := [some (.ref 35), some (.int a1), some (.int a2), some (.int a3), some (.int (-1)), none, none]) rfl (Nat.le_of_ble_eq_true rfl) rfl ?_
      refine ev_iload dX4_theirs_23 (pc' := 25) rfl rfl ?_
      refine ev_if_ne dX4_theirs_25 (pc' := 28) rfl (t := 41) rfl (fun _ => ?_) (fun q => absurd q (by decide))
      refine ev_iload dX4_theirs_41 (pc' := 43) rfl rfl ?_
      refine ev_if_eq dX4_theirs_43 (pc' := 46) rfl (t := 53) rfl (fun q => absurd q (by decide)) (fun _ => ?_)
      refine ev_aload_n dX4_theirs_46 (pc' := 47) rfl rfl ?_
      refine ev_iload dX4_theirs_47 (pc' := 49) rfl rfl ?_
      obtain ⟨y20, m21, x_y20, h⟩ := ob2_of h
      refine ev_invV dX4_theirs_49 (pc' := 52) rfl sq_4_142 mt_X4_noWide rfl (arecv_ob (x := 35) rfl rfl (by decide) kn_35) ⟨_, rfl, Nat.le_of_ble_eq_true rfl, Nat.le_of_ble_eq_true rfl, rfl, rfl⟩ ?_
      refine X4_noWide_ca  x_y20 ?_
      refine ev_r1 ?_
      obtain ⟨rfl, rfl⟩ := rt2 h
      exact ev_lreturn dX4_theirs_52 rfl q
def X4_exciseOf (p1 : Nat) (a2 : Int32) (mem : Mm) : Option Int32 := gd (vin (X4_at a2 2) 47) (gd (vin (X4_at a2 5) 47) (some ((((mem p1 ((X4_at a2 2)).toNatClampNeg) + (mem p1 ((X4_at a2 5)).toNatClampNeg)) / 10) * (mem p1 4))))
set_option maxRecDepth 100000 in
set_option maxHeartbeats 8000000 in
theorem X4_exciseOf_ca {S : Sc} {d : Nat} {p1 : Nat} {a2 : Int32} {mem : Mm} {rr : Int32} {Q : Po} (h_p1 : kdp p1 5) (l_p1 : ln p1 = 47) (h : X4_exciseOf p1 a2 mem = some rr) (q : Q (some (.int rr)) mem) : Ca S (d + 2) 149 [.ref p1, .int a2] mem Q := by
  unfold X4_exciseOf at h
  refine ca_in (by decide) mt_X4_exciseOf (Nat.le_of_ble_eq_true rfl) ?_
  show Ev S (d + 1) 4 cX4_exciseOf (some .int) 0 [some (.ref p1), some (.int a2)] [] mem Q
  refine ev_aload_n dX4_exciseOf_0 (pc' := 1) rfl rfl ?_
  refine ev_iload_n dX4_exciseOf_1 (pc' := 2) rfl rfl ?_
  refine ev_iconst dX4_exciseOf_2 (pc' := 3) (v := 2) rfl (by decide) ?_
  refine ev_invS dX4_exciseOf_3 (pc' := 6) rfl sq_4_44 mt_X4_at rfl ⟨_, rfl, Nat.le_of_ble_eq_true rfl, Nat.le_of_ble_eq_true rfl, rfl, rfl⟩ ?_
  refine X4_at_ca  rfl ?_
  refine ev_r1 ?_
  obtain ⟨g1, h⟩ := gd_of h
  refine ev_ialdK (k0 := ((X4_at a2 2)).toNatClampNeg) dX4_exciseOf_6 (pc' := 7) rfl h_p1 (by rw [l_p1]; exact g1) rfl ?_
  refine ev_aload_n dX4_exciseOf_7 (pc' := 8) rfl rfl ?_
  refine ev_iload_n dX4_exciseOf_8 (pc' := 9) rfl rfl ?_
  refine ev_iconst dX4_exciseOf_9 (pc' := 10) (v := 5) rfl (by decide) ?_
  refine ev_invS dX4_exciseOf_10 (pc' := 13) rfl sq_4_44 mt_X4_at rfl ⟨_, rfl, Nat.le_of_ble_eq_true rfl, Nat.le_of_ble_eq_true rfl, rfl, rfl⟩ ?_
  refine X4_at_ca  rfl ?_
  refine ev_r1 ?_
  obtain ⟨g2, h⟩ := gd_of h
  refine ev_ialdK (k0 := ((X4_at a2 5)).toNatClampNeg) dX4_exciseOf_13 (pc' := 14) rfl h_p1 (by rw [l_p1]; exact g2) rfl ?_
  refine ev_iadd dX4_exciseOf_14 (pc' := 15) rfl ?_
  refine ev_bipush dX4_exciseOf_15 (pc' := 17) (v := 10) rfl (by decide) ?_
  refine ev_idiv dX4_exciseOf_17 (pc' := 18) rfl (by decide) ?_
  refine ev_aload_n dX4_exciseOf_18 (pc' := 19) rfl rfl ?_
  refine ev_iconst dX4_exciseOf_19 (pc' := 20) (v := 4) rfl (by decide) ?_
  refine ev_ialdK (k0 := 4) dX4_exciseOf_20 (pc' := 21) rfl h_p1 (by rw [l_p1]; decide) rfl ?_
  refine ev_imul dX4_exciseOf_21 (pc' := 22) rfl ?_
  obtain rfl := rt1 h
  exact ev_ireturn dX4_exciseOf_22 rfl q
def X4_exciseAll_L4 (p1 : Nat)  (m3 : Mm) : Nat → Int32 → Int32 → Option Int32
  | 0, _, _ => none
  | n + 1, w1, w2 => if (m3 p1 0) ≤ w2 then (some w1) else (ob (X4_exciseOf p1 w2 m3) (fun y5 => nm (w1 + y5) (fun v6 => nm (w2 + 1) (fun v7 => X4_exciseAll_L4 p1 m3 n v6 v7))))
def X4_exciseAll (p1 : Nat) (mem : Mm) : Option Int32 := X4_exciseAll_L4 p1 mem LF 0 0
set_option maxRecDepth 100000 in
set_option maxHeartbeats 8000000 in
theorem X4_exciseAll_L4_ev {S : Sc} {d : Nat} {p1 : Nat}  {m3 : Mm} {rr : Int32} {Q : Po} (h_p1 : kdp p1 5) (l_p1 : ln p1 = 47) (q : Q (some (.int rr)) m3) : ∀ (n : Nat) (w1 : Int32) (w2 : Int32), X4_exciseAll_L4 p1 m3 n w1 w2 = some rr → Ev S (d + 2) 4 cX4_exciseAll (some .int) 4 [some (.ref p1), some (.int w1), some (.int w2)] [] m3 Q := by
  intro n
  induction n with
  | zero => intro w1 w2 h; cases h
  | succ n ih =>
    intro w1 w2 h
    unfold X4_exciseAll_L4 at h
    refine ev_iload_n dX4_exciseAll_4 (pc' := 5) rfl rfl ?_
    refine ev_aload_n dX4_exciseAll_5 (pc' := 6) rfl rfl ?_
    refine ev_iconst dX4_exciseAll_6 (pc' := 7) (v := 0) rfl (by decide) ?_
    refine ev_ialdK (k0 := 0) dX4_exciseAll_7 (pc' := 8) rfl h_p1 (by rw [l_p1]; decide) rfl ?_
    refine ev_icmp_ge dX4_exciseAll_8 (pc' := 11) rfl (t := 25) rfl (fun c4 => ?_) (fun c4 => ?_)
    · replace h := it_t c4 h
      refine ev_iload_n dX4_exciseAll_25 (pc' := 26) rfl rfl ?_
      obtain rfl := rt1 h
      exact ev_ireturn dX4_exciseAll_26 rfl q
    · replace h := it_f c4 h
      refine ev_iload_n dX4_exciseAll_11 (pc' := 12) rfl rfl ?_
      refine ev_aload_n dX4_exciseAll_12 (pc' := 13) rfl rfl ?_
      refine ev_iload_n dX4_exciseAll_13 (pc' := 14) rfl rfl ?_
      obtain ⟨y5, x_y5, h⟩ := ob_of h
      refine ev_invS dX4_exciseAll_14 (pc' := 17) rfl sq_4_150 mt_X4_exciseOf rfl ⟨_, rfl, Nat.le_of_ble_eq_true rfl, Nat.le_of_ble_eq_true rfl, rfl, rfl⟩ ?_
      refine X4_exciseOf_ca h_p1 l_p1 x_y5 ?_
      refine ev_r1 ?_
      refine ev_iadd dX4_exciseAll_17 (pc' := 18) rfl ?_
      refine ev_topi (fun v6 e_v6 => ?_)
      replace h := nm_at e_v6 h
      refine ev_istore_n dX4_exciseAll_18 (pc' := 19) (ls' := [some (.ref p1), some (.int v6), some (.int w2)]) rfl (Nat.le_of_ble_eq_true rfl) rfl ?_
      obtain ⟨v7, e_v7⟩ : ∃ y : Int32, y = (w2 + 1) := ⟨_, rfl⟩
      replace h := nm_at e_v7 h
      refine ev_iinc dX4_exciseAll_19 (pc' := 22) (v := v7) (ls' := [some (.ref p1), some (.int v6), some (.int v7)]) rfl rfl (by rw [e_v7]; rfl) (Nat.le_of_ble_eq_true rfl) rfl ?_
      refine ev_goto dX4_exciseAll_22 (t := 4) rfl ?_
      exact ev_sub (lsub_c (lsub_c (lsub_c lsub_nil))) (ih v6 v7 h)
set_option maxRecDepth 100000 in
set_option maxHeartbeats 8000000 in
theorem X4_exciseAll_ca {S : Sc} {d : Nat} {p1 : Nat} {mem : Mm} {rr : Int32} {Q : Po} (h_p1 : kdp p1 5) (l_p1 : ln p1 = 47) (h : X4_exciseAll p1 mem = some rr) (q : Q (some (.int rr)) mem) : Ca S (d + 3) 150 [.ref p1] mem Q := by
  unfold X4_exciseAll at h
  refine ca_in (by decide) mt_X4_exciseAll (Nat.le_of_ble_eq_true rfl) ?_
  show Ev S (d + 2) 4 cX4_exciseAll (some .int) 0 [some (.ref p1), none, none] [] mem Q
  refine ev_iconst dX4_exciseAll_0 (pc' := 1) (v := 0) rfl (by decide) ?_
  refine ev_istore_n dX4_exciseAll_1 (pc' := 2) (ls' := [some (.ref p1), some (.int 0), none]) rfl (Nat.le_of_ble_eq_true rfl) rfl ?_
  refine ev_iconst dX4_exciseAll_2 (pc' := 3) (v := 0) rfl (by decide) ?_
  refine ev_istore_n dX4_exciseAll_3 (pc' := 4) (ls' := [some (.ref p1), some (.int 0), some (.int 0)]) rfl (Nat.le_of_ble_eq_true rfl) rfl ?_
  exact ev_sub (lsub_c (lsub_c (lsub_c lsub_nil))) (X4_exciseAll_L4_ev h_p1 l_p1 q LF 0 0 h)
def X4_excise (_o : Nat) (a1 : Int32) (mem : Mm) : Option (Int32 × Mm) := if a1 = (-1) then (ob (X4_exciseAll 36 mem) (fun y2 => some (y2, mem))) else (if (X4_isCask 35 a1 mem) = 0 then (ob2 (X4_no 35 (-1) mem) (fun y4 m5 => some (y4, m5))) else (ob (X4_exciseOf 36 a1 mem) (fun y6 => some (y6, mem))))
set_option maxRecDepth 100000 in
set_option maxHeartbeats 8000000 in
theorem X4_excise_ca {S : Sc} {d : Nat} {a1 : Int32} {mem : Mm} {rr : Int32} {mr : Mm} {Q : Po}  (h : X4_excise 35 a1 mem = some (rr, mr)) (q : Q (some (.int rr)) mr) : Ca S (d + 4) 151 [.ref 35, .int a1] mem Q := by
  unfold X4_excise at h
  refine ca_in (by decide) mt_X4_excise (Nat.le_of_ble_eq_true rfl) ?_
  show Ev S (d + 3) 4 cX4_excise (some .int) 0 [some (.ref 35), some (.int a1)] [] mem Q
  refine ev_iload_n dX4_excise_0 (pc' := 1) rfl rfl ?_
  refine ev_iconst dX4_excise_1 (pc' := 2) (v := (-1)) rfl (by decide) ?_
  refine ev_icmp_ne dX4_excise_2 (pc' := 5) rfl (t := 13) rfl (fun c1 => ?_) (fun c1 => ?_)
  · replace h := it_f c1 h
    refine ev_aload_n dX4_excise_13 (pc' := 14) rfl rfl ?_
    refine ev_iload_n dX4_excise_14 (pc' := 15) rfl rfl ?_
    refine ev_invV dX4_excise_15 (pc' := 18) rfl sq_4_111 mt_X4_isCask rfl (arecv_ob (x := 35) rfl rfl (by decide) kn_35) ⟨_, rfl, Nat.le_of_ble_eq_true rfl, Nat.le_of_ble_eq_true rfl, rfl, rfl⟩ ?_
    refine X4_isCask_ca  rfl ?_
    refine ev_r1 ?_
    refine ev_if_eq dX4_excise_18 (pc' := 21) rfl (t := 32) rfl (fun c3 => ?_) (fun c3 => ?_)
    · replace h := it_t c3 h
      refine ev_aload_n dX4_excise_32 (pc' := 33) rfl rfl ?_
      refine ev_iconst dX4_excise_33 (pc' := 34) (v := (-1)) rfl (by decide) ?_
      obtain ⟨y4, m5, x_y4, h⟩ := ob2_of h
      refine ev_invV dX4_excise_34 (pc' := 37) rfl sq_4_36 mt_X4_no rfl (arecv_ob (x := 35) rfl rfl (by decide) kn_35) ⟨_, rfl, Nat.le_of_ble_eq_true rfl, Nat.le_of_ble_eq_true rfl, rfl, rfl⟩ ?_
      refine X4_no_ca  x_y4 ?_
      refine ev_r1 ?_
      obtain ⟨rfl, rfl⟩ := rt2 h
      exact ev_ireturn dX4_excise_37 rfl q
    · replace h := it_f c3 h
      refine ev_aload_n dX4_excise_21 (pc' := 22) rfl rfl ?_
      refine ev_getR (y := 36) dX4_excise_22 (pc' := 25) rfl fq_4_9 kn_35 rfl ?_
      refine ev_iload_n dX4_excise_25 (pc' := 26) rfl rfl ?_
      obtain ⟨y6, x_y6, h⟩ := ob_of h
      refine ev_invS dX4_excise_26 (pc' := 29) rfl sq_4_150 mt_X4_exciseOf rfl ⟨_, rfl, Nat.le_of_ble_eq_true rfl, Nat.le_of_ble_eq_true rfl, rfl, rfl⟩ ?_
      refine X4_exciseOf_ca kn_36 rfl x_y6 ?_
      refine ev_r1 ?_
      refine ev_goto dX4_excise_29 (t := 37) rfl ?_
      obtain ⟨rfl, rfl⟩ := rt2 h
      exact ev_ireturn dX4_excise_37 rfl q
  · replace h := it_t c1 h
    refine ev_aload_n dX4_excise_5 (pc' := 6) rfl rfl ?_
    refine ev_getR (y := 36) dX4_excise_6 (pc' := 9) rfl fq_4_9 kn_35 rfl ?_
    obtain ⟨y2, x_y2, h⟩ := ob_of h
    refine ev_invS dX4_excise_9 (pc' := 12) rfl sq_4_153 mt_X4_exciseAll rfl ⟨_, rfl, Nat.le_of_ble_eq_true rfl, Nat.le_of_ble_eq_true rfl, rfl, rfl⟩ ?_
    refine X4_exciseAll_ca kn_36 rfl x_y2 ?_
    refine ev_r1 ?_
    obtain ⟨rfl, rfl⟩ := rt2 h
    exact ev_ireturn dX4_excise_12 rfl q
def X4_exciseIn_L31  (a4 : Int32) : Nat → Int32 → Int32 → Mm → Option (Int32 × Mm)
  | 0, _, _, _ => none
  | n + 1, w5, w6, m7 => if a4 ≤ w6 then (some (w5, m7)) else (ob (X4_year 35 37 m7) (fun m9 => ob (X4_exciseAll 37 m9) (fun y10 => nm (w5 + y10) (fun v11 => nm (w6 + 1) (fun v12 => X4_exciseIn_L31 a4 n v11 v12 m9)))))
def X4_exciseIn (_o : Nat) (a1 : Int32) (mem : Mm) : Option (Int32 × Mm) := nm (X4_wrongYears a1) (fun v1 => if v1 = 0 then (ob (X4_lays 36 37 mem) (fun m3 => X4_exciseIn_L31 a1 LF 0 0 m3)) else (ob2 (X4_no 35 v1 mem) (fun y13 m14 => some (y13, m14))))
set_option maxRecDepth 100000 in
set_option maxHeartbeats 8000000 in
theorem X4_exciseIn_L31_ev {S : Sc} {d : Nat}  {a4 : Int32} {rr : Int32} {mr : Mm} {Q : Po}  (q : Q (some (.int rr)) mr) : ∀ (n : Nat) (w5 : Int32) (w6 : Int32) (m7 : Mm), X4_exciseIn_L31 a4 n w5 w6 m7 = some (rr, mr) → Ev S (d + 4) 4 cX4_exciseIn (some .int) 31 [some (.ref 35), some (.int a4), none, some (.int w5), some (.int w6)] [] m7 Q := by
  intro n
  induction n with
  | zero => intro w5 w6 m7 h; cases h
  | succ n ih =>
    intro w5 w6 m7 h
    unfold X4_exciseIn_L31 at h
    refine ev_iload dX4_exciseIn_31 (pc' := 33) rfl rfl ?_
    refine ev_iload_n dX4_exciseIn_33 (pc' := 34) rfl rfl ?_
    refine ev_icmp_ge dX4_exciseIn_34 (pc' := 37) rfl (t := 61) rfl (fun c8 => ?_) (fun c8 => ?_)
    · replace h := it_t c8 h
      refine ev_iload_n dX4_exciseIn_61 (pc' := 62) rfl rfl ?_
      obtain ⟨rfl, rfl⟩ := rt2 h
      exact ev_ireturn dX4_exciseIn_62 rfl q
    · replace h := it_f c8 h
      refine ev_aload_n dX4_exciseIn_37 (pc' := 38) rfl rfl ?_
      refine ev_aload_n dX4_exciseIn_38 (pc' := 39) rfl rfl ?_
      refine ev_getR (y := 37) dX4_exciseIn_39 (pc' := 42) rfl fq_4_13 kn_35 rfl ?_
      obtain ⟨m9, x_m9, h⟩ := ob_of h
      refine ev_invV dX4_exciseIn_42 (pc' := 45) rfl sq_4_74 mt_X4_year rfl (arecv_ob (x := 35) rfl rfl (by decide) kn_35) ⟨_, rfl, Nat.le_of_ble_eq_true rfl, Nat.le_of_ble_eq_true rfl, rfl, rfl⟩ ?_
      refine X4_year_ca kn_37 rfl x_m9 ?_
      refine ev_r0 ?_
      refine ev_iload_n dX4_exciseIn_45 (pc' := 46) rfl rfl ?_
      refine ev_aload_n dX4_exciseIn_46 (pc' := 47) rfl rfl ?_
      refine ev_getR (y := 37) dX4_exciseIn_47 (pc' := 50) rfl fq_4_13 kn_35 rfl ?_
      obtain ⟨y10, x_y10, h⟩ := ob_of h
      refine ev_invS dX4_exciseIn_50 (pc' := 53) rfl sq_4_153 mt_X4_exciseAll rfl ⟨_, rfl, Nat.le_of_ble_eq_true rfl, Nat.le_of_ble_eq_true rfl, rfl, rfl⟩ ?_
      refine X4_exciseAll_ca kn_37 rfl x_y10 ?_
      refine ev_r1 ?_
      refine ev_iadd dX4_exciseIn_53 (pc' := 54) rfl ?_
      refine ev_topi (fun v11 e_v11 => ?_)
      replace h := nm_at e_v11 h
      refine ev_istore_n dX4_exciseIn_54 (pc' := 55) (ls' := [some (.ref 35), some (.int a4), none, some (.int v11), some (.int w6)]) rfl (Nat.le_of_ble_eq_true rfl) rfl ?_
      obtain ⟨v12, e_v12⟩ : ∃ y : Int32, y = (w6 + 1) := ⟨_, rfl⟩
      replace h := nm_at e_v12 h
      refine ev_iinc dX4_exciseIn_55 (pc' := 58) (v := v12) (ls' := [some (.ref 35), some (.int a4), none, some (.int v11), some (.int v12)]) rfl rfl (by rw [e_v12]; rfl) (Nat.le_of_ble_eq_true rfl) rfl ?_
      refine ev_goto dX4_exciseIn_58 (t := 31) rfl ?_
      exact ev_sub (lsub_c (lsub_c (lsub_c (lsub_c (lsub_c lsub_nil))))) (ih v11 v12 m9 h)
set_option maxRecDepth 100000 in
set_option maxHeartbeats 8000000 in
theorem X4_exciseIn_ca {S : Sc} {d : Nat} {a1 : Int32} {mem : Mm} {rr : Int32} {mr : Mm} {Q : Po}  (h : X4_exciseIn 35 a1 mem = some (rr, mr)) (q : Q (some (.int rr)) mr) : Ca S (d + 5) 152 [.ref 35, .int a1] mem Q := by
  unfold X4_exciseIn at h
  refine ca_in (by decide) mt_X4_exciseIn (Nat.le_of_ble_eq_true rfl) ?_
  show Ev S (d + 4) 4 cX4_exciseIn (some .int) 0 [some (.ref 35), some (.int a1), none, none, none] [] mem Q
  refine ev_iload_n dX4_exciseIn_0 (pc' := 1) rfl rfl ?_
  refine ev_invS dX4_exciseIn_1 (pc' := 4) rfl sq_4_128 mt_X4_wrongYears rfl ⟨_, rfl, Nat.le_of_ble_eq_true rfl, Nat.le_of_ble_eq_true rfl, rfl, rfl⟩ ?_
  refine X4_wrongYears_ca  rfl ?_
  refine ev_r1 ?_
  refine ev_topi (fun v1 e_v1 => ?_)
  replace h := nm_at e_v1 h
  refine ev_istore_n dX4_exciseIn_4 (pc' := 5) (ls' := [some (.ref 35), some (.int a1), some (.int v1), none, none]) rfl (Nat.le_of_ble_eq_true rfl) rfl ?_
  refine ev_iload_n dX4_exciseIn_5 (pc' := 6) rfl rfl ?_
  refine ev_if_eq dX4_exciseIn_6 (pc' := 9) rfl (t := 15) rfl (fun c2 => ?_) (fun c2 => ?_)
  · replace h := it_t c2 h
    refine ev_aload_n dX4_exciseIn_15 (pc' := 16) rfl rfl ?_
    refine ev_getR (y := 36) dX4_exciseIn_16 (pc' := 19) rfl fq_4_9 kn_35 rfl ?_
    refine ev_aload_n dX4_exciseIn_19 (pc' := 20) rfl rfl ?_
    refine ev_getR (y := 37) dX4_exciseIn_20 (pc' := 23) rfl fq_4_13 kn_35 rfl ?_
    obtain ⟨m3, x_m3, h⟩ := ob_of h
    refine ev_invS dX4_exciseIn_23 (pc' := 26) rfl sq_4_78 mt_X4_lays rfl ⟨_, rfl, Nat.le_of_ble_eq_true rfl, Nat.le_of_ble_eq_true rfl, rfl, rfl⟩ ?_
    refine X4_lays_ca kn_36 rfl kn_37 rfl x_m3 ?_
    refine ev_r0 ?_
    refine ev_iconst dX4_exciseIn_26 (pc' := 27) (v := 0) rfl (by decide) ?_
    refine ev_istore_n dX4_exciseIn_27 (pc' := 28) (ls' := [some (.ref 35), some (.int a1), some (.int v1), some (.int 0), none]) rfl (Nat.le_of_ble_eq_true rfl) rfl ?_
    refine ev_iconst dX4_exciseIn_28 (pc' := 29) (v := 0) rfl (by decide) ?_
    refine ev_istore dX4_exciseIn_29 (pc' := 31) (ls' := [some (.ref 35), some (.int a1), some (.int v1), some (.int 0), some (.int 0)]) rfl (Nat.le_of_ble_eq_true rfl) rfl ?_
    exact ev_sub (lsub_c (lsub_c (lsub_n (lsub_c (lsub_c lsub_nil))))) (X4_exciseIn_L31_ev  q LF 0 0 m3 h)
  · replace h := it_f c2 h
    refine ev_aload_n dX4_exciseIn_9 (pc' := 10) rfl rfl ?_
    refine ev_iload_n dX4_exciseIn_10 (pc' := 11) rfl rfl ?_
    obtain ⟨y13, m14, x_y13, h⟩ := ob2_of h
    refine ev_invV dX4_exciseIn_11 (pc' := 14) rfl sq_4_36 mt_X4_no rfl (arecv_ob (x := 35) rfl rfl (by decide) kn_35) ⟨_, rfl, Nat.le_of_ble_eq_true rfl, Nat.le_of_ble_eq_true rfl, rfl, rfl⟩ ?_
    refine X4_no_ca  x_y13 ?_
    refine ev_r1 ?_
    obtain ⟨rfl, rfl⟩ := rt2 h
    exact ev_ireturn dX4_exciseIn_14 rfl q
def X4_low_L52  (a7 : Int32) (a8 : Int32) : Nat → Int32 → Mm → Option (Int32 × Mm)
  | 0, _, _ => none
  | n + 1, w9, m10 => if 200 < w9 then (some ((-9), m10)) else (gd (vin (X4_at a7 2) 47) (if a8 < (m10 37 ((X4_at a7 2)).toNatClampNeg) then (ob (X4_year 35 37 m10) (fun m14 => nm (w9 + 1) (fun v15 => X4_low_L52 a7 a8 n v15 m14))) else (some (w9, m10))))
def X4_low (_o : Nat) (a1 : Int32) (a2 : Int32) (mem : Mm) : Option (Int32 × Mm) := if (X4_isCask 35 a1 mem) = 0 then (ob2 (X4_no 35 (-1) mem) (fun y2 m3 => some (y2, m3))) else (if 0 ≤ a2 then (if a2 ≤ 400 then (ob (X4_lays 36 37 mem) (fun m6 => X4_low_L52 a1 a2 LF 0 m6)) else (ob2 (X4_no 35 (-6) mem) (fun y16 m17 => some (y16, m17)))) else (ob2 (X4_no 35 (-4) mem) (fun y18 m19 => some (y18, m19))))
set_option maxRecDepth 100000 in
set_option maxHeartbeats 8000000 in
theorem X4_low_L52_ev {S : Sc} {d : Nat}  {a7 : Int32} {a8 : Int32} {rr : Int32} {mr : Mm} {Q : Po}  (q : Q (some (.int rr)) mr) : ∀ (n : Nat) (w9 : Int32) (m10 : Mm), X4_low_L52 a7 a8 n w9 m10 = some (rr, mr) → Ev S (d + 4) 4 cX4_low (some .int) 52 [some (.ref 35), some (.int a7), some (.int a8), some (.int w9)] [] m10 Q := by
  intro n
  induction n with
  | zero => intro w9 m10 h; cases h
  | succ n ih =>
    intro w9 m10 h
    unfold X4_low_L52 at h
    refine ev_iload_n dX4_low_52 (pc' := 53) rfl rfl ?_
    refine ev_sipush dX4_low_53 (pc' := 56) (v := 200) rfl (by decide) ?_
    refine ev_icmp_gt dX4_low_56 (pc' := 59) rfl (t := 89) rfl (fun c11 => ?_) (fun c11 => ?_)
    · replace h := it_t c11 h
      refine ev_bipush dX4_low_89 (pc' := 91) (v := (-9)) rfl (by decide) ?_
      obtain ⟨rfl, rfl⟩ := rt2 h
      exact ev_ireturn dX4_low_91 rfl q
    · replace h := it_f c11 h
      refine ev_aload_n dX4_low_59 (pc' := 60) rfl rfl ?_
      refine ev_getR (y := 37) dX4_low_60 (pc' := 63) rfl fq_4_13 kn_35 rfl ?_
      refine ev_iload_n dX4_low_63 (pc' := 64) rfl rfl ?_
      refine ev_iconst dX4_low_64 (pc' := 65) (v := 2) rfl (by decide) ?_
      refine ev_invS dX4_low_65 (pc' := 68) rfl sq_4_44 mt_X4_at rfl ⟨_, rfl, Nat.le_of_ble_eq_true rfl, Nat.le_of_ble_eq_true rfl, rfl, rfl⟩ ?_
      refine X4_at_ca  rfl ?_
      refine ev_r1 ?_
      obtain ⟨g12, h⟩ := gd_of h
      refine ev_ialdK (k0 := ((X4_at a7 2)).toNatClampNeg) dX4_low_68 (pc' := 69) rfl kn_37 g12 rfl ?_
      refine ev_iload_n dX4_low_69 (pc' := 70) rfl rfl ?_
      refine ev_icmp_gt dX4_low_70 (pc' := 73) rfl (t := 75) rfl (fun c13 => ?_) (fun c13 => ?_)
      · replace h := it_t c13 h
        refine ev_aload_n dX4_low_75 (pc' := 76) rfl rfl ?_
        refine ev_aload_n dX4_low_76 (pc' := 77) rfl rfl ?_
        refine ev_getR (y := 37) dX4_low_77 (pc' := 80) rfl fq_4_13 kn_35 rfl ?_
        obtain ⟨m14, x_m14, h⟩ := ob_of h
        refine ev_invV dX4_low_80 (pc' := 83) rfl sq_4_74 mt_X4_year rfl (arecv_ob (x := 35) rfl rfl (by decide) kn_35) ⟨_, rfl, Nat.le_of_ble_eq_true rfl, Nat.le_of_ble_eq_true rfl, rfl, rfl⟩ ?_
        refine X4_year_ca kn_37 rfl x_m14 ?_
        refine ev_r0 ?_
        obtain ⟨v15, e_v15⟩ : ∃ y : Int32, y = (w9 + 1) := ⟨_, rfl⟩
        replace h := nm_at e_v15 h
        refine ev_iinc dX4_low_83 (pc' := 86) (v := v15) (ls' := [some (.ref 35), some (.int a7), some (.int a8), some (.int v15)]) rfl rfl (by rw [e_v15]; rfl) (Nat.le_of_ble_eq_true rfl) rfl ?_
        refine ev_goto dX4_low_86 (t := 52) rfl ?_
        exact ev_sub (lsub_c (lsub_c (lsub_c (lsub_c lsub_nil)))) (ih v15 m14 h)
      · replace h := it_f c13 h
        refine ev_iload_n dX4_low_73 (pc' := 74) rfl rfl ?_
        obtain ⟨rfl, rfl⟩ := rt2 h
        exact ev_ireturn dX4_low_74 rfl q
set_option maxRecDepth 100000 in
set_option maxHeartbeats 8000000 in
theorem X4_low_ca {S : Sc} {d : Nat} {a1 : Int32} {a2 : Int32} {mem : Mm} {rr : Int32} {mr : Mm} {Q : Po}  (h : X4_low 35 a1 a2 mem = some (rr, mr)) (q : Q (some (.int rr)) mr) : Ca S (d + 5) 153 [.ref 35, .int a1, .int a2] mem Q := by
  unfold X4_low at h
  refine ca_in (by decide) mt_X4_low (Nat.le_of_ble_eq_true rfl) ?_
  show Ev S (d + 4) 4 cX4_low (some .int) 0 [some (.ref 35), some (.int a1), some (.int a2), none] [] mem Q
  refine ev_aload_n dX4_low_0 (pc' := 1) rfl rfl ?_
  refine ev_iload_n dX4_low_1 (pc' := 2) rfl rfl ?_
  refine ev_invV dX4_low_2 (pc' := 5) rfl sq_4_111 mt_X4_isCask rfl (arecv_ob (x := 35) rfl rfl (by decide) kn_35) ⟨_, rfl, Nat.le_of_ble_eq_true rfl, Nat.le_of_ble_eq_true rfl, rfl, rfl⟩ ?_
  refine X4_isCask_ca  rfl ?_
  refine ev_r1 ?_
  refine ev_if_ne dX4_low_5 (pc' := 8) rfl (t := 14) rfl (fun c1 => ?_) (fun c1 => ?_)
  · replace h := it_f c1 h
    refine ev_iload_n dX4_low_14 (pc' := 15) rfl rfl ?_
    refine ev_if_ge dX4_low_15 (pc' := 18) rfl (t := 25) rfl (fun c4 => ?_) (fun c4 => ?_)
    · replace h := it_t c4 h
      refine ev_iload_n dX4_low_25 (pc' := 26) rfl rfl ?_
      refine ev_sipush dX4_low_26 (pc' := 29) (v := 400) rfl (by decide) ?_
      refine ev_icmp_le dX4_low_29 (pc' := 32) rfl (t := 39) rfl (fun c5 => ?_) (fun c5 => ?_)
      · replace h := it_t c5 h
        refine ev_aload_n dX4_low_39 (pc' := 40) rfl rfl ?_
        refine ev_getR (y := 36) dX4_low_40 (pc' := 43) rfl fq_4_9 kn_35 rfl ?_
        refine ev_aload_n dX4_low_43 (pc' := 44) rfl rfl ?_
        refine ev_getR (y := 37) dX4_low_44 (pc' := 47) rfl fq_4_13 kn_35 rfl ?_
        obtain ⟨m6, x_m6, h⟩ := ob_of h
        refine ev_invS dX4_low_47 (pc' := 50) rfl sq_4_78 mt_X4_lays rfl ⟨_, rfl, Nat.le_of_ble_eq_true rfl, Nat.le_of_ble_eq_true rfl, rfl, rfl⟩ ?_
        refine X4_lays_ca kn_36 rfl kn_37 rfl x_m6 ?_
        refine ev_r0 ?_
        refine ev_iconst dX4_low_50 (pc' := 51) (v := 0) rfl (by decide) ?_
        refine ev_istore_n dX4_low_51 (pc' := 52) (ls' := [some (.ref 35), some (.int a1), some (.int a2), some (.int 0)]) rfl (Nat.le_of_ble_eq_true rfl) rfl ?_
        exact ev_sub (lsub_c (lsub_c (lsub_c (lsub_c lsub_nil)))) (X4_low_L52_ev  q LF 0 m6 h)
      · replace h := it_f c5 h
        refine ev_aload_n dX4_low_32 (pc' := 33) rfl rfl ?_
        refine ev_bipush dX4_low_33 (pc' := 35) (v := (-6)) rfl (by decide) ?_
        obtain ⟨y16, m17, x_y16, h⟩ := ob2_of h
        refine ev_invV dX4_low_35 (pc' := 38) rfl sq_4_36 mt_X4_no rfl (arecv_ob (x := 35) rfl rfl (by decide) kn_35) ⟨_, rfl, Nat.le_of_ble_eq_true rfl, Nat.le_of_ble_eq_true rfl, rfl, rfl⟩ ?_
        refine X4_no_ca  x_y16 ?_
        refine ev_r1 ?_
        obtain ⟨rfl, rfl⟩ := rt2 h
        exact ev_ireturn dX4_low_38 rfl q
    · replace h := it_f c4 h
      refine ev_aload_n dX4_low_18 (pc' := 19) rfl rfl ?_
      refine ev_bipush dX4_low_19 (pc' := 21) (v := (-4)) rfl (by decide) ?_
      obtain ⟨y18, m19, x_y18, h⟩ := ob2_of h
      refine ev_invV dX4_low_21 (pc' := 24) rfl sq_4_36 mt_X4_no rfl (arecv_ob (x := 35) rfl rfl (by decide) kn_35) ⟨_, rfl, Nat.le_of_ble_eq_true rfl, Nat.le_of_ble_eq_true rfl, rfl, rfl⟩ ?_
      refine X4_no_ca  x_y18 ?_
      refine ev_r1 ?_
      obtain ⟨rfl, rfl⟩ := rt2 h
      exact ev_ireturn dX4_low_24 rfl q
  · replace h := it_t c1 h
    refine ev_aload_n dX4_low_8 (pc' := 9) rfl rfl ?_
    refine ev_iconst dX4_low_9 (pc' := 10) (v := (-1)) rfl (by decide) ?_
    obtain ⟨y2, m3, x_y2, h⟩ := ob2_of h
    refine ev_invV dX4_low_10 (pc' := 13) rfl sq_4_36 mt_X4_no rfl (arecv_ob (x := 35) rfl rfl (by decide) kn_35) ⟨_, rfl, Nat.le_of_ble_eq_true rfl, Nat.le_of_ble_eq_true rfl, rfl, rfl⟩ ?_
    refine X4_no_ca  x_y2 ?_
    refine ev_r1 ?_
    obtain ⟨rfl, rfl⟩ := rt2 h
    exact ev_ireturn dX4_low_13 rfl q
def X4_turns_L13   : Nat → Int32 → Mm → Option (Int32 × Mm)
  | 0, _, _ => none
  | n + 1, w2, m3 => if 200 < w2 then (some ((-9), m3)) else (ob (X4_year 35 37 m3) (fun m5 => if (m5 35 11) ≤ (m5 35 10) then (nm (w2 + 1) (fun v7 => X4_turns_L13  n v7 m5)) else (some (w2, m5))))
def X4_turns (_o : Nat) (mem : Mm) : Option (Int32 × Mm) := ob (X4_lays 36 37 mem) (fun m1 => X4_turns_L13  LF 1 m1)
set_option maxRecDepth 100000 in
set_option maxHeartbeats 8000000 in
theorem X4_turns_L13_ev {S : Sc} {d : Nat}   {rr : Int32} {mr : Mm} {Q : Po}  (q : Q (some (.int rr)) mr) : ∀ (n : Nat) (w2 : Int32) (m3 : Mm), X4_turns_L13  n w2 m3 = some (rr, mr) → Ev S (d + 4) 4 cX4_turns (some .int) 13 [some (.ref 35), some (.int w2)] [] m3 Q := by
  intro n
  induction n with
  | zero => intro w2 m3 h; cases h
  | succ n ih =>
    intro w2 m3 h
    unfold X4_turns_L13 at h
    refine ev_iload_n dX4_turns_13 (pc' := 14) rfl rfl ?_
    refine ev_sipush dX4_turns_14 (pc' := 17) (v := 200) rfl (by decide) ?_
    refine ev_icmp_gt dX4_turns_17 (pc' := 20) rfl (t := 47) rfl (fun c4 => ?_) (fun c4 => ?_)
    · replace h := it_t c4 h
      refine ev_bipush dX4_turns_47 (pc' := 49) (v := (-9)) rfl (by decide) ?_
      obtain ⟨rfl, rfl⟩ := rt2 h
      exact ev_ireturn dX4_turns_49 rfl q
    · replace h := it_f c4 h
      refine ev_aload_n dX4_turns_20 (pc' := 21) rfl rfl ?_
      refine ev_aload_n dX4_turns_21 (pc' := 22) rfl rfl ?_
      refine ev_getR (y := 37) dX4_turns_22 (pc' := 25) rfl fq_4_13 kn_35 rfl ?_
      obtain ⟨m5, x_m5, h⟩ := ob_of h
      refine ev_invV dX4_turns_25 (pc' := 28) rfl sq_4_74 mt_X4_year rfl (arecv_ob (x := 35) rfl rfl (by decide) kn_35) ⟨_, rfl, Nat.le_of_ble_eq_true rfl, Nat.le_of_ble_eq_true rfl, rfl, rfl⟩ ?_
      refine X4_year_ca kn_37 rfl x_m5 ?_
      refine ev_r0 ?_
      refine ev_aload_n dX4_turns_28 (pc' := 29) rfl rfl ?_
      refine ev_get dX4_turns_29 (pc' := 32) rfl fq_4_55 kn_35 rfl ?_
      refine ev_aload_n dX4_turns_32 (pc' := 33) rfl rfl ?_
      refine ev_get dX4_turns_33 (pc' := 36) rfl fq_4_51 kn_35 rfl ?_
      refine ev_icmp_le dX4_turns_36 (pc' := 39) rfl (t := 41) rfl (fun c6 => ?_) (fun c6 => ?_)
      · replace h := it_t c6 h
        obtain ⟨v7, e_v7⟩ : ∃ y : Int32, y = (w2 + 1) := ⟨_, rfl⟩
        replace h := nm_at e_v7 h
        refine ev_iinc dX4_turns_41 (pc' := 44) (v := v7) (ls' := [some (.ref 35), some (.int v7)]) rfl rfl (by rw [e_v7]; rfl) (Nat.le_of_ble_eq_true rfl) rfl ?_
        refine ev_goto dX4_turns_44 (t := 13) rfl ?_
        exact ev_sub (lsub_c (lsub_c lsub_nil)) (ih v7 m5 h)
      · replace h := it_f c6 h
        refine ev_iload_n dX4_turns_39 (pc' := 40) rfl rfl ?_
        obtain ⟨rfl, rfl⟩ := rt2 h
        exact ev_ireturn dX4_turns_40 rfl q
set_option maxRecDepth 100000 in
set_option maxHeartbeats 8000000 in
theorem X4_turns_ca {S : Sc} {d : Nat}  {mem : Mm} {rr : Int32} {mr : Mm} {Q : Po}  (h : X4_turns 35 mem = some (rr, mr)) (q : Q (some (.int rr)) mr) : Ca S (d + 5) 154 [.ref 35] mem Q := by
  unfold X4_turns at h
  refine ca_in (by decide) mt_X4_turns (Nat.le_of_ble_eq_true rfl) ?_
  show Ev S (d + 4) 4 cX4_turns (some .int) 0 [some (.ref 35), none] [] mem Q
  refine ev_aload_n dX4_turns_0 (pc' := 1) rfl rfl ?_
  refine ev_getR (y := 36) dX4_turns_1 (pc' := 4) rfl fq_4_9 kn_35 rfl ?_
  refine ev_aload_n dX4_turns_4 (pc' := 5) rfl rfl ?_
  refine ev_getR (y := 37) dX4_turns_5 (pc' := 8) rfl fq_4_13 kn_35 rfl ?_
  obtain ⟨m1, x_m1, h⟩ := ob_of h
  refine ev_invS dX4_turns_8 (pc' := 11) rfl sq_4_78 mt_X4_lays rfl ⟨_, rfl, Nat.le_of_ble_eq_true rfl, Nat.le_of_ble_eq_true rfl, rfl, rfl⟩ ?_
  refine X4_lays_ca kn_36 rfl kn_37 rfl x_m1 ?_
  refine ev_r0 ?_
  refine ev_iconst dX4_turns_11 (pc' := 12) (v := 1) rfl (by decide) ?_
  refine ev_istore_n dX4_turns_12 (pc' := 13) (ls' := [some (.ref 35), some (.int 1)]) rfl (Nat.le_of_ble_eq_true rfl) rfl ?_
  exact ev_sub (lsub_c (lsub_c lsub_nil)) (X4_turns_L13_ev  q LF 1 m1 h)
