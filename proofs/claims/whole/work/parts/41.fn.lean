def X4_hum_L27  (a5 : Int32) : Nat → Int32 → Mm → Option (Int32 × Mm)
  | 0, _, _ => none
  | n + 1, w6, m7 => if 200 < w6 then (some ((-9), m7)) else (gd (vin (X4_at a5 5) 47) (if (m7 37 ((X4_at a5 5)).toNatClampNeg) ≤ 0 then (ob (X4_year 35 37 m7) (fun m11 => nm (w6 + 1) (fun v12 => X4_hum_L27 a5 n v12 m11))) else (gd (vin (X4_at a5 2) 47) (if (m7 37 ((X4_at a5 5)).toNatClampNeg) < (m7 37 ((X4_at a5 2)).toNatClampNeg) then (ob (X4_year 35 37 m7) (fun m15 => nm (w6 + 1) (fun v16 => X4_hum_L27 a5 n v16 m15))) else (some (w6, m7))))))
def X4_hum (_o : Nat) (a1 : Int32) (mem : Mm) : Option (Int32 × Mm) := if (X4_isCask 35 a1 mem) = 0 then (ob2 (X4_no 35 (-1) mem) (fun y2 m3 => some (y2, m3))) else (ob (X4_lays 36 37 mem) (fun m4 => X4_hum_L27 a1 LF 0 m4))
set_option maxRecDepth 100000 in
set_option maxHeartbeats 8000000 in
theorem X4_hum_L27_ev {S : Sc} {d : Nat}  {a5 : Int32} {rr : Int32} {mr : Mm} {Q : Po}  (q : Q (some (.int rr)) mr) : ∀ (n : Nat) (w6 : Int32) (m7 : Mm), X4_hum_L27 a5 n w6 m7 = some (rr, mr) → Ev S (d + 4) 4 cX4_hum (some .int) 27 [some (.ref 35), some (.int a5), some (.int w6)] [] m7 Q := by
  intro n
  induction n with
  | zero => intro w6 m7 h; cases h
  | succ n ih =>
    intro w6 m7 h
    unfold X4_hum_L27 at h
    refine ev_iload_n dX4_hum_27 (pc' := 28) rfl rfl ?_
    refine ev_sipush dX4_hum_28 (pc' := 31) (v := 200) rfl (by decide) ?_
    refine ev_icmp_gt dX4_hum_31 (pc' := 34) rfl (t := 86) rfl (fun c8 => ?_) (fun c8 => ?_)
    · replace h := it_t c8 h
      refine ev_bipush dX4_hum_86 (pc' := 88) (v := (-9)) rfl (by decide) ?_
      obtain ⟨rfl, rfl⟩ := rt2 h
      exact ev_ireturn dX4_hum_88 rfl q
    · replace h := it_f c8 h
      refine ev_aload_n dX4_hum_34 (pc' := 35) rfl rfl ?_
      refine ev_getR (y := 37) dX4_hum_35 (pc' := 38) rfl fq_4_13 kn_35 rfl ?_
      refine ev_iload_n dX4_hum_38 (pc' := 39) rfl rfl ?_
      refine ev_iconst dX4_hum_39 (pc' := 40) (v := 5) rfl (by decide) ?_
      refine ev_invS dX4_hum_40 (pc' := 43) rfl sq_4_44 mt_X4_at rfl ⟨_, rfl, Nat.le_of_ble_eq_true rfl, Nat.le_of_ble_eq_true rfl, rfl, rfl⟩ ?_
      refine X4_at_ca  rfl ?_
      refine ev_r1 ?_
      obtain ⟨g9, h⟩ := gd_of h
      refine ev_ialdK (k0 := ((X4_at a5 5)).toNatClampNeg) dX4_hum_43 (pc' := 44) rfl kn_37 g9 rfl ?_
      refine ev_if_le dX4_hum_44 (pc' := 47) rfl (t := 72) rfl (fun c10 => ?_) (fun c10 => ?_)
      · replace h := it_t c10 h
        refine ev_aload_n dX4_hum_72 (pc' := 73) rfl rfl ?_
        refine ev_aload_n dX4_hum_73 (pc' := 74) rfl rfl ?_
        refine ev_getR (y := 37) dX4_hum_74 (pc' := 77) rfl fq_4_13 kn_35 rfl ?_
        obtain ⟨m11, x_m11, h⟩ := ob_of h
        refine ev_invV dX4_hum_77 (pc' := 80) rfl sq_4_74 mt_X4_year rfl (arecv_ob (x := 35) rfl rfl (by decide) kn_35) ⟨_, rfl, Nat.le_of_ble_eq_true rfl, Nat.le_of_ble_eq_true rfl, rfl, rfl⟩ ?_
        refine X4_year_ca kn_37 rfl x_m11 ?_
        refine ev_r0 ?_
        obtain ⟨v12, e_v12⟩ : ∃ y : Int32, y = (w6 + 1) := ⟨_, rfl⟩
        replace h := nm_at e_v12 h
        refine ev_iinc dX4_hum_80 (pc' := 83) (v := v12) (ls' := [some (.ref 35), some (.int a5), some (.int v12)]) rfl rfl (by rw [e_v12]; rfl) (Nat.le_of_ble_eq_true rfl) rfl ?_
        refine ev_goto dX4_hum_83 (t := 27) rfl ?_
        exact ev_sub (lsub_c (lsub_c (lsub_c lsub_nil))) (ih v12 m11 h)
      · replace h := it_f c10 h
        refine ev_aload_n dX4_hum_47 (pc' := 48) rfl rfl ?_
        refine ev_getR (y := 37) dX4_hum_48 (pc' := 51) rfl fq_4_13 kn_35 rfl ?_
        refine ev_iload_n dX4_hum_51 (pc' := 52) rfl rfl ?_
        refine ev_iconst dX4_hum_52 (pc' := 53) (v := 5) rfl (by decide) ?_
        refine ev_invS dX4_hum_53 (pc' := 56) rfl sq_4_44 mt_X4_at rfl ⟨_, rfl, Nat.le_of_ble_eq_true rfl, Nat.le_of_ble_eq_true rfl, rfl, rfl⟩ ?_
        refine X4_at_ca  rfl ?_
        refine ev_r1 ?_
        refine ev_ialdK (k0 := ((X4_at a5 5)).toNatClampNeg) dX4_hum_56 (pc' := 57) rfl kn_37 g9 rfl ?_
        refine ev_aload_n dX4_hum_57 (pc' := 58) rfl rfl ?_
        refine ev_getR (y := 37) dX4_hum_58 (pc' := 61) rfl fq_4_13 kn_35 rfl ?_
        refine ev_iload_n dX4_hum_61 (pc' := 62) rfl rfl ?_
        refine ev_iconst dX4_hum_62 (pc' := 63) (v := 2) rfl (by decide) ?_
        refine ev_invS dX4_hum_63 (pc' := 66) rfl sq_4_44 mt_X4_at rfl ⟨_, rfl, Nat.le_of_ble_eq_true rfl, Nat.le_of_ble_eq_true rfl, rfl, rfl⟩ ?_
        refine X4_at_ca  rfl ?_
        refine ev_r1 ?_
        obtain ⟨g13, h⟩ := gd_of h
        refine ev_ialdK (k0 := ((X4_at a5 2)).toNatClampNeg) dX4_hum_66 (pc' := 67) rfl kn_37 g13 rfl ?_
        refine ev_icmp_lt dX4_hum_67 (pc' := 70) rfl (t := 72) rfl (fun c14 => ?_) (fun c14 => ?_)
        · replace h := it_t c14 h
          refine ev_aload_n dX4_hum_72 (pc' := 73) rfl rfl ?_
          refine ev_aload_n dX4_hum_73 (pc' := 74) rfl rfl ?_
          refine ev_getR (y := 37) dX4_hum_74 (pc' := 77) rfl fq_4_13 kn_35 rfl ?_
          obtain ⟨m15, x_m15, h⟩ := ob_of h
          refine ev_invV dX4_hum_77 (pc' := 80) rfl sq_4_74 mt_X4_year rfl (arecv_ob (x := 35) rfl rfl (by decide) kn_35) ⟨_, rfl, Nat.le_of_ble_eq_true rfl, Nat.le_of_ble_eq_true rfl, rfl, rfl⟩ ?_
          refine X4_year_ca kn_37 rfl x_m15 ?_
          refine ev_r0 ?_
          obtain ⟨v16, e_v16⟩ : ∃ y : Int32, y = (w6 + 1) := ⟨_, rfl⟩
          replace h := nm_at e_v16 h
          refine ev_iinc dX4_hum_80 (pc' := 83) (v := v16) (ls' := [some (.ref 35), some (.int a5), some (.int v16)]) rfl rfl (by rw [e_v16]; rfl) (Nat.le_of_ble_eq_true rfl) rfl ?_
          refine ev_goto dX4_hum_83 (t := 27) rfl ?_
          exact ev_sub (lsub_c (lsub_c (lsub_c lsub_nil))) (ih v16 m15 h)
        · replace h := it_f c14 h
          refine ev_iload_n dX4_hum_70 (pc' := 71) rfl rfl ?_
          obtain ⟨rfl, rfl⟩ := rt2 h
          exact ev_ireturn dX4_hum_71 rfl q
set_option maxRecDepth 100000 in
set_option maxHeartbeats 8000000 in
theorem X4_hum_ca {S : Sc} {d : Nat} {a1 : Int32} {mem : Mm} {rr : Int32} {mr : Mm} {Q : Po}  (h : X4_hum 35 a1 mem = some (rr, mr)) (q : Q (some (.int rr)) mr) : Ca S (d + 5) 155 [.ref 35, .int a1] mem Q := by
  unfold X4_hum at h
  refine ca_in (by decide) mt_X4_hum (Nat.le_of_ble_eq_true rfl) ?_
  show Ev S (d + 4) 4 cX4_hum (some .int) 0 [some (.ref 35), some (.int a1), none] [] mem Q
  refine ev_aload_n dX4_hum_0 (pc' := 1) rfl rfl ?_
  refine ev_iload_n dX4_hum_1 (pc' := 2) rfl rfl ?_
  refine ev_invV dX4_hum_2 (pc' := 5) rfl sq_4_111 mt_X4_isCask rfl (arecv_ob (x := 35) rfl rfl (by decide) kn_35) ⟨_, rfl, Nat.le_of_ble_eq_true rfl, Nat.le_of_ble_eq_true rfl, rfl, rfl⟩ ?_
  refine X4_isCask_ca  rfl ?_
  refine ev_r1 ?_
  refine ev_if_ne dX4_hum_5 (pc' := 8) rfl (t := 14) rfl (fun c1 => ?_) (fun c1 => ?_)
  · replace h := it_f c1 h
    refine ev_aload_n dX4_hum_14 (pc' := 15) rfl rfl ?_
    refine ev_getR (y := 36) dX4_hum_15 (pc' := 18) rfl fq_4_9 kn_35 rfl ?_
    refine ev_aload_n dX4_hum_18 (pc' := 19) rfl rfl ?_
    refine ev_getR (y := 37) dX4_hum_19 (pc' := 22) rfl fq_4_13 kn_35 rfl ?_
    obtain ⟨m4, x_m4, h⟩ := ob_of h
    refine ev_invS dX4_hum_22 (pc' := 25) rfl sq_4_78 mt_X4_lays rfl ⟨_, rfl, Nat.le_of_ble_eq_true rfl, Nat.le_of_ble_eq_true rfl, rfl, rfl⟩ ?_
    refine X4_lays_ca kn_36 rfl kn_37 rfl x_m4 ?_
    refine ev_r0 ?_
    refine ev_iconst dX4_hum_25 (pc' := 26) (v := 0) rfl (by decide) ?_
    refine ev_istore_n dX4_hum_26 (pc' := 27) (ls' := [some (.ref 35), some (.int a1), some (.int 0)]) rfl (Nat.le_of_ble_eq_true rfl) rfl ?_
    exact ev_sub (lsub_c (lsub_c (lsub_c lsub_nil))) (X4_hum_L27_ev  q LF 0 m4 h)
  · replace h := it_t c1 h
    refine ev_aload_n dX4_hum_8 (pc' := 9) rfl rfl ?_
    refine ev_iconst dX4_hum_9 (pc' := 10) (v := (-1)) rfl (by decide) ?_
    obtain ⟨y2, m3, x_y2, h⟩ := ob2_of h
    refine ev_invV dX4_hum_10 (pc' := 13) rfl sq_4_36 mt_X4_no rfl (arecv_ob (x := 35) rfl rfl (by decide) kn_35) ⟨_, rfl, Nat.le_of_ble_eq_true rfl, Nat.le_of_ble_eq_true rfl, rfl, rfl⟩ ?_
    refine X4_no_ca  x_y2 ?_
    refine ev_r1 ?_
    obtain ⟨rfl, rfl⟩ := rt2 h
    exact ev_ireturn dX4_hum_13 rfl q
def X4_pourFor_L50  (a11 : Int32) (a12 : Int32) (a13 : Int32) (m15 : Mm) (k : Int32 → Option (Int32 × Mm)) : Nat → Int32 → Option (Int32 × Mm)
  | 0, _ => none
  | n + 1, w14 => if (m15 36 0) ≤ w14 then (k w14) else (if w14 = a11 then (nm (w14 + 1) (fun v18 => X4_pourFor_L50 a11 a12 a13 m15 k n v18)) else (ob (X4_canPour 35 w14 a11 a13 m15) (fun y19 => if y19 = 0 then (nm (w14 + 1) (fun v21 => X4_pourFor_L50 a11 a12 a13 m15 k n v21)) else (ob (X4_mixed 35 w14 a11 a13 m15) (fun y22 => if y22 = a12 then (some (((1000 * w14) + a13), m15)) else (nm (w14 + 1) (fun v24 => X4_pourFor_L50 a11 a12 a13 m15 k n v24)))))))
def X4_pourFor_L40  (a6 : Int32) (a7 : Int32) (m9 : Mm) : Nat → Int32 → Option (Int32 × Mm)
  | 0, _ => none
  | n + 1, w8 => if 400 < w8 then (some ((-9), m9)) else (X4_pourFor_L50 a6 a7 w8 m9 (fun v25 => nm (w8 + 1) (fun v26 => X4_pourFor_L40 a6 a7 m9 n v26)) LF 0)
def X4_pourFor (_o : Nat) (a1 : Int32) (a2 : Int32) (mem : Mm) : Option (Int32 × Mm) := if (X4_isCask 35 a1 mem) = 0 then (ob2 (X4_no 35 (-1) mem) (fun y2 m3 => some (y2, m3))) else (if 0 ≤ a2 then (if a2 ≤ 99 then (X4_pourFor_L40 a1 a2 mem LF 1) else (ob2 (X4_no 35 (-6) mem) (fun y27 m28 => some (y27, m28)))) else (ob2 (X4_no 35 (-4) mem) (fun y29 m30 => some (y29, m30))))
set_option maxRecDepth 100000 in
set_option maxHeartbeats 8000000 in
theorem X4_pourFor_L50_ev {S : Sc} {d : Nat}  {a11 : Int32} {a12 : Int32} {a13 : Int32} {m15 : Mm} {k : Int32 → Option (Int32 × Mm)} {rr : Int32} {mr : Mm} {Q : Po}  (q : Q (some (.int rr)) mr) (hk : ∀ (w14 : Int32), k w14 = some (rr, mr) → Ev S (d + 2) 4 cX4_pourFor (some .int) 105 [some (.ref 35), some (.int a11), some (.int a12), some (.int a13), some (.int w14)] [] m15 Q) : ∀ (n : Nat) (w14 : Int32), X4_pourFor_L50 a11 a12 a13 m15 k n w14 = some (rr, mr) → Ev S (d + 2) 4 cX4_pourFor (some .int) 50 [some (.ref 35), some (.int a11), some (.int a12), some (.int a13), some (.int w14)] [] m15 Q := by
  intro n
  induction n with
  | zero => intro w14 h; cases h
  | succ n ih =>
    intro w14 h
    unfold X4_pourFor_L50 at h
    refine ev_iload dX4_pourFor_50 (pc' := 52) rfl rfl ?_
    refine ev_aload_n dX4_pourFor_52 (pc' := 53) rfl rfl ?_
    refine ev_getR (y := 36) dX4_pourFor_53 (pc' := 56) rfl fq_4_9 kn_35 rfl ?_
    refine ev_iconst dX4_pourFor_56 (pc' := 57) (v := 0) rfl (by decide) ?_
    refine ev_ialdK (k0 := 0) dX4_pourFor_57 (pc' := 58) rfl kn_36 (by decide) rfl ?_
    refine ev_icmp_ge dX4_pourFor_58 (pc' := 61) rfl (t := 105) rfl (fun c16 => ?_) (fun c16 => ?_)
    · replace h := it_t c16 h
      exact ev_sub (lsub_c (lsub_c (lsub_c (lsub_c (lsub_c lsub_nil))))) (hk w14 h)
    · replace h := it_f c16 h
      refine ev_iload dX4_pourFor_61 (pc' := 63) rfl rfl ?_
      refine ev_iload_n dX4_pourFor_63 (pc' := 64) rfl rfl ?_
      refine ev_icmp_eq dX4_pourFor_64 (pc' := 67) rfl (t := 99) rfl (fun c17 => ?_) (fun c17 => ?_)
      · replace h := it_t c17 h
        obtain ⟨v18, e_v18⟩ : ∃ y : Int32, y = (w14 + 1) := ⟨_, rfl⟩
        replace h := nm_at e_v18 h
        refine ev_iinc dX4_pourFor_99 (pc' := 102) (v := v18) (ls' := [some (.ref 35), some (.int a11), some (.int a12), some (.int a13), some (.int v18)]) rfl rfl (by rw [e_v18]; rfl) (Nat.le_of_ble_eq_true rfl) rfl ?_
        refine ev_goto dX4_pourFor_102 (t := 50) rfl ?_
        exact ev_sub (lsub_c (lsub_c (lsub_c (lsub_c (lsub_c lsub_nil))))) (ih v18 h)
      · replace h := it_f c17 h
        refine ev_aload_n dX4_pourFor_67 (pc' := 68) rfl rfl ?_
        refine ev_iload dX4_pourFor_68 (pc' := 70) rfl rfl ?_
        refine ev_iload_n dX4_pourFor_70 (pc' := 71) rfl rfl ?_
        refine ev_iload_n dX4_pourFor_71 (pc' := 72) rfl rfl ?_
        obtain ⟨y19, x_y19, h⟩ := ob_of h
        refine ev_invV dX4_pourFor_72 (pc' := 75) rfl sq_4_115 mt_X4_canPour rfl (arecv_ob (x := 35) rfl rfl (by decide) kn_35) ⟨_, rfl, Nat.le_of_ble_eq_true rfl, Nat.le_of_ble_eq_true rfl, rfl, rfl⟩ ?_
        refine X4_canPour_ca  x_y19 ?_
        refine ev_r1 ?_
        refine ev_if_eq dX4_pourFor_75 (pc' := 78) rfl (t := 99) rfl (fun c20 => ?_) (fun c20 => ?_)
        · replace h := it_t c20 h
          obtain ⟨v21, e_v21⟩ : ∃ y : Int32, y = (w14 + 1) := ⟨_, rfl⟩
          replace h := nm_at e_v21 h
          refine ev_iinc dX4_pourFor_99 (pc' := 102) (v := v21) (ls' := [some (.ref 35), some (.int a11), some (.int a12), some (.int a13), some (.int v21)]) rfl rfl (by rw [e_v21]; rfl) (Nat.le_of_ble_eq_true rfl) rfl ?_
          refine ev_goto dX4_pourFor_102 (t := 50) rfl ?_
          exact ev_sub (lsub_c (lsub_c (lsub_c (lsub_c (lsub_c lsub_nil))))) (ih v21 h)
        · replace h := it_f c20 h
          refine ev_aload_n dX4_pourFor_78 (pc' := 79) rfl rfl ?_
          refine ev_iload dX4_pourFor_79 (pc' := 81) rfl rfl ?_
          refine ev_iload_n dX4_pourFor_81 (pc' := 82) rfl rfl ?_
          refine ev_iload_n dX4_pourFor_82 (pc' := 83) rfl rfl ?_
          obtain ⟨y22, x_y22, h⟩ := ob_of h
          refine ev_invV dX4_pourFor_83 (pc' := 86) rfl sq_4_107 mt_X4_mixed rfl (arecv_ob (x := 35) rfl rfl (by decide) kn_35) ⟨_, rfl, Nat.le_of_ble_eq_true rfl, Nat.le_of_ble_eq_true rfl, rfl, rfl⟩ ?_
          refine X4_mixed_ca  x_y22 ?_
          refine ev_r1 ?_
          refine ev_iload_n dX4_pourFor_86 (pc' := 87) rfl rfl ?_
          refine ev_icmp_ne dX4_pourFor_87 (pc' := 90) rfl (t := 99) rfl (fun c23 => ?_) (fun c23 => ?_)
          · replace h := it_f c23 h
            obtain ⟨v24, e_v24⟩ : ∃ y : Int32, y = (w14 + 1) := ⟨_, rfl⟩
            replace h := nm_at e_v24 h
            refine ev_iinc dX4_pourFor_99 (pc' := 102) (v := v24) (ls' := [some (.ref 35), some (.int a11), some (.int a12), some (.int a13), some (.int v24)]) rfl rfl (by rw [e_v24]; rfl) (Nat.le_of_ble_eq_true rfl) rfl ?_
            refine ev_goto dX4_pourFor_102 (t := 50) rfl ?_
            exact ev_sub (lsub_c (lsub_c (lsub_c (lsub_c (lsub_c lsub_nil))))) (ih v24 h)
          · replace h := it_t c23 h
            refine ev_sipush dX4_pourFor_90 (pc' := 93) (v := 1000) rfl (by decide) ?_
            refine ev_iload dX4_pourFor_93 (pc' := 95) rfl rfl ?_
            refine ev_imul dX4_pourFor_95 (pc' := 96) rfl ?_
            refine ev_iload_n dX4_pourFor_96 (pc' := 97) rfl rfl ?_
            refine ev_iadd dX4_pourFor_97 (pc' := 98) rfl ?_
            obtain ⟨rfl, rfl⟩ := rt2 h
            exact ev_ireturn dX4_pourFor_98 rfl q
set_option maxRecDepth 100000 in
set_option maxHeartbeats 8000000 in
theorem X4_pourFor_L40_ev {S : Sc} {d : Nat}  {a6 : Int32} {a7 : Int32} {m9 : Mm} {rr : Int32} {mr : Mm} {Q : Po}  (q : Q (some (.int rr)) mr) : ∀ (n : Nat) (w8 : Int32), X4_pourFor_L40 a6 a7 m9 n w8 = some (rr, mr) → Ev S (d + 2) 4 cX4_pourFor (some .int) 40 [some (.ref 35), some (.int a6), some (.int a7), some (.int w8), none] [] m9 Q := by
  intro n
  induction n with
  | zero => intro w8 h; cases h
  | succ n ih =>
    intro w8 h
    unfold X4_pourFor_L40 at h
    refine ev_iload_n dX4_pourFor_40 (pc' := 41) rfl rfl ?_
    refine ev_sipush dX4_pourFor_41 (pc' := 44) (v := 400) rfl (by decide) ?_
    refine ev_icmp_gt dX4_pourFor_44 (pc' := 47) rfl (t := 111) rfl (fun c10 => ?_) (fun c10 => ?_)
    · replace h := it_t c10 h
      refine ev_bipush dX4_pourFor_111 (pc' := 113) (v := (-9)) rfl (by decide) ?_
      obtain ⟨rfl, rfl⟩ := rt2 h
      exact ev_ireturn dX4_pourFor_113 rfl q
    · replace h := it_f c10 h
      refine ev_iconst dX4_pourFor_47 (pc' := 48) (v := 0) rfl (by decide) ?_
      refine ev_istore dX4_pourFor_48 (pc' := 50) (ls' := [some (.ref 35), some (.int a6), some (.int a7), some (.int w8), some (.int 0)]) rfl (Nat.le_of_ble_eq_true rfl) rfl ?_
      refine ev_sub (lsub_c (lsub_c (lsub_c (lsub_c (lsub_c lsub_nil))))) (X4_pourFor_L50_ev  (k := fun v25 => nm (w8 + 1) (fun v26 => X4_pourFor_L40 a6 a7 m9 n v26)) q (fun v25 h => ?_) LF 0 h)
      obtain ⟨v26, e_v26⟩ : ∃ y : Int32, y = (w8 + 1) := ⟨_, rfl⟩
      replace h := nm_at e_v26 h
      refine ev_iinc dX4_pourFor_105 (pc' := 108) (v := v26) (ls' := [some (.ref 35), some (.int a6), some (.int a7), some (.int v26), some (.int v25)]) rfl rfl (by rw [e_v26]; rfl) (Nat.le_of_ble_eq_true rfl) rfl ?_
      refine ev_goto dX4_pourFor_108 (t := 40) rfl ?_
      exact ev_sub (lsub_c (lsub_c (lsub_c (lsub_c (lsub_n lsub_nil))))) (ih v26 h)
set_option maxRecDepth 100000 in
set_option maxHeartbeats 8000000 in
theorem X4_pourFor_ca {S : Sc} {d : Nat} {a1 : Int32} {a2 : Int32} {mem : Mm} {rr : Int32} {mr : Mm} {Q : Po}  (h : X4_pourFor 35 a1 a2 mem = some (rr, mr)) (q : Q (some (.int rr)) mr) : Ca S (d + 3) 156 [.ref 35, .int a1, .int a2] mem Q := by
  unfold X4_pourFor at h
  refine ca_in (by decide) mt_X4_pourFor (Nat.le_of_ble_eq_true rfl) ?_
  show Ev S (d + 2) 4 cX4_pourFor (some .int) 0 [some (.ref 35), some (.int a1), some (.int a2), none, none] [] mem Q
  refine ev_aload_n dX4_pourFor_0 (pc' := 1) rfl rfl ?_
  refine ev_iload_n dX4_pourFor_1 (pc' := 2) rfl rfl ?_
  refine ev_invV dX4_pourFor_2 (pc' := 5) rfl sq_4_111 mt_X4_isCask rfl (arecv_ob (x := 35) rfl rfl (by decide) kn_35) ⟨_, rfl, Nat.le_of_ble_eq_true rfl, Nat.le_of_ble_eq_true rfl, rfl, rfl⟩ ?_
  refine X4_isCask_ca  rfl ?_
  refine ev_r1 ?_
  refine ev_if_ne dX4_pourFor_5 (pc' := 8) rfl (t := 14) rfl (fun c1 => ?_) (fun c1 => ?_)
  · replace h := it_f c1 h
    refine ev_iload_n dX4_pourFor_14 (pc' := 15) rfl rfl ?_
    refine ev_if_ge dX4_pourFor_15 (pc' := 18) rfl (t := 25) rfl (fun c4 => ?_) (fun c4 => ?_)
    · replace h := it_t c4 h
      refine ev_iload_n dX4_pourFor_25 (pc' := 26) rfl rfl ?_
      refine ev_bipush dX4_pourFor_26 (pc' := 28) (v := 99) rfl (by decide) ?_
      refine ev_icmp_le dX4_pourFor_28 (pc' := 31) rfl (t := 38) rfl (fun c5 => ?_) (fun c5 => ?_)
      · replace h := it_t c5 h
        refine ev_iconst dX4_pourFor_38 (pc' := 39) (v := 1) rfl (by decide) ?_
        refine ev_istore_n dX4_pourFor_39 (pc' := 40) (ls' := [some (.ref 35), some (.int a1), some (.int a2), some (.int 1), none]) rfl (Nat.le_of_ble_eq_true rfl) rfl ?_
        exact ev_sub (lsub_c (lsub_c (lsub_c (lsub_c (lsub_c lsub_nil))))) (X4_pourFor_L40_ev  q LF 1 h)
      · replace h := it_f c5 h
        refine ev_aload_n dX4_pourFor_31 (pc' := 32) rfl rfl ?_
        refine ev_bipush dX4_pourFor_32 (pc' := 34) (v := (-6)) rfl (by decide) ?_
        obtain ⟨y27, m28, x_y27, h⟩ := ob2_of h
        refine ev_invV dX4_pourFor_34 (pc' := 37) rfl sq_4_36 mt_X4_no rfl (arecv_ob (x := 35) rfl rfl (by decide) kn_35) ⟨_, rfl, Nat.le_of_ble_eq_true rfl, Nat.le_of_ble_eq_true rfl, rfl, rfl⟩ ?_
        refine X4_no_ca  x_y27 ?_
        refine ev_r1 ?_
        obtain ⟨rfl, rfl⟩ := rt2 h
        exact ev_ireturn dX4_pourFor_37 rfl q
    · replace h := it_f c4 h
      refine ev_aload_n dX4_pourFor_18 (pc' := 19) rfl rfl ?_
      refine ev_bipush dX4_pourFor_19 (pc' := 21) (v := (-4)) rfl (by decide) ?_
      obtain ⟨y29, m30, x_y29, h⟩ := ob2_of h
      refine ev_invV dX4_pourFor_21 (pc' := 24) rfl sq_4_36 mt_X4_no rfl (arecv_ob (x := 35) rfl rfl (by decide) kn_35) ⟨_, rfl, Nat.le_of_ble_eq_true rfl, Nat.le_of_ble_eq_true rfl, rfl, rfl⟩ ?_
      refine X4_no_ca  x_y29 ?_
      refine ev_r1 ?_
      obtain ⟨rfl, rfl⟩ := rt2 h
      exact ev_ireturn dX4_pourFor_24 rfl q
  · replace h := it_t c1 h
    refine ev_aload_n dX4_pourFor_8 (pc' := 9) rfl rfl ?_
    refine ev_iconst dX4_pourFor_9 (pc' := 10) (v := (-1)) rfl (by decide) ?_
    obtain ⟨y2, m3, x_y2, h⟩ := ob2_of h
    refine ev_invV dX4_pourFor_10 (pc' := 13) rfl sq_4_36 mt_X4_no rfl (arecv_ob (x := 35) rfl rfl (by decide) kn_35) ⟨_, rfl, Nat.le_of_ble_eq_true rfl, Nat.le_of_ble_eq_true rfl, rfl, rfl⟩ ?_
    refine X4_no_ca  x_y2 ?_
    refine ev_r1 ?_
    obtain ⟨rfl, rfl⟩ := rt2 h
    exact ev_ireturn dX4_pourFor_13 rfl q
def X4_blend_L50  (a10 : Int32) (a11 : Int32) (m15 : Mm) (k : Int32 → Int32 → Int32 → Option (Int32 × Mm)) : Nat → Int32 → Int32 → Int32 → Option (Int32 × Mm)
  | 0, _, _, _ => none
  | n + 1, w12, w13, w14 => if (m15 36 0) ≤ w14 then (k w12 w13 w14) else (gd (vin (X4_at a11 2) 47) (gd (vin (X4_at w14 2) 47) (nm ((m15 36 ((X4_at a11 2)).toNatClampNeg) + (m15 36 ((X4_at w14 2)).toNatClampNeg)) (fun v19 => if v19 = 0 then (nm (w14 + 1) (fun v21 => X4_blend_L50 a10 a11 m15 k n w12 w13 v21)) else (gd (vin (X4_at a11 3) 47) (gd (vin (X4_at w14 3) 47) (nm (X4_size (((((m15 36 ((X4_at a11 2)).toNatClampNeg) * (m15 36 ((X4_at a11 3)).toNatClampNeg)) + ((m15 36 ((X4_at w14 2)).toNatClampNeg) * (m15 36 ((X4_at w14 3)).toNatClampNeg))) / v19) - a10)) (fun v24 => if v24 < w13 then (nm ((10 * a11) + w14) (fun v26 => nm (w14 + 1) (fun v27 => X4_blend_L50 a10 a11 m15 k n v26 v24 v27))) else (nm (w14 + 1) (fun v28 => X4_blend_L50 a10 a11 m15 k n w12 w13 v28))))))))))
def X4_blend_L33  (a3 : Int32) (m7 : Mm) : Nat → Int32 → Int32 → Int32 → Option (Int32 × Mm)
  | 0, _, _, _ => none
  | n + 1, w4, w5, w6 => if (m7 36 0) ≤ w6 then (some (w4, m7)) else (nm (w6 + 1) (fun v9 => X4_blend_L50 a3 w6 m7 (fun v29 v30 v31 => nm (w6 + 1) (fun v32 => X4_blend_L33 a3 m7 n v29 v30 v32)) LF w4 w5 v9))
def X4_blend (_o : Nat) (a1 : Int32) (mem : Mm) : Option (Int32 × Mm) := if 0 ≤ a1 then (if a1 ≤ 99 then (X4_blend_L33 a1 mem LF (-9) 1000000000 0) else (ob2 (X4_no 35 (-6) mem) (fun y33 m34 => some (y33, m34)))) else (ob2 (X4_no 35 (-4) mem) (fun y35 m36 => some (y35, m36)))
set_option maxRecDepth 100000 in
set_option maxHeartbeats 8000000 in
theorem X4_blend_L50_ev {S : Sc} {d : Nat}  {a10 : Int32} {a11 : Int32} {m15 : Mm} {k : Int32 → Int32 → Int32 → Option (Int32 × Mm)} {rr : Int32} {mr : Mm} {Q : Po}  (q : Q (some (.int rr)) mr) (hk : ∀ (w12 : Int32) (w13 : Int32) (w14 : Int32), k w12 w13 w14 = some (rr, mr) → Ev S (d + 1) 4 cX4_blend (some .int) 178 [some (.ref 35), some (.int a10), some (.int w12), some (.int w13), some (.int a11), some (.int w14), none, none] [] m15 Q) : ∀ (n : Nat) (w12 : Int32) (w13 : Int32) (w14 : Int32), X4_blend_L50 a10 a11 m15 k n w12 w13 w14 = some (rr, mr) → Ev S (d + 1) 4 cX4_blend (some .int) 50 [some (.ref 35), some (.int a10), some (.int w12), some (.int w13), some (.int a11), some (.int w14), none, none] [] m15 Q := by
  intro n
  induction n with
  | zero => intro w12 w13 w14 h; cases h
  | succ n ih =>
    intro w12 w13 w14 h
    unfold X4_blend_L50 at h
    refine ev_iload dX4_blend_50 (pc' := 52) rfl rfl ?_
    refine ev_aload_n dX4_blend_52 (pc' := 53) rfl rfl ?_
    refine ev_getR (y := 36) dX4_blend_53 (pc' := 56) rfl fq_4_9 kn_35 rfl ?_
    refine ev_iconst dX4_blend_56 (pc' := 57) (v := 0) rfl (by decide) ?_
    refine ev_ialdK (k0 := 0) dX4_blend_57 (pc' := 58) rfl kn_36 (by decide) rfl ?_
    refine ev_icmp_ge dX4_blend_58 (pc' := 61) rfl (t := 178) rfl (fun c16 => ?_) (fun c16 => ?_)
    · replace h := it_t c16 h
      exact ev_sub (lsub_c (lsub_c (lsub_c (lsub_c (lsub_c (lsub_c (lsub_c (lsub_c lsub_nil)))))))) (hk w12 w13 w14 h)
    · replace h := it_f c16 h
      refine ev_aload_n dX4_blend_61 (pc' := 62) rfl rfl ?_
      refine ev_getR (y := 36) dX4_blend_62 (pc' := 65) rfl fq_4_9 kn_35 rfl ?_
      refine ev_iload dX4_blend_65 (pc' := 67) rfl rfl ?_
      refine ev_iconst dX4_blend_67 (pc' := 68) (v := 2) rfl (by decide) ?_
      refine ev_invS dX4_blend_68 (pc' := 71) rfl sq_4_44 mt_X4_at rfl ⟨_, rfl, Nat.le_of_ble_eq_true rfl, Nat.le_of_ble_eq_true rfl, rfl, rfl⟩ ?_
      refine X4_at_ca  rfl ?_
      refine ev_r1 ?_
      obtain ⟨g17, h⟩ := gd_of h
      refine ev_ialdK (k0 := ((X4_at a11 2)).toNatClampNeg) dX4_blend_71 (pc' := 72) rfl kn_36 g17 rfl ?_
      refine ev_aload_n dX4_blend_72 (pc' := 73) rfl rfl ?_
      refine ev_getR (y := 36) dX4_blend_73 (pc' := 76) rfl fq_4_9 kn_35 rfl ?_
      refine ev_iload dX4_blend_76 (pc' := 78) rfl rfl ?_
      refine ev_iconst dX4_blend_78 (pc' := 79) (v := 2) rfl (by decide) ?_
      refine ev_invS dX4_blend_79 (pc' := 82) rfl sq_4_44 mt_X4_at rfl ⟨_, rfl, Nat.le_of_ble_eq_true rfl, Nat.le_of_ble_eq_true rfl, rfl, rfl⟩ ?_
      refine X4_at_ca  rfl ?_
      refine ev_r1 ?_
      obtain ⟨g18, h⟩ := gd_of h
      refine ev_ialdK (k0 := ((X4_at w14 2)).toNatClampNeg) dX4_blend_82 (pc' := 83) rfl kn_36 g18 rfl ?_
      refine ev_iadd dX4_blend_83 (pc' := 84) rfl ?_
      refine ev_topi (fun v19 e_v19 => ?_)
      replace h := nm_at e_v19 h
      refine ev_istore dX4_blend_84 (pc' := 86) (ls' := [some (.ref 35), some (.int a10), some (.int w12), some (.int w13), some (.int a11), some (.int w14), some (.int v19), none]) rfl (Nat.le_of_ble_eq_true rfl) rfl ?_
      refine ev_iload dX4_blend_86 (pc' := 88) rfl rfl ?_
      refine ev_if_ne dX4_blend_88 (pc' := 91) rfl (t := 94) rfl (fun c20 => ?_) (fun c20 => ?_)
      · replace h := it_f c20 h
        refine ev_aload_n dX4_blend_94 (pc' := 95) rfl rfl ?_
        refine ev_getR (y := 36) dX4_blend_95 (pc' := 98) rfl fq_4_9 kn_35 rfl ?_
        refine ev_iload dX4_blend_98 (pc' := 100) rfl rfl ?_
        refine ev_iconst dX4_blend_100 (pc' := 101) (v := 2) rfl (by decide) ?_
        refine ev_invS dX4_blend_101 (pc' := 104) rfl sq_4_44 mt_X4_at rfl ⟨_, rfl, Nat.le_of_ble_eq_true rfl, Nat.le_of_ble_eq_true rfl, rfl, rfl⟩ ?_
        refine X4_at_ca  rfl ?_
        refine ev_r1 ?_
        refine ev_ialdK (k0 := ((X4_at a11 2)).toNatClampNeg) dX4_blend_104 (pc' := 105) rfl kn_36 g17 rfl ?_
        refine ev_aload_n dX4_blend_105 (pc' := 106) rfl rfl ?_
        refine ev_getR (y := 36) dX4_blend_106 (pc' := 109) rfl fq_4_9 kn_35 rfl ?_
        refine ev_iload dX4_blend_109 (pc' := 111) rfl rfl ?_
        refine ev_iconst dX4_blend_111 (pc' := 112) (v := 3) rfl (by decide) ?_
        refine ev_invS dX4_blend_112 (pc' := 115) rfl sq_4_44 mt_X4_at rfl ⟨_, rfl, Nat.le_of_ble_eq_true rfl, Nat.le_of_ble_eq_true rfl, rfl, rfl⟩ ?_
        refine X4_at_ca  rfl ?_
        refine ev_r1 ?_
        obtain ⟨g22, h⟩ := gd_of h
        refine ev_ialdK (k0 := ((X4_at a11 3)).toNatClampNeg) dX4_blend_115 (pc' := 116) rfl kn_36 g22 rfl ?_
        refine ev_imul dX4_blend_116 (pc' := 117) rfl ?_
        refine ev_aload_n dX4_blend_117 (pc' := 118) rfl rfl ?_
        refine ev_getR (y := 36) dX4_blend_118 (pc' := 121) rfl fq_4_9 kn_35 rfl ?_
        refine ev_iload dX4_blend_121 (pc' := 123) rfl rfl ?_
        refine ev_iconst dX4_blend_123 (pc' := 124) (v := 2) rfl (by decide) ?_
        refine ev_invS dX4_blend_124 (pc' := 127) rfl sq_4_44 mt_X4_at rfl ⟨_, rfl, Nat.le_of_ble_eq_true rfl, Nat.le_of_ble_eq_true rfl, rfl, rfl⟩ ?_
        refine X4_at_ca  rfl ?_
        refine ev_r1 ?_
        refine ev_ialdK (k0 := ((X4_at w14 2)).toNatClampNeg) dX4_blend_127 (pc' := 128) rfl kn_36 g18 rfl ?_
        refine ev_aload_n dX4_blend_128 (pc' := 129) rfl rfl ?_
        refine ev_getR (y := 36) dX4_blend_129 (pc' := 132) rfl fq_4_9 kn_35 rfl ?_
        refine ev_iload dX4_blend_132 (pc' := 134) rfl rfl ?_
        refine ev_iconst dX4_blend_134 (pc' := 135) (v := 3) rfl (by decide) ?_
        refine ev_invS dX4_blend_135 (pc' := 138) rfl sq_4_44 mt_X4_at rfl ⟨_, rfl, Nat.le_of_ble_eq_true rfl, Nat.le_of_ble_eq_true rfl, rfl, rfl⟩ ?_
        refine X4_at_ca  rfl ?_
        refine ev_r1 ?_
        obtain ⟨g23, h⟩ := gd_of h
        refine ev_ialdK (k0 := ((X4_at w14 3)).toNatClampNeg) dX4_blend_138 (pc' := 139) rfl kn_36 g23 rfl ?_
        refine ev_imul dX4_blend_139 (pc' := 140) rfl ?_
        refine ev_iadd dX4_blend_140 (pc' := 141) rfl ?_
        refine ev_iload dX4_blend_141 (pc' := 143) rfl rfl ?_
        refine ev_idiv dX4_blend_143 (pc' := 144) rfl c20 ?_
        refine ev_iload_n dX4_blend_144 (pc' := 145) rfl rfl ?_
        refine ev_isub dX4_blend_145 (pc' := 146) rfl ?_
        refine ev_invS dX4_blend_146 (pc' := 149) rfl sq_4_158 mt_X4_size rfl ⟨_, rfl, Nat.le_of_ble_eq_true rfl, Nat.le_of_ble_eq_true rfl, rfl, rfl⟩ ?_
        refine X4_size_ca  rfl ?_
        refine ev_r1 ?_
        refine ev_topi (fun v24 e_v24 => ?_)
        replace h := nm_at e_v24 h
        refine ev_istore dX4_blend_149 (pc' := 151) (ls' := [some (.ref 35), some (.int a10), some (.int w12), some (.int w13), some (.int a11), some (.int w14), some (.int v19), some (.int v24)]) rfl (Nat.le_of_ble_eq_true rfl) rfl ?_
        refine ev_iload dX4_blend_151 (pc' := 153) rfl rfl ?_
        refine ev_iload_n dX4_blend_153 (pc' := 154) rfl rfl ?_
        refine ev_icmp_lt dX4_blend_154 (pc' := 157) rfl (t := 160) rfl (fun c25 => ?_) (fun c25 => ?_)
        · replace h := it_t c25 h
          refine ev_bipush dX4_blend_160 (pc' := 162) (v := 10) rfl (by decide) ?_
          refine ev_iload dX4_blend_162 (pc' := 164) rfl rfl ?_
          refine ev_imul dX4_blend_164 (pc' := 165) rfl ?_
          refine ev_iload dX4_blend_165 (pc' := 167) rfl rfl ?_
          refine ev_iadd dX4_blend_167 (pc' := 168) rfl ?_
          refine ev_topi (fun v26 e_v26 => ?_)
          replace h := nm_at e_v26 h
          refine ev_istore_n dX4_blend_168 (pc' := 169) (ls' := [some (.ref 35), some (.int a10), some (.int v26), some (.int w13), some (.int a11), some (.int w14), some (.int v19), some (.int v24)]) rfl (Nat.le_of_ble_eq_true rfl) rfl ?_
          refine ev_iload dX4_blend_169 (pc' := 171) rfl rfl ?_
          refine ev_istore_n dX4_blend_171 (pc' := 172) (ls' := [some (.ref 35), some (.int a10), some (.int v26), some (.int v24), some (.int a11), some (.int w14), some (.int v19), some (.int v24)]) rfl (Nat.le_of_ble_eq_true rfl) rfl ?_
          obtain ⟨v27, e_v27⟩ : ∃ y : Int32, y = (w14 + 1) := ⟨_, rfl⟩
          replace h := nm_at e_v27 h
          refine ev_iinc dX4_blend_172 (pc' := 175) (v := v27) (ls' := [some (.ref 35), some (.int a10), some (.int v26), some (.int v24), some (.int a11), some (.int v27), some (.int v19), some (.int v24)]) rfl rfl (by rw [e_v27]; rfl) (Nat.le_of_ble_eq_true rfl) rfl ?_
          refine ev_goto dX4_blend_175 (t := 50) rfl ?_
          exact ev_sub (lsub_c (lsub_c (lsub_c (lsub_c (lsub_c (lsub_c (lsub_n (lsub_n lsub_nil)))))))) (ih v26 v24 v27 h)
        · replace h := it_f c25 h
          refine ev_goto dX4_blend_157 (t := 172) rfl ?_
          obtain ⟨v28, e_v28⟩ : ∃ y : Int32, y = (w14 + 1) := ⟨_, rfl⟩
          replace h := nm_at e_v28 h
          refine ev_iinc dX4_blend_172 (pc' := 175) (v := v28) (ls' := [some (.ref 35), some (.int a10), some (.int w12), some (.int w13), some (.int a11), some (.int v28), some (.int v19), some (.int v24)]) rfl rfl (by rw [e_v28]; rfl) (Nat.le_of_ble_eq_true rfl) rfl ?_
          refine ev_goto dX4_blend_175 (t := 50) rfl ?_
          exact ev_sub (lsub_c (lsub_c (lsub_c (lsub_c (lsub_c (lsub_c (lsub_n (lsub_n lsub_nil)))))))) (ih w12 w13 v28 h)
      · replace h := it_t c20 h
        refine ev_goto dX4_blend_91 (t := 172) rfl ?_
        obtain ⟨v21, e_v21⟩ : ∃ y : Int32, y = (w14 + 1) := ⟨_, rfl⟩
        replace h := nm_at e_v21 h
        refine ev_iinc dX4_blend_172 (pc' := 175) (v := v21) (ls' := [some (.ref 35), some (.int a10), some (.int w12), some (.int w13), some (.int a11), some (.int v21), some (.int v19), none]) rfl rfl (by rw [e_v21]; rfl) (Nat.le_of_ble_eq_true rfl) rfl ?_
        refine ev_goto dX4_blend_175 (t := 50) rfl ?_
        exact ev_sub (lsub_c (lsub_c (lsub_c (lsub_c (lsub_c (lsub_c (lsub_n (lsub_c lsub_nil)))))))) (ih w12 w13 v21 h)
set_option maxRecDepth 100000 in
set_option maxHeartbeats 8000000 in
theorem X4_blend_L33_ev {S : Sc} {d : Nat}  {a3 : Int32} {m7 : Mm} {rr : Int32} {mr : Mm} {Q : Po}  (q : Q (some (.int rr)) mr) : ∀ (n : Nat) (w4 : Int32) (w5 : Int32) (w6 : Int32), X4_blend_L33 a3 m7 n w4 w5 w6 = some (rr, mr) → Ev S (d + 1) 4 cX4_blend (some .int) 33 [some (.ref 35), some (.int a3), some (.int w4), some (.int w5), some (.int w6), none, none, none] [] m7 Q := by
  intro n
  induction n with
  | zero => intro w4 w5 w6 h; cases h
  | succ n ih =>
    intro w4 w5 w6 h
    unfold X4_blend_L33 at h
    refine ev_iload dX4_blend_33 (pc' := 35) rfl rfl ?_
    refine ev_aload_n dX4_blend_35 (pc' := 36) rfl rfl ?_
    refine ev_getR (y := 36) dX4_blend_36 (pc' := 39) rfl fq_4_9 kn_35 rfl ?_
    refine ev_iconst dX4_blend_39 (pc' := 40) (v := 0) rfl (by decide) ?_
    refine ev_ialdK (k0 := 0) dX4_blend_40 (pc' := 41) rfl kn_36 (by decide) rfl ?_
    refine ev_icmp_ge dX4_blend_41 (pc' := 44) rfl (t := 184) rfl (fun c8 => ?_) (fun c8 => ?_)
    · replace h := it_t c8 h
      refine ev_iload_n dX4_blend_184 (pc' := 185) rfl rfl ?_
      obtain ⟨rfl, rfl⟩ := rt2 h
      exact ev_ireturn dX4_blend_185 rfl q
    · replace h := it_f c8 h
      refine ev_iload dX4_blend_44 (pc' := 46) rfl rfl ?_
      refine ev_iconst dX4_blend_46 (pc' := 47) (v := 1) rfl (by decide) ?_
      refine ev_iadd dX4_blend_47 (pc' := 48) rfl ?_
      refine ev_topi (fun v9 e_v9 => ?_)
      replace h := nm_at e_v9 h
      refine ev_istore dX4_blend_48 (pc' := 50) (ls' := [some (.ref 35), some (.int a3), some (.int w4), some (.int w5), some (.int w6), some (.int v9), none, none]) rfl (Nat.le_of_ble_eq_true rfl) rfl ?_
      refine ev_sub (lsub_c (lsub_c (lsub_c (lsub_c (lsub_c (lsub_c (lsub_c (lsub_c lsub_nil)))))))) (X4_blend_L50_ev  (k := fun v29 v30 v31 => nm (w6 + 1) (fun v32 => X4_blend_L33 a3 m7 n v29 v30 v32)) q (fun v29 v30 v31 h => ?_) LF w4 w5 v9 h)
      obtain ⟨v32, e_v32⟩ : ∃ y : Int32, y = (w6 + 1) := ⟨_, rfl⟩
      replace h := nm_at e_v32 h
      refine ev_iinc dX4_blend_178 (pc' := 181) (v := v32) (ls' := [some (.ref 35), some (.int a3), some (.int v29), some (.int v30), some (.int v32), some (.int v31), none, none]) rfl rfl (by rw [e_v32]; rfl) (Nat.le_of_ble_eq_true rfl) rfl ?_
      refine ev_goto dX4_blend_181 (t := 33) rfl ?_
      exact ev_sub (lsub_c (lsub_c (lsub_c (lsub_c (lsub_c (lsub_n (lsub_c (lsub_c lsub_nil)))))))) (ih v29 v30 v32 h)
set_option maxRecDepth 100000 in
set_option maxHeartbeats 8000000 in
theorem X4_blend_ca {S : Sc} {d : Nat} {a1 : Int32} {mem : Mm} {rr : Int32} {mr : Mm} {Q : Po}  (h : X4_blend 35 a1 mem = some (rr, mr)) (q : Q (some (.int rr)) mr) : Ca S (d + 2) 157 [.ref 35, .int a1] mem Q := by
  unfold X4_blend at h
  refine ca_in (by decide) mt_X4_blend (Nat.le_of_ble_eq_true rfl) ?_
  show Ev S (d + 1) 4 cX4_blend (some .int) 0 [some (.ref 35), some (.int a1), none, none, none, none, none, none] [] mem Q
  refine ev_iload_n dX4_blend_0 (pc' := 1) rfl rfl ?_
  refine ev_if_ge dX4_blend_1 (pc' := 4) rfl (t := 11) rfl (fun c1 => ?_) (fun c1 => ?_)
  · replace h := it_t c1 h
    refine ev_iload_n dX4_blend_11 (pc' := 12) rfl rfl ?_
    refine ev_bipush dX4_blend_12 (pc' := 14) (v := 99) rfl (by decide) ?_
    refine ev_icmp_le dX4_blend_14 (pc' := 17) rfl (t := 24) rfl (fun c2 => ?_) (fun c2 => ?_)
    · replace h := it_t c2 h
      refine ev_bipush dX4_blend_24 (pc' := 26) (v := (-9)) rfl (by decide) ?_
      refine ev_istore_n dX4_blend_26 (pc' := 27) (ls' := [some (.ref 35), some (.int a1), some (.int (-9)), none, none, none, none, none]) rfl (Nat.le_of_ble_eq_true rfl) rfl ?_
      refine ev_ldc dX4_blend_27 (pc' := 29) rfl iq_4_157 ?_
      refine ev_istore_n dX4_blend_29 (pc' := 30) (ls' := [some (.ref 35), some (.int a1), some (.int (-9)), some (.int 1000000000), none, none, none, none]) rfl (Nat.le_of_ble_eq_true rfl) rfl ?_
      refine ev_iconst dX4_blend_30 (pc' := 31) (v := 0) rfl (by decide) ?_
      refine ev_istore dX4_blend_31 (pc' := 33) (ls' := [some (.ref 35), some (.int a1), some (.int (-9)), some (.int 1000000000), some (.int 0), none, none, none]) rfl (Nat.le_of_ble_eq_true rfl) rfl ?_
      exact ev_sub (lsub_c (lsub_c (lsub_c (lsub_c (lsub_c (lsub_c (lsub_c (lsub_c lsub_nil)))))))) (X4_blend_L33_ev  q LF (-9) 1000000000 0 h)
    · replace h := it_f c2 h
      refine ev_aload_n dX4_blend_17 (pc' := 18) rfl rfl ?_
      refine ev_bipush dX4_blend_18 (pc' := 20) (v := (-6)) rfl (by decide) ?_
      obtain ⟨y33, m34, x_y33, h⟩ := ob2_of h
      refine ev_invV dX4_blend_20 (pc' := 23) rfl sq_4_36 mt_X4_no rfl (arecv_ob (x := 35) rfl rfl (by decide) kn_35) ⟨_, rfl, Nat.le_of_ble_eq_true rfl, Nat.le_of_ble_eq_true rfl, rfl, rfl⟩ ?_
      refine X4_no_ca  x_y33 ?_
      refine ev_r1 ?_
      obtain ⟨rfl, rfl⟩ := rt2 h
      exact ev_ireturn dX4_blend_23 rfl q
  · replace h := it_f c1 h
    refine ev_aload_n dX4_blend_4 (pc' := 5) rfl rfl ?_
    refine ev_bipush dX4_blend_5 (pc' := 7) (v := (-4)) rfl (by decide) ?_
    obtain ⟨y35, m36, x_y35, h⟩ := ob2_of h
    refine ev_invV dX4_blend_7 (pc' := 10) rfl sq_4_36 mt_X4_no rfl (arecv_ob (x := 35) rfl rfl (by decide) kn_35) ⟨_, rfl, Nat.le_of_ble_eq_true rfl, Nat.le_of_ble_eq_true rfl, rfl, rfl⟩ ?_
    refine X4_no_ca  x_y35 ?_
    refine ev_r1 ?_
    obtain ⟨rfl, rfl⟩ := rt2 h
    exact ev_ireturn dX4_blend_10 rfl q
def X4_spread_L8   (m4 : Mm) : Nat → Int32 → Int32 → Int32 → Option Int32
  | 0, _, _, _ => none
  | n + 1, w1, w2, w3 => if (m4 36 0) ≤ w3 then (if 0 ≤ w1 then (some (w1 - w2)) else (some (-9))) else (gd (vin (X4_at w3 2) 47) (if (m4 36 ((X4_at w3 2)).toNatClampNeg) = 0 then (nm (w3 + 1) (fun v9 => X4_spread_L8 m4 n w1 w2 v9)) else (gd (vin (X4_at w3 3) 47) (nm (m4 36 ((X4_at w3 3)).toNatClampNeg) (fun v11 => if v11 ≤ w1 then (nm (X4_least w2 v11) (fun v13 => nm (w3 + 1) (fun v14 => X4_spread_L8 m4 n w1 v13 v14))) else (nm (X4_least w2 v11) (fun v15 => nm (w3 + 1) (fun v16 => X4_spread_L8 m4 n v11 v15 v16))))))))
def X4_spread (_o : Nat) (mem : Mm) : Option Int32 := X4_spread_L8 mem LF (-9) 1000000000 0
set_option maxRecDepth 100000 in
set_option maxHeartbeats 8000000 in
theorem X4_spread_L8_ev {S : Sc} {d : Nat}   {m4 : Mm} {rr : Int32} {Q : Po}  (q : Q (some (.int rr)) m4) : ∀ (n : Nat) (w1 : Int32) (w2 : Int32) (w3 : Int32), X4_spread_L8 m4 n w1 w2 w3 = some rr → Ev S (d + 1) 4 cX4_spread (some .int) 8 [some (.ref 35), some (.int w1), some (.int w2), some (.int w3), none] [] m4 Q := by
  intro n
  induction n with
  | zero => intro w1 w2 w3 h; cases h
  | succ n ih =>
    intro w1 w2 w3 h
    unfold X4_spread_L8 at h
    refine ev_iload_n dX4_spread_8 (pc' := 9) rfl rfl ?_
    refine ev_aload_n dX4_spread_9 (pc' := 10) rfl rfl ?_
    refine ev_getR (y := 36) dX4_spread_10 (pc' := 13) rfl fq_4_9 kn_35 rfl ?_
    refine ev_iconst dX4_spread_13 (pc' := 14) (v := 0) rfl (by decide) ?_
    refine ev_ialdK (k0 := 0) dX4_spread_14 (pc' := 15) rfl kn_36 (by decide) rfl ?_
    refine ev_icmp_ge dX4_spread_15 (pc' := 18) rfl (t := 72) rfl (fun c5 => ?_) (fun c5 => ?_)
    · replace h := it_t c5 h
      refine ev_iload_n dX4_spread_72 (pc' := 73) rfl rfl ?_
      refine ev_if_ge dX4_spread_73 (pc' := 76) rfl (t := 81) rfl (fun c6 => ?_) (fun c6 => ?_)
      · replace h := it_t c6 h
        refine ev_iload_n dX4_spread_81 (pc' := 82) rfl rfl ?_
        refine ev_iload_n dX4_spread_82 (pc' := 83) rfl rfl ?_
        refine ev_isub dX4_spread_83 (pc' := 84) rfl ?_
        obtain rfl := rt1 h
        exact ev_ireturn dX4_spread_84 rfl q
      · replace h := it_f c6 h
        refine ev_bipush dX4_spread_76 (pc' := 78) (v := (-9)) rfl (by decide) ?_
        refine ev_goto dX4_spread_78 (t := 84) rfl ?_
        obtain rfl := rt1 h
        exact ev_ireturn dX4_spread_84 rfl q
    · replace h := it_f c5 h
      refine ev_aload_n dX4_spread_18 (pc' := 19) rfl rfl ?_
      refine ev_getR (y := 36) dX4_spread_19 (pc' := 22) rfl fq_4_9 kn_35 rfl ?_
      refine ev_iload_n dX4_spread_22 (pc' := 23) rfl rfl ?_
      refine ev_iconst dX4_spread_23 (pc' := 24) (v := 2) rfl (by decide) ?_
      refine ev_invS dX4_spread_24 (pc' := 27) rfl sq_4_44 mt_X4_at rfl ⟨_, rfl, Nat.le_of_ble_eq_true rfl, Nat.le_of_ble_eq_true rfl, rfl, rfl⟩ ?_
      refine X4_at_ca  rfl ?_
      refine ev_r1 ?_
      obtain ⟨g7, h⟩ := gd_of h
      refine ev_ialdK (k0 := ((X4_at w3 2)).toNatClampNeg) dX4_spread_27 (pc' := 28) rfl kn_36 g7 rfl ?_
      refine ev_if_ne dX4_spread_28 (pc' := 31) rfl (t := 34) rfl (fun c8 => ?_) (fun c8 => ?_)
      · replace h := it_f c8 h
        refine ev_aload_n dX4_spread_34 (pc' := 35) rfl rfl ?_
        refine ev_getR (y := 36) dX4_spread_35 (pc' := 38) rfl fq_4_9 kn_35 rfl ?_
        refine ev_iload_n dX4_spread_38 (pc' := 39) rfl rfl ?_
        refine ev_iconst dX4_spread_39 (pc' := 40) (v := 3) rfl (by decide) ?_
        refine ev_invS dX4_spread_40 (pc' := 43) rfl sq_4_44 mt_X4_at rfl ⟨_, rfl, Nat.le_of_ble_eq_true rfl, Nat.le_of_ble_eq_true rfl, rfl, rfl⟩ ?_
        refine X4_at_ca  rfl ?_
        refine ev_r1 ?_
        obtain ⟨g10, h⟩ := gd_of h
        refine ev_ialdK (k0 := ((X4_at w3 3)).toNatClampNeg) dX4_spread_43 (pc' := 44) rfl kn_36 g10 rfl ?_
        refine ev_topi (fun v11 e_v11 => ?_)
        replace h := nm_at e_v11 h
        refine ev_istore dX4_spread_44 (pc' := 46) (ls' := [some (.ref 35), some (.int w1), some (.int w2), some (.int w3), some (.int v11)]) rfl (Nat.le_of_ble_eq_true rfl) rfl ?_
        refine ev_iload dX4_spread_46 (pc' := 48) rfl rfl ?_
        refine ev_iload_n dX4_spread_48 (pc' := 49) rfl rfl ?_
        refine ev_icmp_le dX4_spread_49 (pc' := 52) rfl (t := 57) rfl (fun c12 => ?_) (fun c12 => ?_)
        · replace h := it_t c12 h
          refine ev_iload_n dX4_spread_57 (pc' := 58) rfl rfl ?_
          refine ev_istore_n dX4_spread_58 (pc' := 59) (ls' := [some (.ref 35), some (.int w1), some (.int w2), some (.int w3), some (.int v11)]) rfl (Nat.le_of_ble_eq_true rfl) rfl ?_
          refine ev_iload_n dX4_spread_59 (pc' := 60) rfl rfl ?_
          refine ev_iload dX4_spread_60 (pc' := 62) rfl rfl ?_
          refine ev_invS dX4_spread_62 (pc' := 65) rfl sq_4_48 mt_X4_least rfl ⟨_, rfl, Nat.le_of_ble_eq_true rfl, Nat.le_of_ble_eq_true rfl, rfl, rfl⟩ ?_
          refine X4_least_ca  rfl ?_
          refine ev_r1 ?_
          refine ev_topi (fun v13 e_v13 => ?_)
          replace h := nm_at e_v13 h
          refine ev_istore_n dX4_spread_65 (pc' := 66) (ls' := [some (.ref 35), some (.int w1), some (.int v13), some (.int w3), some (.int v11)]) rfl (Nat.le_of_ble_eq_true rfl) rfl ?_
          obtain ⟨v14, e_v14⟩ : ∃ y : Int32, y = (w3 + 1) := ⟨_, rfl⟩
          replace h := nm_at e_v14 h
          refine ev_iinc dX4_spread_66 (pc' := 69) (v := v14) (ls' := [some (.ref 35), some (.int w1), some (.int v13), some (.int v14), some (.int v11)]) rfl rfl (by rw [e_v14]; rfl) (Nat.le_of_ble_eq_true rfl) rfl ?_
          refine ev_goto dX4_spread_69 (t := 8) rfl ?_
          exact ev_sub (lsub_c (lsub_c (lsub_c (lsub_c (lsub_n lsub_nil))))) (ih w1 v13 v14 h)
        · replace h := it_f c12 h
          refine ev_iload dX4_spread_52 (pc' := 54) rfl rfl ?_
          refine ev_goto dX4_spread_54 (t := 58) rfl ?_
          refine ev_istore_n dX4_spread_58 (pc' := 59) (ls' := [some (.ref 35), some (.int v11), some (.int w2), some (.int w3), some (.int v11)]) rfl (Nat.le_of_ble_eq_true rfl) rfl ?_
          refine ev_iload_n dX4_spread_59 (pc' := 60) rfl rfl ?_
          refine ev_iload dX4_spread_60 (pc' := 62) rfl rfl ?_
          refine ev_invS dX4_spread_62 (pc' := 65) rfl sq_4_48 mt_X4_least rfl ⟨_, rfl, Nat.le_of_ble_eq_true rfl, Nat.le_of_ble_eq_true rfl, rfl, rfl⟩ ?_
          refine X4_least_ca  rfl ?_
          refine ev_r1 ?_
          refine ev_topi (fun v15 e_v15 => ?_)
          replace h := nm_at e_v15 h
          refine ev_istore_n dX4_spread_65 (pc' := 66) (ls' := [some (.ref 35), some (.int v11), some (.int v15), some (.int w3), some (.int v11)]) rfl (Nat.le_of_ble_eq_true rfl) rfl ?_
          obtain ⟨v16, e_v16⟩ : ∃ y : Int32, y = (w3 + 1) := ⟨_, rfl⟩
          replace h := nm_at e_v16 h
          refine ev_iinc dX4_spread_66 (pc' := 69) (v := v16) (ls' := [some (.ref 35), some (.int v11), some (.int v15), some (.int v16), some (.int v11)]) rfl rfl (by rw [e_v16]; rfl) (Nat.le_of_ble_eq_true rfl) rfl ?_
          refine ev_goto dX4_spread_69 (t := 8) rfl ?_
          exact ev_sub (lsub_c (lsub_c (lsub_c (lsub_c (lsub_n lsub_nil))))) (ih v11 v15 v16 h)
      · replace h := it_t c8 h
        refine ev_goto dX4_spread_31 (t := 66) rfl ?_
        obtain ⟨v9, e_v9⟩ : ∃ y : Int32, y = (w3 + 1) := ⟨_, rfl⟩
        replace h := nm_at e_v9 h
        refine ev_iinc dX4_spread_66 (pc' := 69) (v := v9) (ls' := [some (.ref 35), some (.int w1), some (.int w2), some (.int v9), none]) rfl rfl (by rw [e_v9]; rfl) (Nat.le_of_ble_eq_true rfl) rfl ?_
        refine ev_goto dX4_spread_69 (t := 8) rfl ?_
        exact ev_sub (lsub_c (lsub_c (lsub_c (lsub_c (lsub_c lsub_nil))))) (ih w1 w2 v9 h)
set_option maxRecDepth 100000 in
set_option maxHeartbeats 8000000 in
theorem X4_spread_ca {S : Sc} {d : Nat}  {mem : Mm} {rr : Int32} {Q : Po}  (h : X4_spread 35 mem = some rr) (q : Q (some (.int rr)) mem) : Ca S (d + 2) 158 [.ref 35] mem Q := by
  unfold X4_spread at h
  refine ca_in (by decide) mt_X4_spread (Nat.le_of_ble_eq_true rfl) ?_
  show Ev S (d + 1) 4 cX4_spread (some .int) 0 [some (.ref 35), none, none, none, none] [] mem Q
  refine ev_bipush dX4_spread_0 (pc' := 2) (v := (-9)) rfl (by decide) ?_
  refine ev_istore_n dX4_spread_2 (pc' := 3) (ls' := [some (.ref 35), some (.int (-9)), none, none, none]) rfl (Nat.le_of_ble_eq_true rfl) rfl ?_
  refine ev_ldc dX4_spread_3 (pc' := 5) rfl iq_4_157 ?_
  refine ev_istore_n dX4_spread_5 (pc' := 6) (ls' := [some (.ref 35), some (.int (-9)), some (.int 1000000000), none, none]) rfl (Nat.le_of_ble_eq_true rfl) rfl ?_
  refine ev_iconst dX4_spread_6 (pc' := 7) (v := 0) rfl (by decide) ?_
  refine ev_istore_n dX4_spread_7 (pc' := 8) (ls' := [some (.ref 35), some (.int (-9)), some (.int 1000000000), some (.int 0), none]) rfl (Nat.le_of_ble_eq_true rfl) rfl ?_
  exact ev_sub (lsub_c (lsub_c (lsub_c (lsub_c (lsub_c lsub_nil))))) (X4_spread_L8_ev  q LF (-9) 1000000000 0 h)
def X4_worthOf (p1 : Nat) (a2 : Int32) (mem : Mm) : Option Int32 := gd (vin (X4_at a2 2) 47) (gd (vin (X4_at a2 3) 47) (some ((mem p1 ((X4_at a2 2)).toNatClampNeg) * (mem p1 ((X4_at a2 3)).toNatClampNeg))))
set_option maxRecDepth 100000 in
set_option maxHeartbeats 8000000 in
theorem X4_worthOf_ca {S : Sc} {d : Nat} {p1 : Nat} {a2 : Int32} {mem : Mm} {rr : Int32} {Q : Po} (h_p1 : kdp p1 5) (l_p1 : ln p1 = 47) (h : X4_worthOf p1 a2 mem = some rr) (q : Q (some (.int rr)) mem) : Ca S (d + 2) 159 [.ref p1, .int a2] mem Q := by
  unfold X4_worthOf at h
  refine ca_in (by decide) mt_X4_worthOf (Nat.le_of_ble_eq_true rfl) ?_
  show Ev S (d + 1) 4 cX4_worthOf (some .int) 0 [some (.ref p1), some (.int a2)] [] mem Q
  refine ev_aload_n dX4_worthOf_0 (pc' := 1) rfl rfl ?_
  refine ev_iload_n dX4_worthOf_1 (pc' := 2) rfl rfl ?_
  refine ev_iconst dX4_worthOf_2 (pc' := 3) (v := 2) rfl (by decide) ?_
  refine ev_invS dX4_worthOf_3 (pc' := 6) rfl sq_4_44 mt_X4_at rfl ⟨_, rfl, Nat.le_of_ble_eq_true rfl, Nat.le_of_ble_eq_true rfl, rfl, rfl⟩ ?_
  refine X4_at_ca  rfl ?_
  refine ev_r1 ?_
  obtain ⟨g1, h⟩ := gd_of h
  refine ev_ialdK (k0 := ((X4_at a2 2)).toNatClampNeg) dX4_worthOf_6 (pc' := 7) rfl h_p1 (by rw [l_p1]; exact g1) rfl ?_
  refine ev_aload_n dX4_worthOf_7 (pc' := 8) rfl rfl ?_
  refine ev_iload_n dX4_worthOf_8 (pc' := 9) rfl rfl ?_
  refine ev_iconst dX4_worthOf_9 (pc' := 10) (v := 3) rfl (by decide) ?_
  refine ev_invS dX4_worthOf_10 (pc' := 13) rfl sq_4_44 mt_X4_at rfl ⟨_, rfl, Nat.le_of_ble_eq_true rfl, Nat.le_of_ble_eq_true rfl, rfl, rfl⟩ ?_
  refine X4_at_ca  rfl ?_
  refine ev_r1 ?_
  obtain ⟨g2, h⟩ := gd_of h
  refine ev_ialdK (k0 := ((X4_at a2 3)).toNatClampNeg) dX4_worthOf_13 (pc' := 14) rfl h_p1 (by rw [l_p1]; exact g2) rfl ?_
  refine ev_imul dX4_worthOf_14 (pc' := 15) rfl ?_
  obtain rfl := rt1 h
  exact ev_ireturn dX4_worthOf_15 rfl q
def X4_layDown_L26   (m6 : Mm) : Nat → Int32 → Int32 → Option (Int32 × Mm)
  | 0, _, _ => none
  | n + 1, w4, w5 => if (m6 36 0) ≤ w5 then (some (w4, m6)) else (if w4 < 0 then (nm (w5 + 1) (fun v9 => X4_layDown_L26 m6 n w5 v9)) else (ob (X4_worthOf 37 w5 m6) (fun y10 => ob (X4_worthOf 37 w4 m6) (fun y11 => if y10 ≤ y11 then (nm (w5 + 1) (fun v13 => X4_layDown_L26 m6 n w4 v13)) else (nm (w5 + 1) (fun v14 => X4_layDown_L26 m6 n w5 v14))))))
def X4_layDown (_o : Nat) (a1 : Int32) (mem : Mm) : Option (Int32 × Mm) := nm (X4_wrongYears a1) (fun v1 => if v1 = 0 then (ob (X4_inMind 35 a1 mem) (fun m3 => X4_layDown_L26 m3 LF (-9) 0)) else (ob2 (X4_no 35 v1 mem) (fun y15 m16 => some (y15, m16))))
set_option maxRecDepth 100000 in
set_option maxHeartbeats 8000000 in
theorem X4_layDown_L26_ev {S : Sc} {d : Nat}   {m6 : Mm} {rr : Int32} {mr : Mm} {Q : Po}  (q : Q (some (.int rr)) mr) : ∀ (n : Nat) (w4 : Int32) (w5 : Int32), X4_layDown_L26 m6 n w4 w5 = some (rr, mr) → Ev S (d + 6) 4 cX4_layDown (some .int) 26 [some (.ref 35), none, none, some (.int w4), some (.int w5)] [] m6 Q := by
  intro n
  induction n with
  | zero => intro w4 w5 h; cases h
  | succ n ih =>
    intro w4 w5 h
    unfold X4_layDown_L26 at h
    refine ev_iload dX4_layDown_26 (pc' := 28) rfl rfl ?_
    refine ev_aload_n dX4_layDown_28 (pc' := 29) rfl rfl ?_
    refine ev_getR (y := 36) dX4_layDown_29 (pc' := 32) rfl fq_4_9 kn_35 rfl ?_
    refine ev_iconst dX4_layDown_32 (pc' := 33) (v := 0) rfl (by decide) ?_
    refine ev_ialdK (k0 := 0) dX4_layDown_33 (pc' := 34) rfl kn_36 (by decide) rfl ?_
    refine ev_icmp_ge dX4_layDown_34 (pc' := 37) rfl (t := 70) rfl (fun c7 => ?_) (fun c7 => ?_)
    · replace h := it_t c7 h
      refine ev_iload_n dX4_layDown_70 (pc' := 71) rfl rfl ?_
      obtain ⟨rfl, rfl⟩ := rt2 h
      exact ev_ireturn dX4_layDown_71 rfl q
    · replace h := it_f c7 h
      refine ev_iload_n dX4_layDown_37 (pc' := 38) rfl rfl ?_
      refine ev_if_lt dX4_layDown_38 (pc' := 41) rfl (t := 61) rfl (fun c8 => ?_) (fun c8 => ?_)
      · replace h := it_t c8 h
        refine ev_iload dX4_layDown_61 (pc' := 63) rfl rfl ?_
        refine ev_istore_n dX4_layDown_63 (pc' := 64) (ls' := [some (.ref 35), none, none, some (.int w5), some (.int w5)]) rfl (Nat.le_of_ble_eq_true rfl) rfl ?_
        obtain ⟨v9, e_v9⟩ : ∃ y : Int32, y = (w5 + 1) := ⟨_, rfl⟩
        replace h := nm_at e_v9 h
        refine ev_iinc dX4_layDown_64 (pc' := 67) (v := v9) (ls' := [some (.ref 35), none, none, some (.int w5), some (.int v9)]) rfl rfl (by rw [e_v9]; rfl) (Nat.le_of_ble_eq_true rfl) rfl ?_
        refine ev_goto dX4_layDown_67 (t := 26) rfl ?_
        exact ev_sub (lsub_c (lsub_c (lsub_c (lsub_c (lsub_c lsub_nil))))) (ih w5 v9 h)
      · replace h := it_f c8 h
        refine ev_aload_n dX4_layDown_41 (pc' := 42) rfl rfl ?_
        refine ev_getR (y := 37) dX4_layDown_42 (pc' := 45) rfl fq_4_13 kn_35 rfl ?_
        refine ev_iload dX4_layDown_45 (pc' := 47) rfl rfl ?_
        obtain ⟨y10, x_y10, h⟩ := ob_of h
        refine ev_invS dX4_layDown_47 (pc' := 50) rfl sq_4_161 mt_X4_worthOf rfl ⟨_, rfl, Nat.le_of_ble_eq_true rfl, Nat.le_of_ble_eq_true rfl, rfl, rfl⟩ ?_
        refine X4_worthOf_ca kn_37 rfl x_y10 ?_
        refine ev_r1 ?_
        refine ev_aload_n dX4_layDown_50 (pc' := 51) rfl rfl ?_
        refine ev_getR (y := 37) dX4_layDown_51 (pc' := 54) rfl fq_4_13 kn_35 rfl ?_
        refine ev_iload_n dX4_layDown_54 (pc' := 55) rfl rfl ?_
        obtain ⟨y11, x_y11, h⟩ := ob_of h
        refine ev_invS dX4_layDown_55 (pc' := 58) rfl sq_4_161 mt_X4_worthOf rfl ⟨_, rfl, Nat.le_of_ble_eq_true rfl, Nat.le_of_ble_eq_true rfl, rfl, rfl⟩ ?_
        refine X4_worthOf_ca kn_37 rfl x_y11 ?_
        refine ev_r1 ?_
        refine ev_icmp_le dX4_layDown_58 (pc' := 61) rfl (t := 64) rfl (fun c12 => ?_) (fun c12 => ?_)
        · replace h := it_t c12 h
          obtain ⟨v13, e_v13⟩ : ∃ y : Int32, y = (w5 + 1) := ⟨_, rfl⟩
          replace h := nm_at e_v13 h
          refine ev_iinc dX4_layDown_64 (pc' := 67) (v := v13) (ls' := [some (.ref 35), none, none, some (.int w4), some (.int v13)]) rfl rfl (by rw [e_v13]; rfl) (Nat.le_of_ble_eq_true rfl) rfl ?_
          refine ev_goto dX4_layDown_67 (t := 26) rfl ?_
          exact ev_sub (lsub_c (lsub_c (lsub_c (lsub_c (lsub_c lsub_nil))))) (ih w4 v13 h)
        · replace h := it_f c12 h
          refine ev_iload dX4_layDown_61 (pc' := 63) rfl rfl ?_
          refine ev_istore_n dX4_layDown_63 (pc' := 64) (ls' := [some (.ref 35), none, none, some (.int w5), some (.int w5)]) rfl (Nat.le_of_ble_eq_true rfl) rfl ?_
          obtain ⟨v14, e_v14⟩ : ∃ y : Int32, y = (w5 + 1) := ⟨_, rfl⟩
          replace h := nm_at e_v14 h
          refine ev_iinc dX4_layDown_64 (pc' := 67) (v := v14) (ls' := [some (.ref 35), none, none, some (.int w5), some (.int v14)]) rfl rfl (by rw [e_v14]; rfl) (Nat.le_of_ble_eq_true rfl) rfl ?_
          refine ev_goto dX4_layDown_67 (t := 26) rfl ?_
          exact ev_sub (lsub_c (lsub_c (lsub_c (lsub_c (lsub_c lsub_nil))))) (ih w5 v14 h)
set_option maxRecDepth 100000 in
set_option maxHeartbeats 8000000 in
theorem X4_layDown_ca {S : Sc} {d : Nat} {a1 : Int32} {mem : Mm} {rr : Int32} {mr : Mm} {Q : Po}  (h : X4_layDown 35 a1 mem = some (rr, mr)) (q : Q (some (.int rr)) mr) : Ca S (d + 7) 160 [.ref 35, .int a1] mem Q := by
  unfold X4_layDown at h
  refine ca_in (by decide) mt_X4_layDown (Nat.le_of_ble_eq_true rfl) ?_
  show Ev S (d + 6) 4 cX4_layDown (some .int) 0 [some (.ref 35), some (.int a1), none, none, none] [] mem Q
  refine ev_iload_n dX4_layDown_0 (pc' := 1) rfl rfl ?_
  refine ev_invS dX4_layDown_1 (pc' := 4) rfl sq_4_128 mt_X4_wrongYears rfl ⟨_, rfl, Nat.le_of_ble_eq_true rfl, Nat.le_of_ble_eq_true rfl, rfl, rfl⟩ ?_
  refine X4_wrongYears_ca  rfl ?_
  refine ev_r1 ?_
  refine ev_topi (fun v1 e_v1 => ?_)
  replace h := nm_at e_v1 h
  refine ev_istore_n dX4_layDown_4 (pc' := 5) (ls' := [some (.ref 35), some (.int a1), some (.int v1), none, none]) rfl (Nat.le_of_ble_eq_true rfl) rfl ?_
  refine ev_iload_n dX4_layDown_5 (pc' := 6) rfl rfl ?_
  refine ev_if_eq dX4_layDown_6 (pc' := 9) rfl (t := 15) rfl (fun c2 => ?_) (fun c2 => ?_)
  · replace h := it_t c2 h
    refine ev_aload_n dX4_layDown_15 (pc' := 16) rfl rfl ?_
    refine ev_iload_n dX4_layDown_16 (pc' := 17) rfl rfl ?_
    obtain ⟨m3, x_m3, h⟩ := ob_of h
    refine ev_invV dX4_layDown_17 (pc' := 20) rfl sq_4_131 mt_X4_inMind rfl (arecv_ob (x := 35) rfl rfl (by decide) kn_35) ⟨_, rfl, Nat.le_of_ble_eq_true rfl, Nat.le_of_ble_eq_true rfl, rfl, rfl⟩ ?_
    refine X4_inMind_ca  x_m3 ?_
    refine ev_r0 ?_
    refine ev_bipush dX4_layDown_20 (pc' := 22) (v := (-9)) rfl (by decide) ?_
    refine ev_istore_n dX4_layDown_22 (pc' := 23) (ls' := [some (.ref 35), some (.int a1), some (.int v1), some (.int (-9)), none]) rfl (Nat.le_of_ble_eq_true rfl) rfl ?_
    refine ev_iconst dX4_layDown_23 (pc' := 24) (v := 0) rfl (by decide) ?_
    refine ev_istore dX4_layDown_24 (pc' := 26) (ls' := [some (.ref 35), some (.int a1), some (.int v1), some (.int (-9)), some (.int 0)]) rfl (Nat.le_of_ble_eq_true rfl) rfl ?_
    exact ev_sub (lsub_c (lsub_n (lsub_n (lsub_c (lsub_c lsub_nil))))) (X4_layDown_L26_ev  q LF (-9) 0 h)
  · replace h := it_f c2 h
    refine ev_aload_n dX4_layDown_9 (pc' := 10) rfl rfl ?_
    refine ev_iload_n dX4_layDown_10 (pc' := 11) rfl rfl ?_
    obtain ⟨y15, m16, x_y15, h⟩ := ob2_of h
    refine ev_invV dX4_layDown_11 (pc' := 14) rfl sq_4_36 mt_X4_no rfl (arecv_ob (x := 35) rfl rfl (by decide) kn_35) ⟨_, rfl, Nat.le_of_ble_eq_true rfl, Nat.le_of_ble_eq_true rfl, rfl, rfl⟩ ?_
    refine X4_no_ca  x_y15 ?_
    refine ev_r1 ?_
    obtain ⟨rfl, rfl⟩ := rt2 h
    exact ev_ireturn dX4_layDown_14 rfl q
def X4_sell_L26   (m6 : Mm) : Nat → Int32 → Int32 → Option (Int32 × Mm)
  | 0, _, _ => none
  | n + 1, w4, w5 => if (m6 36 0) ≤ w5 then (some (w4, m6)) else (gd (vin (X4_at w5 2) 47) (nm (m6 36 ((X4_at w5 2)).toNatClampNeg) (fun v9 => if v9 = 0 then (nm (w5 + 1) (fun v11 => X4_sell_L26 m6 n w4 v11)) else (if w4 < 0 then (nm (w5 + 1) (fun v13 => X4_sell_L26 m6 n w5 v13)) else (ob (X4_worthOf 37 w5 m6) (fun y14 => gd (vin (X4_at w4 2) 47) (ob (X4_worthOf 37 w4 m6) (fun y16 => if 0 ≤ (lg_cmp ((y14).toInt64 * ((m6 36 ((X4_at w4 2)).toNatClampNeg)).toInt64) ((y16).toInt64 * (v9).toInt64)) then (nm (w5 + 1) (fun v18 => X4_sell_L26 m6 n w4 v18)) else (nm (w5 + 1) (fun v19 => X4_sell_L26 m6 n w5 v19))))))))))
def X4_sell (_o : Nat) (a1 : Int32) (mem : Mm) : Option (Int32 × Mm) := nm (X4_wrongYears a1) (fun v1 => if v1 = 0 then (ob (X4_inMind 35 a1 mem) (fun m3 => X4_sell_L26 m3 LF (-9) 0)) else (ob2 (X4_no 35 v1 mem) (fun y20 m21 => some (y20, m21))))
set_option maxRecDepth 100000 in
set_option maxHeartbeats 8000000 in
theorem X4_sell_L26_ev {S : Sc} {d : Nat}   {m6 : Mm} {rr : Int32} {mr : Mm} {Q : Po}  (q : Q (some (.int rr)) mr) : ∀ (n : Nat) (w4 : Int32) (w5 : Int32), X4_sell_L26 m6 n w4 w5 = some (rr, mr) → Ev S (d + 6) 4 cX4_sell (some .int) 26 [some (.ref 35), none, none, some (.int w4), some (.int w5), none] [] m6 Q := by
  intro n
  induction n with
  | zero => intro w4 w5 h; cases h
  | succ n ih =>
    intro w4 w5 h
    unfold X4_sell_L26 at h
    refine ev_iload dX4_sell_26 (pc' := 28) rfl rfl ?_
    refine ev_aload_n dX4_sell_28 (pc' := 29) rfl rfl ?_
    refine ev_getR (y := 36) dX4_sell_29 (pc' := 32) rfl fq_4_9 kn_35 rfl ?_
    refine ev_iconst dX4_sell_32 (pc' := 33) (v := 0) rfl (by decide) ?_
    refine ev_ialdK (k0 := 0) dX4_sell_33 (pc' := 34) rfl kn_36 (by decide) rfl ?_
    refine ev_icmp_ge dX4_sell_34 (pc' := 37) rfl (t := 110) rfl (fun c7 => ?_) (fun c7 => ?_)
    · replace h := it_t c7 h
      refine ev_iload_n dX4_sell_110 (pc' := 111) rfl rfl ?_
      obtain ⟨rfl, rfl⟩ := rt2 h
      exact ev_ireturn dX4_sell_111 rfl q
    · replace h := it_f c7 h
      refine ev_aload_n dX4_sell_37 (pc' := 38) rfl rfl ?_
      refine ev_getR (y := 36) dX4_sell_38 (pc' := 41) rfl fq_4_9 kn_35 rfl ?_
      refine ev_iload dX4_sell_41 (pc' := 43) rfl rfl ?_
      refine ev_iconst dX4_sell_43 (pc' := 44) (v := 2) rfl (by decide) ?_
      refine ev_invS dX4_sell_44 (pc' := 47) rfl sq_4_44 mt_X4_at rfl ⟨_, rfl, Nat.le_of_ble_eq_true rfl, Nat.le_of_ble_eq_true rfl, rfl, rfl⟩ ?_
      refine X4_at_ca  rfl ?_
      refine ev_r1 ?_
      obtain ⟨g8, h⟩ := gd_of h
      refine ev_ialdK (k0 := ((X4_at w5 2)).toNatClampNeg) dX4_sell_47 (pc' := 48) rfl kn_36 g8 rfl ?_
      refine ev_topi (fun v9 e_v9 => ?_)
      replace h := nm_at e_v9 h
      refine ev_istore dX4_sell_48 (pc' := 50) (ls' := [some (.ref 35), none, none, some (.int w4), some (.int w5), some (.int v9)]) rfl (Nat.le_of_ble_eq_true rfl) rfl ?_
      refine ev_iload dX4_sell_50 (pc' := 52) rfl rfl ?_
      refine ev_if_ne dX4_sell_52 (pc' := 55) rfl (t := 58) rfl (fun c10 => ?_) (fun c10 => ?_)
      · replace h := it_f c10 h
        refine ev_iload_n dX4_sell_58 (pc' := 59) rfl rfl ?_
        refine ev_if_lt dX4_sell_59 (pc' := 62) rfl (t := 101) rfl (fun c12 => ?_) (fun c12 => ?_)
        · replace h := it_t c12 h
          refine ev_iload dX4_sell_101 (pc' := 103) rfl rfl ?_
          refine ev_istore_n dX4_sell_103 (pc' := 104) (ls' := [some (.ref 35), none, none, some (.int w5), some (.int w5), some (.int v9)]) rfl (Nat.le_of_ble_eq_true rfl) rfl ?_
          obtain ⟨v13, e_v13⟩ : ∃ y : Int32, y = (w5 + 1) := ⟨_, rfl⟩
          replace h := nm_at e_v13 h
          refine ev_iinc dX4_sell_104 (pc' := 107) (v := v13) (ls' := [some (.ref 35), none, none, some (.int w5), some (.int v13), some (.int v9)]) rfl rfl (by rw [e_v13]; rfl) (Nat.le_of_ble_eq_true rfl) rfl ?_
          refine ev_goto dX4_sell_107 (t := 26) rfl ?_
          exact ev_sub (lsub_c (lsub_c (lsub_c (lsub_c (lsub_c (lsub_n lsub_nil)))))) (ih w5 v13 h)
        · replace h := it_f c12 h
          refine ev_aload_n dX4_sell_62 (pc' := 63) rfl rfl ?_
          refine ev_getR (y := 37) dX4_sell_63 (pc' := 66) rfl fq_4_13 kn_35 rfl ?_
          refine ev_iload dX4_sell_66 (pc' := 68) rfl rfl ?_
          obtain ⟨y14, x_y14, h⟩ := ob_of h
          refine ev_invS dX4_sell_68 (pc' := 71) rfl sq_4_161 mt_X4_worthOf rfl ⟨_, rfl, Nat.le_of_ble_eq_true rfl, Nat.le_of_ble_eq_true rfl, rfl, rfl⟩ ?_
          refine X4_worthOf_ca kn_37 rfl x_y14 ?_
          refine ev_r1 ?_
          refine ev_i2l dX4_sell_71 (pc' := 72) rfl ?_
          refine ev_aload_n dX4_sell_72 (pc' := 73) rfl rfl ?_
          refine ev_getR (y := 36) dX4_sell_73 (pc' := 76) rfl fq_4_9 kn_35 rfl ?_
          refine ev_iload_n dX4_sell_76 (pc' := 77) rfl rfl ?_
          refine ev_iconst dX4_sell_77 (pc' := 78) (v := 2) rfl (by decide) ?_
          refine ev_invS dX4_sell_78 (pc' := 81) rfl sq_4_44 mt_X4_at rfl ⟨_, rfl, Nat.le_of_ble_eq_true rfl, Nat.le_of_ble_eq_true rfl, rfl, rfl⟩ ?_
          refine X4_at_ca  rfl ?_
          refine ev_r1 ?_
          obtain ⟨g15, h⟩ := gd_of h
          refine ev_ialdK (k0 := ((X4_at w4 2)).toNatClampNeg) dX4_sell_81 (pc' := 82) rfl kn_36 g15 rfl ?_
          refine ev_i2l dX4_sell_82 (pc' := 83) rfl ?_
          refine ev_lmul dX4_sell_83 (pc' := 84) rfl ?_
          refine ev_aload_n dX4_sell_84 (pc' := 85) rfl rfl ?_
          refine ev_getR (y := 37) dX4_sell_85 (pc' := 88) rfl fq_4_13 kn_35 rfl ?_
          refine ev_iload_n dX4_sell_88 (pc' := 89) rfl rfl ?_
          obtain ⟨y16, x_y16, h⟩ := ob_of h
          refine ev_invS dX4_sell_89 (pc' := 92) rfl sq_4_161 mt_X4_worthOf rfl ⟨_, rfl, Nat.le_of_ble_eq_true rfl, Nat.le_of_ble_eq_true rfl, rfl, rfl⟩ ?_
          refine X4_worthOf_ca kn_37 rfl x_y16 ?_
          refine ev_r1 ?_
          refine ev_i2l dX4_sell_92 (pc' := 93) rfl ?_
          refine ev_iload dX4_sell_93 (pc' := 95) rfl rfl ?_
          refine ev_i2l dX4_sell_95 (pc' := 96) rfl ?_
          refine ev_lmul dX4_sell_96 (pc' := 97) rfl ?_
          refine ev_lcmp dX4_sell_97 (pc' := 98) rfl ?_
          refine ev_if_ge dX4_sell_98 (pc' := 101) rfl (t := 104) rfl (fun c17 => ?_) (fun c17 => ?_)
          · replace h := it_t c17 h
            obtain ⟨v18, e_v18⟩ : ∃ y : Int32, y = (w5 + 1) := ⟨_, rfl⟩
            replace h := nm_at e_v18 h
            refine ev_iinc dX4_sell_104 (pc' := 107) (v := v18) (ls' := [some (.ref 35), none, none, some (.int w4), some (.int v18), some (.int v9)]) rfl rfl (by rw [e_v18]; rfl) (Nat.le_of_ble_eq_true rfl) rfl ?_
            refine ev_goto dX4_sell_107 (t := 26) rfl ?_
            exact ev_sub (lsub_c (lsub_c (lsub_c (lsub_c (lsub_c (lsub_n lsub_nil)))))) (ih w4 v18 h)
          · replace h := it_f c17 h
            refine ev_iload dX4_sell_101 (pc' := 103) rfl rfl ?_
            refine ev_istore_n dX4_sell_103 (pc' := 104) (ls' := [some (.ref 35), none, none, some (.int w5), some (.int w5), some (.int v9)]) rfl (Nat.le_of_ble_eq_true rfl) rfl ?_
            obtain ⟨v19, e_v19⟩ : ∃ y : Int32, y = (w5 + 1) := ⟨_, rfl⟩
            replace h := nm_at e_v19 h
            refine ev_iinc dX4_sell_104 (pc' := 107) (v := v19) (ls' := [some (.ref 35), none, none, some (.int w5), some (.int v19), some (.int v9)]) rfl rfl (by rw [e_v19]; rfl) (Nat.le_of_ble_eq_true rfl) rfl ?_
            refine ev_goto dX4_sell_107 (t := 26) rfl ?_
            exact ev_sub (lsub_c (lsub_c (lsub_c (lsub_c (lsub_c (lsub_n lsub_nil)))))) (ih w5 v19 h)
      · replace h := it_t c10 h
        refine ev_goto dX4_sell_55 (t := 104) rfl ?_
        obtain ⟨v11, e_v11⟩ : ∃ y : Int32, y = (w5 + 1) := ⟨_, rfl⟩
        replace h := nm_at e_v11 h
        refine ev_iinc dX4_sell_104 (pc' := 107) (v := v11) (ls' := [some (.ref 35), none, none, some (.int w4), some (.int v11), some (.int v9)]) rfl rfl (by rw [e_v11]; rfl) (Nat.le_of_ble_eq_true rfl) rfl ?_
        refine ev_goto dX4_sell_107 (t := 26) rfl ?_
        exact ev_sub (lsub_c (lsub_c (lsub_c (lsub_c (lsub_c (lsub_n lsub_nil)))))) (ih w4 v11 h)
set_option maxRecDepth 100000 in
set_option maxHeartbeats 8000000 in
theorem X4_sell_ca {S : Sc} {d : Nat} {a1 : Int32} {mem : Mm} {rr : Int32} {mr : Mm} {Q : Po}  (h : X4_sell 35 a1 mem = some (rr, mr)) (q : Q (some (.int rr)) mr) : Ca S (d + 7) 161 [.ref 35, .int a1] mem Q := by
  unfold X4_sell at h
  refine ca_in (by decide) mt_X4_sell (Nat.le_of_ble_eq_true rfl) ?_
  show Ev S (d + 6) 4 cX4_sell (some .int) 0 [some (.ref 35), some (.int a1), none, none, none, none] [] mem Q
  refine ev_iload_n dX4_sell_0 (pc' := 1) rfl rfl ?_
  refine ev_invS dX4_sell_1 (pc' := 4) rfl sq_4_128 mt_X4_wrongYears rfl ⟨_, rfl, Nat.le_of_ble_eq_true rfl, Nat.le_of_ble_eq_true rfl, rfl, rfl⟩ ?_
  refine X4_wrongYears_ca  rfl ?_
  refine ev_r1 ?_
  refine ev_topi (fun v1 e_v1 => ?_)
  replace h := nm_at e_v1 h
  refine ev_istore_n dX4_sell_4 (pc' := 5) (ls' := [some (.ref 35), some (.int a1), some (.int v1), none, none, none]) rfl (Nat.le_of_ble_eq_true rfl) rfl ?_
  refine ev_iload_n dX4_sell_5 (pc' := 6) rfl rfl ?_
  refine ev_if_eq dX4_sell_6 (pc' := 9) rfl (t := 15) rfl (fun c2 => ?_) (fun c2 => ?_)
  · replace h := it_t c2 h
    refine ev_aload_n dX4_sell_15 (pc' := 16) rfl rfl ?_
    refine ev_iload_n dX4_sell_16 (pc' := 17) rfl rfl ?_
    obtain ⟨m3, x_m3, h⟩ := ob_of h
    refine ev_invV dX4_sell_17 (pc' := 20) rfl sq_4_131 mt_X4_inMind rfl (arecv_ob (x := 35) rfl rfl (by decide) kn_35) ⟨_, rfl, Nat.le_of_ble_eq_true rfl, Nat.le_of_ble_eq_true rfl, rfl, rfl⟩ ?_
    refine X4_inMind_ca  x_m3 ?_
    refine ev_r0 ?_
    refine ev_bipush dX4_sell_20 (pc' := 22) (v := (-9)) rfl (by decide) ?_
    refine ev_istore_n dX4_sell_22 (pc' := 23) (ls' := [some (.ref 35), some (.int a1), some (.int v1), some (.int (-9)), none, none]) rfl (Nat.le_of_ble_eq_true rfl) rfl ?_
    refine ev_iconst dX4_sell_23 (pc' := 24) (v := 0) rfl (by decide) ?_
    refine ev_istore dX4_sell_24 (pc' := 26) (ls' := [some (.ref 35), some (.int a1), some (.int v1), some (.int (-9)), some (.int 0), none]) rfl (Nat.le_of_ble_eq_true rfl) rfl ?_
    exact ev_sub (lsub_c (lsub_n (lsub_n (lsub_c (lsub_c (lsub_c lsub_nil)))))) (X4_sell_L26_ev  q LF (-9) 0 h)
  · replace h := it_f c2 h
    refine ev_aload_n dX4_sell_9 (pc' := 10) rfl rfl ?_
    refine ev_iload_n dX4_sell_10 (pc' := 11) rfl rfl ?_
    obtain ⟨y20, m21, x_y20, h⟩ := ob2_of h
    refine ev_invV dX4_sell_11 (pc' := 14) rfl sq_4_36 mt_X4_no rfl (arecv_ob (x := 35) rfl rfl (by decide) kn_35) ⟨_, rfl, Nat.le_of_ble_eq_true rfl, Nat.le_of_ble_eq_true rfl, rfl, rfl⟩ ?_
    refine X4_no_ca  x_y20 ?_
    refine ev_r1 ?_
    obtain ⟨rfl, rfl⟩ := rt2 h
    exact ev_ireturn dX4_sell_14 rfl q
