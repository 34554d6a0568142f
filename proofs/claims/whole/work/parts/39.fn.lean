def X4_town_L62  (a14 : Int32) (k : Int32 → Mm → Option (Int32 × Mm)) : Nat → Int32 → Mm → Option (Int32 × Mm)
  | 0, _, _ => none
  | n + 1, w15, m16 => if w15 = (-9) then (if (m16 35 8) ≤ (m16 35 12) then (k w15 m16) else (nm (m16 35 12) (fun v19 => ob (X4_here 35 m16) (fun y20 => ob2 (X4_readsStatement 35 m16) (fun y21 m22 => ob2 (X4_isDone 35 y20 m22) (fun y23 m24 => if y23 = 0 then (nm ((-2000) - v19) (fun v26 => ob (X4_lays 39 36 m24) (fun m27 => X4_town_L62 a14 k n v26 m27))) else (X4_town_L62 a14 k n w15 m24))))))) else (k w15 m16)
def X4_town_L10   : Nat → Int32 → Int32 → Mm → Option (Int32 × Mm)
  | 0, _, _, _ => none
  | n + 1, w2, w3, m4 => ob2 (X4_readsStatement 35 m4) (fun y5 m6 => if y5 = 0 then (nm ((-1000) - (m6 35 12)) (fun v8 => nm (w2 + 1) (fun v9 => if v8 = (-9) then (if (m6 35 12) < (m6 35 8) then (X4_town_L10  n v9 v8 m6) else (ob (X4_lays 36 39 m6) (fun m12 => nm (mset m12 35 12 0) (fun m13 => X4_town_L62 v9 (fun v28 m29 => nm (mset m29 35 8 0) (fun m30 => if v28 = (-9) then (some (v9, m30)) else (some (v28, m30)))) LF v8 m13)))) else (ob (X4_lays 36 39 m6) (fun m32 => nm (mset m32 35 12 0) (fun m33 => X4_town_L62 v9 (fun v34 m35 => nm (mset m35 35 8 0) (fun m36 => if v34 = (-9) then (some (v9, m36)) else (some (v34, m36)))) LF v8 m33)))))) else (nm (w2 + 1) (fun v38 => if w3 = (-9) then (if (m6 35 12) < (m6 35 8) then (X4_town_L10  n v38 w3 m6) else (ob (X4_lays 36 39 m6) (fun m41 => nm (mset m41 35 12 0) (fun m42 => X4_town_L62 v38 (fun v43 m44 => nm (mset m44 35 8 0) (fun m45 => if v43 = (-9) then (some (v38, m45)) else (some (v43, m45)))) LF w3 m42)))) else (ob (X4_lays 36 39 m6) (fun m47 => nm (mset m47 35 12 0) (fun m48 => X4_town_L62 v38 (fun v49 m50 => nm (mset m50 35 8 0) (fun m51 => if v49 = (-9) then (some (v38, m51)) else (some (v49, m51)))) LF w3 m48))))))
def X4_town (_o : Nat) (mem : Mm) : Option (Int32 × Mm) := nm (mset mem 35 12 0) (fun m1 => X4_town_L10  LF 0 (-9) m1)
set_option maxRecDepth 100000 in
set_option maxHeartbeats 8000000 in
theorem X4_town_L62_ev {S : Sc} {d : Nat}  {a14 : Int32} {k : Int32 → Mm → Option (Int32 × Mm)} {rr : Int32} {mr : Mm} {Q : Po}  (q : Q (some (.int rr)) mr) (hk : ∀ (w15 : Int32) (m16 : Mm), k w15 m16 = some (rr, mr) → Ev S (d + 6) 4 cX4_town (some .int) 128 [some (.ref 35), some (.int a14), some (.int w15), none, none, none] [] m16 Q) : ∀ (n : Nat) (w15 : Int32) (m16 : Mm), X4_town_L62 a14 k n w15 m16 = some (rr, mr) → Ev S (d + 6) 4 cX4_town (some .int) 62 [some (.ref 35), some (.int a14), some (.int w15), none, none, none] [] m16 Q := by
  intro n
  induction n with
  | zero => intro w15 m16 h; cases h
  | succ n ih =>
    intro w15 m16 h
    unfold X4_town_L62 at h
    refine ev_iload_n dX4_town_62 (pc' := 63) rfl rfl ?_
    refine ev_bipush dX4_town_63 (pc' := 65) (v := (-9)) rfl (by decide) ?_
    refine ev_icmp_ne dX4_town_65 (pc' := 68) rfl (t := 128) rfl (fun c17 => ?_) (fun c17 => ?_)
    · replace h := it_f c17 h
      exact ev_sub (lsub_c (lsub_c (lsub_c (lsub_c (lsub_c (lsub_c lsub_nil)))))) (hk w15 m16 h)
    · replace h := it_t c17 h
      refine ev_aload_n dX4_town_68 (pc' := 69) rfl rfl ?_
      refine ev_get dX4_town_69 (pc' := 72) rfl fq_4_89 kn_35 rfl ?_
      refine ev_aload_n dX4_town_72 (pc' := 73) rfl rfl ?_
      refine ev_get dX4_town_73 (pc' := 76) rfl fq_4_86 kn_35 rfl ?_
      refine ev_icmp_ge dX4_town_76 (pc' := 79) rfl (t := 128) rfl (fun c18 => ?_) (fun c18 => ?_)
      · replace h := it_t c18 h
        exact ev_sub (lsub_c (lsub_c (lsub_c (lsub_c (lsub_c (lsub_c lsub_nil)))))) (hk w15 m16 h)
      · replace h := it_f c18 h
        refine ev_aload_n dX4_town_79 (pc' := 80) rfl rfl ?_
        refine ev_get dX4_town_80 (pc' := 83) rfl fq_4_89 kn_35 rfl ?_
        refine ev_topi (fun v19 e_v19 => ?_)
        replace h := nm_at e_v19 h
        refine ev_istore_n dX4_town_83 (pc' := 84) (ls' := [some (.ref 35), some (.int a14), some (.int w15), some (.int v19), none, none]) rfl (Nat.le_of_ble_eq_true rfl) rfl ?_
        refine ev_aload_n dX4_town_84 (pc' := 85) rfl rfl ?_
        obtain ⟨y20, x_y20, h⟩ := ob_of h
        refine ev_invV dX4_town_85 (pc' := 88) rfl sq_4_92 mt_X4_here rfl (arecv_ob (x := 35) rfl rfl (by decide) kn_35) ⟨_, rfl, Nat.le_of_ble_eq_true rfl, Nat.le_of_ble_eq_true rfl, rfl, rfl⟩ ?_
        refine X4_here_ca  x_y20 ?_
        refine ev_r1 ?_
        refine ev_istore dX4_town_88 (pc' := 90) (ls' := [some (.ref 35), some (.int a14), some (.int w15), some (.int v19), some (.int y20), none]) rfl (Nat.le_of_ble_eq_true rfl) rfl ?_
        refine ev_aload_n dX4_town_90 (pc' := 91) rfl rfl ?_
        obtain ⟨y21, m22, x_y21, h⟩ := ob2_of h
        refine ev_invV dX4_town_91 (pc' := 94) rfl sq_4_122 mt_X4_readsStatement rfl (arecv_ob (x := 35) rfl rfl (by decide) kn_35) ⟨_, rfl, Nat.le_of_ble_eq_true rfl, Nat.le_of_ble_eq_true rfl, rfl, rfl⟩ ?_
        refine X4_readsStatement_ca  x_y21 ?_
        refine ev_r1 ?_
        refine ev_istore dX4_town_94 (pc' := 96) (ls' := [some (.ref 35), some (.int a14), some (.int w15), some (.int v19), some (.int y20), some (.int y21)]) rfl (Nat.le_of_ble_eq_true rfl) rfl ?_
        refine ev_aload_n dX4_town_96 (pc' := 97) rfl rfl ?_
        refine ev_iload dX4_town_97 (pc' := 99) rfl rfl ?_
        obtain ⟨y23, m24, x_y23, h⟩ := ob2_of h
        refine ev_invV dX4_town_99 (pc' := 102) rfl sq_4_125 mt_X4_isDone rfl (arecv_ob (x := 35) rfl rfl (by decide) kn_35) ⟨_, rfl, Nat.le_of_ble_eq_true rfl, Nat.le_of_ble_eq_true rfl, rfl, rfl⟩ ?_
        refine X4_isDone_ca  x_y23 ?_
        refine ev_r1 ?_
        refine ev_if_eq dX4_town_102 (pc' := 105) rfl (t := 108) rfl (fun c25 => ?_) (fun c25 => ?_)
        · replace h := it_t c25 h
          refine ev_sipush dX4_town_108 (pc' := 111) (v := (-2000)) rfl (by decide) ?_
          refine ev_iload_n dX4_town_111 (pc' := 112) rfl rfl ?_
          refine ev_isub dX4_town_112 (pc' := 113) rfl ?_
          refine ev_topi (fun v26 e_v26 => ?_)
          replace h := nm_at e_v26 h
          refine ev_istore_n dX4_town_113 (pc' := 114) (ls' := [some (.ref 35), some (.int a14), some (.int v26), some (.int v19), some (.int y20), some (.int y21)]) rfl (Nat.le_of_ble_eq_true rfl) rfl ?_
          refine ev_aload_n dX4_town_114 (pc' := 115) rfl rfl ?_
          refine ev_getR (y := 39) dX4_town_115 (pc' := 118) rfl fq_4_19 kn_35 rfl ?_
          refine ev_aload_n dX4_town_118 (pc' := 119) rfl rfl ?_
          refine ev_getR (y := 36) dX4_town_119 (pc' := 122) rfl fq_4_9 kn_35 rfl ?_
          obtain ⟨m27, x_m27, h⟩ := ob_of h
          refine ev_invS dX4_town_122 (pc' := 125) rfl sq_4_78 mt_X4_lays rfl ⟨_, rfl, Nat.le_of_ble_eq_true rfl, Nat.le_of_ble_eq_true rfl, rfl, rfl⟩ ?_
          refine X4_lays_ca kn_39 rfl kn_36 rfl x_m27 ?_
          refine ev_r0 ?_
          refine ev_goto dX4_town_125 (t := 62) rfl ?_
          exact ev_sub (lsub_c (lsub_c (lsub_c (lsub_n (lsub_n (lsub_n lsub_nil)))))) (ih v26 m27 h)
        · replace h := it_f c25 h
          refine ev_goto dX4_town_105 (t := 62) rfl ?_
          exact ev_sub (lsub_c (lsub_c (lsub_c (lsub_n (lsub_n (lsub_n lsub_nil)))))) (ih w15 m24 h)
set_option maxRecDepth 100000 in
set_option maxHeartbeats 8000000 in
theorem X4_town_L10_ev {S : Sc} {d : Nat}   {rr : Int32} {mr : Mm} {Q : Po}  (q : Q (some (.int rr)) mr) : ∀ (n : Nat) (w2 : Int32) (w3 : Int32) (m4 : Mm), X4_town_L10  n w2 w3 m4 = some (rr, mr) → Ev S (d + 6) 4 cX4_town (some .int) 10 [some (.ref 35), some (.int w2), some (.int w3), none, none, none] [] m4 Q := by
  intro n
  induction n with
  | zero => intro w2 w3 m4 h; cases h
  | succ n ih =>
    intro w2 w3 m4 h
    unfold X4_town_L10 at h
    refine ev_aload_n dX4_town_10 (pc' := 11) rfl rfl ?_
    obtain ⟨y5, m6, x_y5, h⟩ := ob2_of h
    refine ev_invV dX4_town_11 (pc' := 14) rfl sq_4_122 mt_X4_readsStatement rfl (arecv_ob (x := 35) rfl rfl (by decide) kn_35) ⟨_, rfl, Nat.le_of_ble_eq_true rfl, Nat.le_of_ble_eq_true rfl, rfl, rfl⟩ ?_
    refine X4_readsStatement_ca  x_y5 ?_
    refine ev_r1 ?_
    refine ev_if_ne dX4_town_14 (pc' := 17) rfl (t := 26) rfl (fun c7 => ?_) (fun c7 => ?_)
    · replace h := it_f c7 h
      obtain ⟨v38, e_v38⟩ : ∃ y : Int32, y = (w2 + 1) := ⟨_, rfl⟩
      replace h := nm_at e_v38 h
      refine ev_iinc dX4_town_26 (pc' := 29) (v := v38) (ls' := [some (.ref 35), some (.int v38), some (.int w3), none, none, none]) rfl rfl (by rw [e_v38]; rfl) (Nat.le_of_ble_eq_true rfl) rfl ?_
      refine ev_iload_n dX4_town_29 (pc' := 30) rfl rfl ?_
      refine ev_bipush dX4_town_30 (pc' := 32) (v := (-9)) rfl (by decide) ?_
      refine ev_icmp_ne dX4_town_32 (pc' := 35) rfl (t := 46) rfl (fun c39 => ?_) (fun c39 => ?_)
      · replace h := it_f c39 h
        refine ev_aload_n dX4_town_46 (pc' := 47) rfl rfl ?_
        refine ev_getR (y := 36) dX4_town_47 (pc' := 50) rfl fq_4_9 kn_35 rfl ?_
        refine ev_aload_n dX4_town_50 (pc' := 51) rfl rfl ?_
        refine ev_getR (y := 39) dX4_town_51 (pc' := 54) rfl fq_4_19 kn_35 rfl ?_
        obtain ⟨m47, x_m47, h⟩ := ob_of h
        refine ev_invS dX4_town_54 (pc' := 57) rfl sq_4_78 mt_X4_lays rfl ⟨_, rfl, Nat.le_of_ble_eq_true rfl, Nat.le_of_ble_eq_true rfl, rfl, rfl⟩ ?_
        refine X4_lays_ca kn_36 rfl kn_39 rfl x_m47 ?_
        refine ev_r0 ?_
        refine ev_aload_n dX4_town_57 (pc' := 58) rfl rfl ?_
        refine ev_iconst dX4_town_58 (pc' := 59) (v := 0) rfl (by decide) ?_
        refine ev_put dX4_town_59 (pc' := 62) rfl fq_4_89 kn_35 rfl (Or.inl (by decide)) ?_
        refine ev_topm (fun m48 e_m48 => ?_)
        replace h := nm_at e_m48 h
        refine ev_sub (lsub_c (lsub_c (lsub_c (lsub_c (lsub_c (lsub_c lsub_nil)))))) (X4_town_L62_ev  (k := fun v49 m50 => nm (mset m50 35 8 0) (fun m51 => if v49 = (-9) then (some (v38, m51)) else (some (v49, m51)))) q (fun v49 m50 h => ?_) LF w3 m48 h)
        refine ev_aload_n dX4_town_128 (pc' := 129) rfl rfl ?_
        refine ev_iconst dX4_town_129 (pc' := 130) (v := 0) rfl (by decide) ?_
        refine ev_put dX4_town_130 (pc' := 133) rfl fq_4_86 kn_35 rfl (Or.inl (by decide)) ?_
        refine ev_topm (fun m51 e_m51 => ?_)
        replace h := nm_at e_m51 h
        refine ev_iload_n dX4_town_133 (pc' := 134) rfl rfl ?_
        refine ev_bipush dX4_town_134 (pc' := 136) (v := (-9)) rfl (by decide) ?_
        refine ev_icmp_ne dX4_town_136 (pc' := 139) rfl (t := 143) rfl (fun c52 => ?_) (fun c52 => ?_)
        · replace h := it_f c52 h
          refine ev_iload_n dX4_town_143 (pc' := 144) rfl rfl ?_
          obtain ⟨rfl, rfl⟩ := rt2 h
          exact ev_ireturn dX4_town_144 rfl q
        · replace h := it_t c52 h
          refine ev_iload_n dX4_town_139 (pc' := 140) rfl rfl ?_
          refine ev_goto dX4_town_140 (t := 144) rfl ?_
          obtain ⟨rfl, rfl⟩ := rt2 h
          exact ev_ireturn dX4_town_144 rfl q
      · replace h := it_t c39 h
        refine ev_aload_n dX4_town_35 (pc' := 36) rfl rfl ?_
        refine ev_get dX4_town_36 (pc' := 39) rfl fq_4_89 kn_35 rfl ?_
        refine ev_aload_n dX4_town_39 (pc' := 40) rfl rfl ?_
        refine ev_get dX4_town_40 (pc' := 43) rfl fq_4_86 kn_35 rfl ?_
        refine ev_icmp_lt dX4_town_43 (pc' := 46) rfl (t := 10) rfl (fun c40 => ?_) (fun c40 => ?_)
        · replace h := it_t c40 h
          exact ev_sub (lsub_c (lsub_c (lsub_c (lsub_c (lsub_c (lsub_c lsub_nil)))))) (ih v38 w3 m6 h)
        · replace h := it_f c40 h
          refine ev_aload_n dX4_town_46 (pc' := 47) rfl rfl ?_
          refine ev_getR (y := 36) dX4_town_47 (pc' := 50) rfl fq_4_9 kn_35 rfl ?_
          refine ev_aload_n dX4_town_50 (pc' := 51) rfl rfl ?_
          refine ev_getR (y := 39) dX4_town_51 (pc' := 54) rfl fq_4_19 kn_35 rfl ?_
          obtain ⟨m41, x_m41, h⟩ := ob_of h
          refine ev_invS dX4_town_54 (pc' := 57) rfl sq_4_78 mt_X4_lays rfl ⟨_, rfl, Nat.le_of_ble_eq_true rfl, Nat.le_of_ble_eq_true rfl, rfl, rfl⟩ ?_
          refine X4_lays_ca kn_36 rfl kn_39 rfl x_m41 ?_
          refine ev_r0 ?_
          refine ev_aload_n dX4_town_57 (pc' := 58) rfl rfl ?_
          refine ev_iconst dX4_town_58 (pc' := 59) (v := 0) rfl (by decide) ?_
          refine ev_put dX4_town_59 (pc' := 62) rfl fq_4_89 kn_35 rfl (Or.inl (by decide)) ?_
          refine ev_topm (fun m42 e_m42 => ?_)
          replace h := nm_at e_m42 h
          refine ev_sub (lsub_c (lsub_c (lsub_c (lsub_c (lsub_c (lsub_c lsub_nil)))))) (X4_town_L62_ev  (k := fun v43 m44 => nm (mset m44 35 8 0) (fun m45 => if v43 = (-9) then (some (v38, m45)) else (some (v43, m45)))) q (fun v43 m44 h => ?_) LF w3 m42 h)
          refine ev_aload_n dX4_town_128 (pc' := 129) rfl rfl ?_
          refine ev_iconst dX4_town_129 (pc' := 130) (v := 0) rfl (by decide) ?_
          refine ev_put dX4_town_130 (pc' := 133) rfl fq_4_86 kn_35 rfl (Or.inl (by decide)) ?_
          refine ev_topm (fun m45 e_m45 => ?_)
          replace h := nm_at e_m45 h
          refine ev_iload_n dX4_town_133 (pc' := 134) rfl rfl ?_
          refine ev_bipush dX4_town_134 (pc' := 136) (v := (-9)) rfl (by decide) ?_
          refine ev_icmp_ne dX4_town_136 (pc' := 139) rfl (t := 143) rfl (fun c46 => ?_) (fun c46 => ?_)
          · replace h := it_f c46 h
            refine ev_iload_n dX4_town_143 (pc' := 144) rfl rfl ?_
            obtain ⟨rfl, rfl⟩ := rt2 h
            exact ev_ireturn dX4_town_144 rfl q
          · replace h := it_t c46 h
            refine ev_iload_n dX4_town_139 (pc' := 140) rfl rfl ?_
            refine ev_goto dX4_town_140 (t := 144) rfl ?_
            obtain ⟨rfl, rfl⟩ := rt2 h
            exact ev_ireturn dX4_town_144 rfl q
    · replace h := it_t c7 h
      refine ev_sipush dX4_town_17 (pc' := 20) (v := (-1000)) rfl (by decide) ?_
      refine ev_aload_n dX4_town_20 (pc' := 21) rfl rfl ?_
      refine ev_get dX4_town_21 (pc' := 24) rfl fq_4_89 kn_35 rfl ?_
      refine ev_isub dX4_town_24 (pc' := 25) rfl ?_
      refine ev_topi (fun v8 e_v8 => ?_)
      replace h := nm_at e_v8 h
      refine ev_istore_n dX4_town_25 (pc' := 26) (ls' := [some (.ref 35), some (.int w2), some (.int v8), none, none, none]) rfl (Nat.le_of_ble_eq_true rfl) rfl ?_
      obtain ⟨v9, e_v9⟩ : ∃ y : Int32, y = (w2 + 1) := ⟨_, rfl⟩
      replace h := nm_at e_v9 h
      refine ev_iinc dX4_town_26 (pc' := 29) (v := v9) (ls' := [some (.ref 35), some (.int v9), some (.int v8), none, none, none]) rfl rfl (by rw [e_v9]; rfl) (Nat.le_of_ble_eq_true rfl) rfl ?_
      refine ev_iload_n dX4_town_29 (pc' := 30) rfl rfl ?_
      refine ev_bipush dX4_town_30 (pc' := 32) (v := (-9)) rfl (by decide) ?_
      refine ev_icmp_ne dX4_town_32 (pc' := 35) rfl (t := 46) rfl (fun c10 => ?_) (fun c10 => ?_)
      · replace h := it_f c10 h
        refine ev_aload_n dX4_town_46 (pc' := 47) rfl rfl ?_
        refine ev_getR (y := 36) dX4_town_47 (pc' := 50) rfl fq_4_9 kn_35 rfl ?_
        refine ev_aload_n dX4_town_50 (pc' := 51) rfl rfl ?_
        refine ev_getR (y := 39) dX4_town_51 (pc' := 54) rfl fq_4_19 kn_35 rfl ?_
        obtain ⟨m32, x_m32, h⟩ := ob_of h
        refine ev_invS dX4_town_54 (pc' := 57) rfl sq_4_78 mt_X4_lays rfl ⟨_, rfl, Nat.le_of_ble_eq_true rfl, Nat.le_of_ble_eq_true rfl, rfl, rfl⟩ ?_
        refine X4_lays_ca kn_36 rfl kn_39 rfl x_m32 ?_
        refine ev_r0 ?_
        refine ev_aload_n dX4_town_57 (pc' := 58) rfl rfl ?_
        refine ev_iconst dX4_town_58 (pc' := 59) (v := 0) rfl (by decide) ?_
        refine ev_put dX4_town_59 (pc' := 62) rfl fq_4_89 kn_35 rfl (Or.inl (by decide)) ?_
        refine ev_topm (fun m33 e_m33 => ?_)
        replace h := nm_at e_m33 h
        refine ev_sub (lsub_c (lsub_c (lsub_c (lsub_c (lsub_c (lsub_c lsub_nil)))))) (X4_town_L62_ev  (k := fun v34 m35 => nm (mset m35 35 8 0) (fun m36 => if v34 = (-9) then (some (v9, m36)) else (some (v34, m36)))) q (fun v34 m35 h => ?_) LF v8 m33 h)
        refine ev_aload_n dX4_town_128 (pc' := 129) rfl rfl ?_
        refine ev_iconst dX4_town_129 (pc' := 130) (v := 0) rfl (by decide) ?_
        refine ev_put dX4_town_130 (pc' := 133) rfl fq_4_86 kn_35 rfl (Or.inl (by decide)) ?_
        refine ev_topm (fun m36 e_m36 => ?_)
        replace h := nm_at e_m36 h
        refine ev_iload_n dX4_town_133 (pc' := 134) rfl rfl ?_
        refine ev_bipush dX4_town_134 (pc' := 136) (v := (-9)) rfl (by decide) ?_
        refine ev_icmp_ne dX4_town_136 (pc' := 139) rfl (t := 143) rfl (fun c37 => ?_) (fun c37 => ?_)
        · replace h := it_f c37 h
          refine ev_iload_n dX4_town_143 (pc' := 144) rfl rfl ?_
          obtain ⟨rfl, rfl⟩ := rt2 h
          exact ev_ireturn dX4_town_144 rfl q
        · replace h := it_t c37 h
          refine ev_iload_n dX4_town_139 (pc' := 140) rfl rfl ?_
          refine ev_goto dX4_town_140 (t := 144) rfl ?_
          obtain ⟨rfl, rfl⟩ := rt2 h
          exact ev_ireturn dX4_town_144 rfl q
      · replace h := it_t c10 h
        refine ev_aload_n dX4_town_35 (pc' := 36) rfl rfl ?_
        refine ev_get dX4_town_36 (pc' := 39) rfl fq_4_89 kn_35 rfl ?_
        refine ev_aload_n dX4_town_39 (pc' := 40) rfl rfl ?_
        refine ev_get dX4_town_40 (pc' := 43) rfl fq_4_86 kn_35 rfl ?_
        refine ev_icmp_lt dX4_town_43 (pc' := 46) rfl (t := 10) rfl (fun c11 => ?_) (fun c11 => ?_)
        · replace h := it_t c11 h
          exact ev_sub (lsub_c (lsub_c (lsub_c (lsub_c (lsub_c (lsub_c lsub_nil)))))) (ih v9 v8 m6 h)
        · replace h := it_f c11 h
          refine ev_aload_n dX4_town_46 (pc' := 47) rfl rfl ?_
          refine ev_getR (y := 36) dX4_town_47 (pc' := 50) rfl fq_4_9 kn_35 rfl ?_
          refine ev_aload_n dX4_town_50 (pc' := 51) rfl rfl ?_
          refine ev_getR (y := 39) dX4_town_51 (pc' := 54) rfl fq_4_19 kn_35 rfl ?_
          obtain ⟨m12, x_m12, h⟩ := ob_of h
          refine ev_invS dX4_town_54 (pc' := 57) rfl sq_4_78 mt_X4_lays rfl ⟨_, rfl, Nat.le_of_ble_eq_true rfl, Nat.le_of_ble_eq_true rfl, rfl, rfl⟩ ?_
          refine X4_lays_ca kn_36 rfl kn_39 rfl x_m12 ?_
          refine ev_r0 ?_
          refine ev_aload_n dX4_town_57 (pc' := 58) rfl rfl ?_
          refine ev_iconst dX4_town_58 (pc' := 59) (v := 0) rfl (by decide) ?_
          refine ev_put dX4_town_59 (pc' := 62) rfl fq_4_89 kn_35 rfl (Or.inl (by decide)) ?_
          refine ev_topm (fun m13 e_m13 => ?_)
          replace h := nm_at e_m13 h
          refine ev_sub (lsub_c (lsub_c (lsub_c (lsub_c (lsub_c (lsub_c lsub_nil)))))) (X4_town_L62_ev  (k := fun v28 m29 => nm (mset m29 35 8 0) (fun m30 => if v28 = (-9) then (some (v9, m30)) else (some (v28, m30)))) q (fun v28 m29 h => ?_) LF v8 m13 h)
          refine ev_aload_n dX4_town_128 (pc' := 129) rfl rfl ?_
          refine ev_iconst dX4_town_129 (pc' := 130) (v := 0) rfl (by decide) ?_
          refine ev_put dX4_town_130 (pc' := 133) rfl fq_4_86 kn_35 rfl (Or.inl (by decide)) ?_
          refine ev_topm (fun m30 e_m30 => ?_)
          replace h := nm_at e_m30 h
          refine ev_iload_n dX4_town_133 (pc' := 134) rfl rfl ?_
          refine ev_bipush dX4_town_134 (pc' := 136) (v := (-9)) rfl (by decide) ?_
          refine ev_icmp_ne dX4_town_136 (pc' := 139) rfl (t := 143) rfl (fun c31 => ?_) (fun c31 => ?_)
          · replace h := it_f c31 h
            refine ev_iload_n dX4_town_143 (pc' := 144) rfl rfl ?_
            obtain ⟨rfl, rfl⟩ := rt2 h
            exact ev_ireturn dX4_town_144 rfl q
          · replace h := it_t c31 h
            refine ev_iload_n dX4_town_139 (pc' := 140) rfl rfl ?_
            refine ev_goto dX4_town_140 (t := 144) rfl ?_
            obtain ⟨rfl, rfl⟩ := rt2 h
            exact ev_ireturn dX4_town_144 rfl q
set_option maxRecDepth 100000 in
set_option maxHeartbeats 8000000 in
theorem X4_town_ca {S : Sc} {d : Nat}  {mem : Mm} {rr : Int32} {mr : Mm} {Q : Po}  (h : X4_town 35 mem = some (rr, mr)) (q : Q (some (.int rr)) mr) : Ca S (d + 7) 136 [.ref 35] mem Q := by
  unfold X4_town at h
  refine ca_in (by decide) mt_X4_town (Nat.le_of_ble_eq_true rfl) ?_
  show Ev S (d + 6) 4 cX4_town (some .int) 0 [some (.ref 35), none, none, none, none, none] [] mem Q
  refine ev_aload_n dX4_town_0 (pc' := 1) rfl rfl ?_
  refine ev_iconst dX4_town_1 (pc' := 2) (v := 0) rfl (by decide) ?_
  refine ev_put dX4_town_2 (pc' := 5) rfl fq_4_89 kn_35 rfl (Or.inl (by decide)) ?_
  refine ev_topm (fun m1 e_m1 => ?_)
  replace h := nm_at e_m1 h
  refine ev_iconst dX4_town_5 (pc' := 6) (v := 0) rfl (by decide) ?_
  refine ev_istore_n dX4_town_6 (pc' := 7) (ls' := [some (.ref 35), some (.int 0), none, none, none, none]) rfl (Nat.le_of_ble_eq_true rfl) rfl ?_
  refine ev_bipush dX4_town_7 (pc' := 9) (v := (-9)) rfl (by decide) ?_
  refine ev_istore_n dX4_town_9 (pc' := 10) (ls' := [some (.ref 35), some (.int 0), some (.int (-9)), none, none, none]) rfl (Nat.le_of_ble_eq_true rfl) rfl ?_
  exact ev_sub (lsub_c (lsub_c (lsub_c (lsub_c (lsub_c (lsub_c lsub_nil)))))) (X4_town_L10_ev  q LF 0 (-9) m1 h)
def X4_cask (_o : Nat) (a1 : Int32) (a2 : Int32) (mem : Mm) : Option (Int32 × Mm) := if (X4_isCask 35 a1 mem) = 0 then (ob2 (X4_no 35 (-1) mem) (fun y2 m3 => some (y2, m3))) else (if (X4_isIn a2 0 5) = 0 then (ob2 (X4_no 35 (-2) mem) (fun y5 m6 => some (y5, m6))) else (gd (vin (X4_at a1 a2) 47) (some ((mem 36 ((X4_at a1 a2)).toNatClampNeg), mem))))
set_option maxRecDepth 100000 in
set_option maxHeartbeats 8000000 in
theorem X4_cask_ca {S : Sc} {d : Nat} {a1 : Int32} {a2 : Int32} {mem : Mm} {rr : Int32} {mr : Mm} {Q : Po}  (h : X4_cask 35 a1 a2 mem = some (rr, mr)) (q : Q (some (.int rr)) mr) : Ca S (d + 3) 137 [.ref 35, .int a1, .int a2] mem Q := by
  unfold X4_cask at h
  refine ca_in (by decide) mt_X4_cask (Nat.le_of_ble_eq_true rfl) ?_
  show Ev S (d + 2) 4 cX4_cask (some .int) 0 [some (.ref 35), some (.int a1), some (.int a2)] [] mem Q
  refine ev_aload_n dX4_cask_0 (pc' := 1) rfl rfl ?_
  refine ev_iload_n dX4_cask_1 (pc' := 2) rfl rfl ?_
  refine ev_invV dX4_cask_2 (pc' := 5) rfl sq_4_111 mt_X4_isCask rfl (arecv_ob (x := 35) rfl rfl (by decide) kn_35) ⟨_, rfl, Nat.le_of_ble_eq_true rfl, Nat.le_of_ble_eq_true rfl, rfl, rfl⟩ ?_
  refine X4_isCask_ca  rfl ?_
  refine ev_r1 ?_
  refine ev_if_ne dX4_cask_5 (pc' := 8) rfl (t := 14) rfl (fun c1 => ?_) (fun c1 => ?_)
  · replace h := it_f c1 h
    refine ev_iload_n dX4_cask_14 (pc' := 15) rfl rfl ?_
    refine ev_iconst dX4_cask_15 (pc' := 16) (v := 0) rfl (by decide) ?_
    refine ev_iconst dX4_cask_16 (pc' := 17) (v := 5) rfl (by decide) ?_
    refine ev_invS dX4_cask_17 (pc' := 20) rfl sq_4_40 mt_X4_isIn rfl ⟨_, rfl, Nat.le_of_ble_eq_true rfl, Nat.le_of_ble_eq_true rfl, rfl, rfl⟩ ?_
    refine X4_isIn_ca  rfl ?_
    refine ev_r1 ?_
    refine ev_if_eq dX4_cask_20 (pc' := 23) rfl (t := 36) rfl (fun c4 => ?_) (fun c4 => ?_)
    · replace h := it_t c4 h
      refine ev_aload_n dX4_cask_36 (pc' := 37) rfl rfl ?_
      refine ev_bipush dX4_cask_37 (pc' := 39) (v := (-2)) rfl (by decide) ?_
      obtain ⟨y5, m6, x_y5, h⟩ := ob2_of h
      refine ev_invV dX4_cask_39 (pc' := 42) rfl sq_4_36 mt_X4_no rfl (arecv_ob (x := 35) rfl rfl (by decide) kn_35) ⟨_, rfl, Nat.le_of_ble_eq_true rfl, Nat.le_of_ble_eq_true rfl, rfl, rfl⟩ ?_
      refine X4_no_ca  x_y5 ?_
      refine ev_r1 ?_
      obtain ⟨rfl, rfl⟩ := rt2 h
      exact ev_ireturn dX4_cask_42 rfl q
    · replace h := it_f c4 h
      refine ev_aload_n dX4_cask_23 (pc' := 24) rfl rfl ?_
      refine ev_getR (y := 36) dX4_cask_24 (pc' := 27) rfl fq_4_9 kn_35 rfl ?_
      refine ev_iload_n dX4_cask_27 (pc' := 28) rfl rfl ?_
      refine ev_iload_n dX4_cask_28 (pc' := 29) rfl rfl ?_
      refine ev_invS dX4_cask_29 (pc' := 32) rfl sq_4_44 mt_X4_at rfl ⟨_, rfl, Nat.le_of_ble_eq_true rfl, Nat.le_of_ble_eq_true rfl, rfl, rfl⟩ ?_
      refine X4_at_ca  rfl ?_
      refine ev_r1 ?_
      obtain ⟨g7, h⟩ := gd_of h
      refine ev_ialdK (k0 := ((X4_at a1 a2)).toNatClampNeg) dX4_cask_32 (pc' := 33) rfl kn_36 g7 rfl ?_
      refine ev_goto dX4_cask_33 (t := 42) rfl ?_
      obtain ⟨rfl, rfl⟩ := rt2 h
      exact ev_ireturn dX4_cask_42 rfl q
  · replace h := it_t c1 h
    refine ev_aload_n dX4_cask_8 (pc' := 9) rfl rfl ?_
    refine ev_iconst dX4_cask_9 (pc' := 10) (v := (-1)) rfl (by decide) ?_
    obtain ⟨y2, m3, x_y2, h⟩ := ob2_of h
    refine ev_invV dX4_cask_10 (pc' := 13) rfl sq_4_36 mt_X4_no rfl (arecv_ob (x := 35) rfl rfl (by decide) kn_35) ⟨_, rfl, Nat.le_of_ble_eq_true rfl, Nat.le_of_ble_eq_true rfl, rfl, rfl⟩ ?_
    refine X4_no_ca  x_y2 ?_
    refine ev_r1 ?_
    obtain ⟨rfl, rfl⟩ := rt2 h
    exact ev_ireturn dX4_cask_13 rfl q
def X4_set (_o : Nat) (a1 : Int32) (a2 : Int32) (mem : Mm) : Option (Int32 × Mm) := if (X4_isIn a1 0 2) = 0 then (ob2 (X4_no 35 (-2) mem) (fun y2 m3 => some (y2, m3))) else (if a1 = 1 then (if 1 ≤ a2 then (if a1 = 0 then (if a2 ≤ 40 then (gd (vin (2 + a1) 47) (nm (mem 36 ((2 + a1)).toNatClampNeg) (fun v9 => nm (mset mem 36 ((2 + a1)).toNatClampNeg a2) (fun m10 => some (v9, m10))))) else (ob2 (X4_no 35 (-6) mem) (fun y11 m12 => some (y11, m12)))) else (if a2 ≤ 9 then (gd (vin (2 + a1) 47) (nm (mem 36 ((2 + a1)).toNatClampNeg) (fun v15 => nm (mset mem 36 ((2 + a1)).toNatClampNeg a2) (fun m16 => some (v15, m16))))) else (ob2 (X4_no 35 (-6) mem) (fun y17 m18 => some (y17, m18))))) else (ob2 (X4_no 35 (-4) mem) (fun y19 m20 => some (y19, m20)))) else (if 0 ≤ a2 then (if a1 = 0 then (if a2 ≤ 40 then (gd (vin (2 + a1) 47) (nm (mem 36 ((2 + a1)).toNatClampNeg) (fun v25 => nm (mset mem 36 ((2 + a1)).toNatClampNeg a2) (fun m26 => some (v25, m26))))) else (ob2 (X4_no 35 (-6) mem) (fun y27 m28 => some (y27, m28)))) else (if a2 ≤ 9 then (gd (vin (2 + a1) 47) (nm (mem 36 ((2 + a1)).toNatClampNeg) (fun v31 => nm (mset mem 36 ((2 + a1)).toNatClampNeg a2) (fun m32 => some (v31, m32))))) else (ob2 (X4_no 35 (-6) mem) (fun y33 m34 => some (y33, m34))))) else (ob2 (X4_no 35 (-4) mem) (fun y35 m36 => some (y35, m36)))))
set_option maxRecDepth 100000 in
set_option maxHeartbeats 8000000 in
theorem X4_set_ca {S : Sc} {d : Nat} {a1 : Int32} {a2 : Int32} {mem : Mm} {rr : Int32} {mr : Mm} {Q : Po}  (h : X4_set 35 a1 a2 mem = some (rr, mr)) (q : Q (some (.int rr)) mr) : Ca S (d + 2) 138 [.ref 35, .int a1, .int a2] mem Q := by
  unfold X4_set at h
  refine ca_in (by decide) mt_X4_set (Nat.le_of_ble_eq_true rfl) ?_
  show Ev S (d + 1) 4 cX4_set (some .int) 0 [some (.ref 35), some (.int a1), some (.int a2), none] [] mem Q
  refine ev_iload_n dX4_set_0 (pc' := 1) rfl rfl ?_
  refine ev_iconst dX4_set_1 (pc' := 2) (v := 0) rfl (by decide) ?_
  refine ev_iconst dX4_set_2 (pc' := 3) (v := 2) rfl (by decide) ?_
  refine ev_invS dX4_set_3 (pc' := 6) rfl sq_4_40 mt_X4_isIn rfl ⟨_, rfl, Nat.le_of_ble_eq_true rfl, Nat.le_of_ble_eq_true rfl, rfl, rfl⟩ ?_
  refine X4_isIn_ca  rfl ?_
  refine ev_r1 ?_
  refine ev_if_ne dX4_set_6 (pc' := 9) rfl (t := 16) rfl (fun c1 => ?_) (fun c1 => ?_)
  · replace h := it_f c1 h
    refine ev_iload_n dX4_set_16 (pc' := 17) rfl rfl ?_
    refine ev_iload_n dX4_set_17 (pc' := 18) rfl rfl ?_
    refine ev_iconst dX4_set_18 (pc' := 19) (v := 1) rfl (by decide) ?_
    refine ev_icmp_ne dX4_set_19 (pc' := 22) rfl (t := 26) rfl (fun c4 => ?_) (fun c4 => ?_)
    · replace h := it_f c4 h
      refine ev_iconst dX4_set_26 (pc' := 27) (v := 0) rfl (by decide) ?_
      refine ev_icmp_ge dX4_set_27 (pc' := 30) rfl (t := 37) rfl (fun c21 => ?_) (fun c21 => ?_)
      · replace h := it_t c21 h
        refine ev_iload_n dX4_set_37 (pc' := 38) rfl rfl ?_
        refine ev_iload_n dX4_set_38 (pc' := 39) rfl rfl ?_
        refine ev_if_ne dX4_set_39 (pc' := 42) rfl (t := 47) rfl (fun c22 => ?_) (fun c22 => ?_)
        · replace h := it_f c22 h
          refine ev_bipush dX4_set_47 (pc' := 49) (v := 9) rfl (by decide) ?_
          refine ev_icmp_le dX4_set_49 (pc' := 52) rfl (t := 59) rfl (fun c29 => ?_) (fun c29 => ?_)
          · replace h := it_t c29 h
            refine ev_aload_n dX4_set_59 (pc' := 60) rfl rfl ?_
            refine ev_getR (y := 36) dX4_set_60 (pc' := 63) rfl fq_4_9 kn_35 rfl ?_
            refine ev_iconst dX4_set_63 (pc' := 64) (v := 2) rfl (by decide) ?_
            refine ev_iload_n dX4_set_64 (pc' := 65) rfl rfl ?_
            refine ev_iadd dX4_set_65 (pc' := 66) rfl ?_
            obtain ⟨g30, h⟩ := gd_of h
            refine ev_ialdK (k0 := ((2 + a1)).toNatClampNeg) dX4_set_66 (pc' := 67) rfl kn_36 g30 rfl ?_
            refine ev_topi (fun v31 e_v31 => ?_)
            replace h := nm_at e_v31 h
            refine ev_istore_n dX4_set_67 (pc' := 68) (ls' := [some (.ref 35), some (.int a1), some (.int a2), some (.int v31)]) rfl (Nat.le_of_ble_eq_true rfl) rfl ?_
            refine ev_aload_n dX4_set_68 (pc' := 69) rfl rfl ?_
            refine ev_getR (y := 36) dX4_set_69 (pc' := 72) rfl fq_4_9 kn_35 rfl ?_
            refine ev_iconst dX4_set_72 (pc' := 73) (v := 2) rfl (by decide) ?_
            refine ev_iload_n dX4_set_73 (pc' := 74) rfl rfl ?_
            refine ev_iadd dX4_set_74 (pc' := 75) rfl ?_
            refine ev_iload_n dX4_set_75 (pc' := 76) rfl rfl ?_
            refine ev_iastK (k0 := ((2 + a1)).toNatClampNeg) dX4_set_76 (pc' := 77) rfl kn_36 g30 rfl ?_
            refine ev_topm (fun m32 e_m32 => ?_)
            replace h := nm_at e_m32 h
            refine ev_iload_n dX4_set_77 (pc' := 78) rfl rfl ?_
            obtain ⟨rfl, rfl⟩ := rt2 h
            exact ev_ireturn dX4_set_78 rfl q
          · replace h := it_f c29 h
            refine ev_aload_n dX4_set_52 (pc' := 53) rfl rfl ?_
            refine ev_bipush dX4_set_53 (pc' := 55) (v := (-6)) rfl (by decide) ?_
            obtain ⟨y33, m34, x_y33, h⟩ := ob2_of h
            refine ev_invV dX4_set_55 (pc' := 58) rfl sq_4_36 mt_X4_no rfl (arecv_ob (x := 35) rfl rfl (by decide) kn_35) ⟨_, rfl, Nat.le_of_ble_eq_true rfl, Nat.le_of_ble_eq_true rfl, rfl, rfl⟩ ?_
            refine X4_no_ca  x_y33 ?_
            refine ev_r1 ?_
            obtain ⟨rfl, rfl⟩ := rt2 h
            exact ev_ireturn dX4_set_58 rfl q
        · replace h := it_t c22 h
          refine ev_bipush dX4_set_42 (pc' := 44) (v := 40) rfl (by decide) ?_
          refine ev_goto dX4_set_44 (t := 49) rfl ?_
          refine ev_icmp_le dX4_set_49 (pc' := 52) rfl (t := 59) rfl (fun c23 => ?_) (fun c23 => ?_)
          · replace h := it_t c23 h
            refine ev_aload_n dX4_set_59 (pc' := 60) rfl rfl ?_
            refine ev_getR (y := 36) dX4_set_60 (pc' := 63) rfl fq_4_9 kn_35 rfl ?_
            refine ev_iconst dX4_set_63 (pc' := 64) (v := 2) rfl (by decide) ?_
            refine ev_iload_n dX4_set_64 (pc' := 65) rfl rfl ?_
            refine ev_iadd dX4_set_65 (pc' := 66) rfl ?_
            obtain ⟨g24, h⟩ := gd_of h
            refine ev_ialdK (k0 := ((2 + a1)).toNatClampNeg) dX4_set_66 (pc' := 67) rfl kn_36 g24 rfl ?_
            refine ev_topi (fun v25 e_v25 => ?_)
            replace h := nm_at e_v25 h
            refine ev_istore_n dX4_set_67 (pc' := 68) (ls' := [some (.ref 35), some (.int a1), some (.int a2), some (.int v25)]) rfl (Nat.le_of_ble_eq_true rfl) rfl ?_
            refine ev_aload_n dX4_set_68 (pc' := 69) rfl rfl ?_
            refine ev_getR (y := 36) dX4_set_69 (pc' := 72) rfl fq_4_9 kn_35 rfl ?_
            refine ev_iconst dX4_set_72 (pc' := 73) (v := 2) rfl (by decide) ?_
            refine ev_iload_n dX4_set_73 (pc' := 74) rfl rfl ?_
            refine ev_iadd dX4_set_74 (pc' := 75) rfl ?_
            refine ev_iload_n dX4_set_75 (pc' := 76) rfl rfl ?_
            refine ev_iastK (k0 := ((2 + a1)).toNatClampNeg) dX4_set_76 (pc' := 77) rfl kn_36 g24 rfl ?_
            refine ev_topm (fun m26 e_m26 => ?_)
            replace h := nm_at e_m26 h
            refine ev_iload_n dX4_set_77 (pc' := 78) rfl rfl ?_
            obtain ⟨rfl, rfl⟩ := rt2 h
            exact ev_ireturn dX4_set_78 rfl q
          · replace h := it_f c23 h
            refine ev_aload_n dX4_set_52 (pc' := 53) rfl rfl ?_
            refine ev_bipush dX4_set_53 (pc' := 55) (v := (-6)) rfl (by decide) ?_
            obtain ⟨y27, m28, x_y27, h⟩ := ob2_of h
            refine ev_invV dX4_set_55 (pc' := 58) rfl sq_4_36 mt_X4_no rfl (arecv_ob (x := 35) rfl rfl (by decide) kn_35) ⟨_, rfl, Nat.le_of_ble_eq_true rfl, Nat.le_of_ble_eq_true rfl, rfl, rfl⟩ ?_
            refine X4_no_ca  x_y27 ?_
            refine ev_r1 ?_
            obtain ⟨rfl, rfl⟩ := rt2 h
            exact ev_ireturn dX4_set_58 rfl q
      · replace h := it_f c21 h
        refine ev_aload_n dX4_set_30 (pc' := 31) rfl rfl ?_
        refine ev_bipush dX4_set_31 (pc' := 33) (v := (-4)) rfl (by decide) ?_
        obtain ⟨y35, m36, x_y35, h⟩ := ob2_of h
        refine ev_invV dX4_set_33 (pc' := 36) rfl sq_4_36 mt_X4_no rfl (arecv_ob (x := 35) rfl rfl (by decide) kn_35) ⟨_, rfl, Nat.le_of_ble_eq_true rfl, Nat.le_of_ble_eq_true rfl, rfl, rfl⟩ ?_
        refine X4_no_ca  x_y35 ?_
        refine ev_r1 ?_
        obtain ⟨rfl, rfl⟩ := rt2 h
        exact ev_ireturn dX4_set_36 rfl q
    · replace h := it_t c4 h
      refine ev_iconst dX4_set_22 (pc' := 23) (v := 1) rfl (by decide) ?_
      refine ev_goto dX4_set_23 (t := 27) rfl ?_
      refine ev_icmp_ge dX4_set_27 (pc' := 30) rfl (t := 37) rfl (fun c5 => ?_) (fun c5 => ?_)
      · replace h := it_t c5 h
        refine ev_iload_n dX4_set_37 (pc' := 38) rfl rfl ?_
        refine ev_iload_n dX4_set_38 (pc' := 39) rfl rfl ?_
        refine ev_if_ne dX4_set_39 (pc' := 42) rfl (t := 47) rfl (fun c6 => ?_) (fun c6 => ?_)
        · replace h := it_f c6 h
          refine ev_bipush dX4_set_47 (pc' := 49) (v := 9) rfl (by decide) ?_
          refine ev_icmp_le dX4_set_49 (pc' := 52) rfl (t := 59) rfl (fun c13 => ?_) (fun c13 => ?_)
          · replace h := it_t c13 h
            refine ev_aload_n dX4_set_59 (pc' := 60) rfl rfl ?_
            refine ev_getR (y := 36) dX4_set_60 (pc' := 63) rfl fq_4_9 kn_35 rfl ?_
            refine ev_iconst dX4_set_63 (pc' := 64) (v := 2) rfl (by decide) ?_
            refine ev_iload_n dX4_set_64 (pc' := 65) rfl rfl ?_
            refine ev_iadd dX4_set_65 (pc' := 66) rfl ?_
            obtain ⟨g14, h⟩ := gd_of h
            refine ev_ialdK (k0 := ((2 + a1)).toNatClampNeg) dX4_set_66 (pc' := 67) rfl kn_36 g14 rfl ?_
            refine ev_topi (fun v15 e_v15 => ?_)
            replace h := nm_at e_v15 h
            refine ev_istore_n dX4_set_67 (pc' := 68) (ls' := [some (.ref 35), some (.int a1), some (.int a2), some (.int v15)]) rfl (Nat.le_of_ble_eq_true rfl) rfl ?_
            refine ev_aload_n dX4_set_68 (pc' := 69) rfl rfl ?_
            refine ev_getR (y := 36) dX4_set_69 (pc' := 72) rfl fq_4_9 kn_35 rfl ?_
            refine ev_iconst dX4_set_72 (pc' := 73) (v := 2) rfl (by decide) ?_
            refine ev_iload_n dX4_set_73 (pc' := 74) rfl rfl ?_
            refine ev_iadd dX4_set_74 (pc' := 75) rfl ?_
            refine ev_iload_n dX4_set_75 (pc' := 76) rfl rfl ?_
            refine ev_iastK (k0 := ((2 + a1)).toNatClampNeg) dX4_set_76 (pc' := 77) rfl kn_36 g14 rfl ?_
            refine ev_topm (fun m16 e_m16 => ?_)
            replace h := nm_at e_m16 h
            refine ev_iload_n dX4_set_77 (pc' := 78) rfl rfl ?_
            obtain ⟨rfl, rfl⟩ := rt2 h
            exact ev_ireturn dX4_set_78 rfl q
          · replace h := it_f c13 h
            refine ev_aload_n dX4_set_52 (pc' := 53) rfl rfl ?_
            refine ev_bipush dX4_set_53 (pc' := 55) (v := (-6)) rfl (by decide) ?_
            obtain ⟨y17, m18, x_y17, h⟩ := ob2_of h
            refine ev_invV dX4_set_55 (pc' := 58) rfl sq_4_36 mt_X4_no rfl (arecv_ob (x := 35) rfl rfl (by decide) kn_35) ⟨_, rfl, Nat.le_of_ble_eq_true rfl, Nat.le_of_ble_eq_true rfl, rfl, rfl⟩ ?_
            refine X4_no_ca  x_y17 ?_
            refine ev_r1 ?_
            obtain ⟨rfl, rfl⟩ := rt2 h
            exact ev_ireturn dX4_set_58 rfl q
        · replace h := it_t c6 h
          refine ev_bipush dX4_set_42 (pc' := 44) (v := 40) rfl (by decide) ?_
          refine ev_goto dX4_set_44 (t := 49) rfl ?_
          refine ev_icmp_le dX4_set_49 (pc' := 52) rfl (t := 59) rfl (fun c7 => ?_) (fun c7 => ?_)
          · replace h := it_t c7 h
            refine ev_aload_n dX4_set_59 (pc' := 60) rfl rfl ?_
            refine ev_getR (y := 36) dX4_set_60 (pc' := 63) rfl fq_4_9 kn_35 rfl ?_
            refine ev_iconst dX4_set_63 (pc' := 64) (v := 2) rfl (by decide) ?_
            refine ev_iload_n dX4_set_64 (pc' := 65) rfl rfl ?_
            refine ev_iadd dX4_set_65 (pc' := 66) rfl ?_
            obtain ⟨g8, h⟩ := gd_of h
            refine ev_ialdK (k0 := ((2 + a1)).toNatClampNeg) dX4_set_66 (pc' := 67) rfl kn_36 g8 rfl ?_
            refine ev_topi (fun v9 e_v9 => ?_)
            replace h := nm_at e_v9 h
            refine ev_istore_n dX4_set_67 (pc' := 68) (ls' := [some (.ref 35), some (.int a1), some (.int a2), some (.int v9)]) rfl (Nat.le_of_ble_eq_true rfl) rfl ?_
            refine ev_aload_n dX4_set_68 (pc' := 69) rfl rfl ?_
            refine ev_getR (y := 36) dX4_set_69 (pc' := 72) rfl fq_4_9 kn_35 rfl ?_
            refine ev_iconst dX4_set_72 (pc' := 73) (v := 2) rfl (by decide) ?_
            refine ev_iload_n dX4_set_73 (pc' := 74) rfl rfl ?_
            refine ev_iadd dX4_set_74 (pc' := 75) rfl ?_
            refine ev_iload_n dX4_set_75 (pc' := 76) rfl rfl ?_
            refine ev_iastK (k0 := ((2 + a1)).toNatClampNeg) dX4_set_76 (pc' := 77) rfl kn_36 g8 rfl ?_
            refine ev_topm (fun m10 e_m10 => ?_)
            replace h := nm_at e_m10 h
            refine ev_iload_n dX4_set_77 (pc' := 78) rfl rfl ?_
            obtain ⟨rfl, rfl⟩ := rt2 h
            exact ev_ireturn dX4_set_78 rfl q
          · replace h := it_f c7 h
            refine ev_aload_n dX4_set_52 (pc' := 53) rfl rfl ?_
            refine ev_bipush dX4_set_53 (pc' := 55) (v := (-6)) rfl (by decide) ?_
            obtain ⟨y11, m12, x_y11, h⟩ := ob2_of h
            refine ev_invV dX4_set_55 (pc' := 58) rfl sq_4_36 mt_X4_no rfl (arecv_ob (x := 35) rfl rfl (by decide) kn_35) ⟨_, rfl, Nat.le_of_ble_eq_true rfl, Nat.le_of_ble_eq_true rfl, rfl, rfl⟩ ?_
            refine X4_no_ca  x_y11 ?_
            refine ev_r1 ?_
            obtain ⟨rfl, rfl⟩ := rt2 h
            exact ev_ireturn dX4_set_58 rfl q
      · replace h := it_f c5 h
        refine ev_aload_n dX4_set_30 (pc' := 31) rfl rfl ?_
        refine ev_bipush dX4_set_31 (pc' := 33) (v := (-4)) rfl (by decide) ?_
        obtain ⟨y19, m20, x_y19, h⟩ := ob2_of h
        refine ev_invV dX4_set_33 (pc' := 36) rfl sq_4_36 mt_X4_no rfl (arecv_ob (x := 35) rfl rfl (by decide) kn_35) ⟨_, rfl, Nat.le_of_ble_eq_true rfl, Nat.le_of_ble_eq_true rfl, rfl, rfl⟩ ?_
        refine X4_no_ca  x_y19 ?_
        refine ev_r1 ?_
        obtain ⟨rfl, rfl⟩ := rt2 h
        exact ev_ireturn dX4_set_36 rfl q
  · replace h := it_t c1 h
    refine ev_aload_n dX4_set_9 (pc' := 10) rfl rfl ?_
    refine ev_bipush dX4_set_10 (pc' := 12) (v := (-2)) rfl (by decide) ?_
    obtain ⟨y2, m3, x_y2, h⟩ := ob2_of h
    refine ev_invV dX4_set_12 (pc' := 15) rfl sq_4_36 mt_X4_no rfl (arecv_ob (x := 35) rfl rfl (by decide) kn_35) ⟨_, rfl, Nat.le_of_ble_eq_true rfl, Nat.le_of_ble_eq_true rfl, rfl, rfl⟩ ?_
    refine X4_no_ca  x_y2 ?_
    refine ev_r1 ?_
    obtain ⟨rfl, rfl⟩ := rt2 h
    exact ev_ireturn dX4_set_15 rfl q
def X4_fill (_o : Nat) (a1 : Int32) (a2 : Int32) (mem : Mm) : Option (Int32 × Mm) := if (X4_isCask 35 a1 mem) = 0 then (ob2 (X4_no 35 (-1) mem) (fun y2 m3 => some (y2, m3))) else (if 0 ≤ a2 then (gd (vin (X4_at a1 1) 47) (if a2 ≤ (mem 36 ((X4_at a1 1)).toNatClampNeg) then (gd (vin (X4_at a1 2) 47) (nm (mem 36 ((X4_at a1 2)).toNatClampNeg) (fun v8 => nm (mset mem 36 ((X4_at a1 2)).toNatClampNeg a2) (fun m9 => some (v8, m9))))) else (ob2 (X4_no 35 (-6) mem) (fun y10 m11 => some (y10, m11))))) else (ob2 (X4_no 35 (-4) mem) (fun y12 m13 => some (y12, m13))))
set_option maxRecDepth 100000 in
set_option maxHeartbeats 8000000 in
theorem X4_fill_ca {S : Sc} {d : Nat} {a1 : Int32} {a2 : Int32} {mem : Mm} {rr : Int32} {mr : Mm} {Q : Po}  (h : X4_fill 35 a1 a2 mem = some (rr, mr)) (q : Q (some (.int rr)) mr) : Ca S (d + 3) 139 [.ref 35, .int a1, .int a2] mem Q := by
  unfold X4_fill at h
  refine ca_in (by decide) mt_X4_fill (Nat.le_of_ble_eq_true rfl) ?_
  show Ev S (d + 2) 4 cX4_fill (some .int) 0 [some (.ref 35), some (.int a1), some (.int a2), none] [] mem Q
  refine ev_aload_n dX4_fill_0 (pc' := 1) rfl rfl ?_
  refine ev_iload_n dX4_fill_1 (pc' := 2) rfl rfl ?_
  refine ev_invV dX4_fill_2 (pc' := 5) rfl sq_4_111 mt_X4_isCask rfl (arecv_ob (x := 35) rfl rfl (by decide) kn_35) ⟨_, rfl, Nat.le_of_ble_eq_true rfl, Nat.le_of_ble_eq_true rfl, rfl, rfl⟩ ?_
  refine X4_isCask_ca  rfl ?_
  refine ev_r1 ?_
  refine ev_if_ne dX4_fill_5 (pc' := 8) rfl (t := 14) rfl (fun c1 => ?_) (fun c1 => ?_)
  · replace h := it_f c1 h
    refine ev_iload_n dX4_fill_14 (pc' := 15) rfl rfl ?_
    refine ev_if_ge dX4_fill_15 (pc' := 18) rfl (t := 25) rfl (fun c4 => ?_) (fun c4 => ?_)
    · replace h := it_t c4 h
      refine ev_iload_n dX4_fill_25 (pc' := 26) rfl rfl ?_
      refine ev_aload_n dX4_fill_26 (pc' := 27) rfl rfl ?_
      refine ev_getR (y := 36) dX4_fill_27 (pc' := 30) rfl fq_4_9 kn_35 rfl ?_
      refine ev_iload_n dX4_fill_30 (pc' := 31) rfl rfl ?_
      refine ev_iconst dX4_fill_31 (pc' := 32) (v := 1) rfl (by decide) ?_
      refine ev_invS dX4_fill_32 (pc' := 35) rfl sq_4_44 mt_X4_at rfl ⟨_, rfl, Nat.le_of_ble_eq_true rfl, Nat.le_of_ble_eq_true rfl, rfl, rfl⟩ ?_
      refine X4_at_ca  rfl ?_
      refine ev_r1 ?_
      obtain ⟨g5, h⟩ := gd_of h
      refine ev_ialdK (k0 := ((X4_at a1 1)).toNatClampNeg) dX4_fill_35 (pc' := 36) rfl kn_36 g5 rfl ?_
      refine ev_icmp_le dX4_fill_36 (pc' := 39) rfl (t := 46) rfl (fun c6 => ?_) (fun c6 => ?_)
      · replace h := it_t c6 h
        refine ev_aload_n dX4_fill_46 (pc' := 47) rfl rfl ?_
        refine ev_getR (y := 36) dX4_fill_47 (pc' := 50) rfl fq_4_9 kn_35 rfl ?_
        refine ev_iload_n dX4_fill_50 (pc' := 51) rfl rfl ?_
        refine ev_iconst dX4_fill_51 (pc' := 52) (v := 2) rfl (by decide) ?_
        refine ev_invS dX4_fill_52 (pc' := 55) rfl sq_4_44 mt_X4_at rfl ⟨_, rfl, Nat.le_of_ble_eq_true rfl, Nat.le_of_ble_eq_true rfl, rfl, rfl⟩ ?_
        refine X4_at_ca  rfl ?_
        refine ev_r1 ?_
        obtain ⟨g7, h⟩ := gd_of h
        refine ev_ialdK (k0 := ((X4_at a1 2)).toNatClampNeg) dX4_fill_55 (pc' := 56) rfl kn_36 g7 rfl ?_
        refine ev_topi (fun v8 e_v8 => ?_)
        replace h := nm_at e_v8 h
        refine ev_istore_n dX4_fill_56 (pc' := 57) (ls' := [some (.ref 35), some (.int a1), some (.int a2), some (.int v8)]) rfl (Nat.le_of_ble_eq_true rfl) rfl ?_
        refine ev_aload_n dX4_fill_57 (pc' := 58) rfl rfl ?_
        refine ev_getR (y := 36) dX4_fill_58 (pc' := 61) rfl fq_4_9 kn_35 rfl ?_
        refine ev_iload_n dX4_fill_61 (pc' := 62) rfl rfl ?_
        refine ev_iconst dX4_fill_62 (pc' := 63) (v := 2) rfl (by decide) ?_
        refine ev_invS dX4_fill_63 (pc' := 66) rfl sq_4_44 mt_X4_at rfl ⟨_, rfl, Nat.le_of_ble_eq_true rfl, Nat.le_of_ble_eq_true rfl, rfl, rfl⟩ ?_
        refine X4_at_ca  rfl ?_
        refine ev_r1 ?_
        refine ev_iload_n dX4_fill_66 (pc' := 67) rfl rfl ?_
        refine ev_iastK (k0 := ((X4_at a1 2)).toNatClampNeg) dX4_fill_67 (pc' := 68) rfl kn_36 g7 rfl ?_
        refine ev_topm (fun m9 e_m9 => ?_)
        replace h := nm_at e_m9 h
        refine ev_iload_n dX4_fill_68 (pc' := 69) rfl rfl ?_
        obtain ⟨rfl, rfl⟩ := rt2 h
        exact ev_ireturn dX4_fill_69 rfl q
      · replace h := it_f c6 h
        refine ev_aload_n dX4_fill_39 (pc' := 40) rfl rfl ?_
        refine ev_bipush dX4_fill_40 (pc' := 42) (v := (-6)) rfl (by decide) ?_
        obtain ⟨y10, m11, x_y10, h⟩ := ob2_of h
        refine ev_invV dX4_fill_42 (pc' := 45) rfl sq_4_36 mt_X4_no rfl (arecv_ob (x := 35) rfl rfl (by decide) kn_35) ⟨_, rfl, Nat.le_of_ble_eq_true rfl, Nat.le_of_ble_eq_true rfl, rfl, rfl⟩ ?_
        refine X4_no_ca  x_y10 ?_
        refine ev_r1 ?_
        obtain ⟨rfl, rfl⟩ := rt2 h
        exact ev_ireturn dX4_fill_45 rfl q
    · replace h := it_f c4 h
      refine ev_aload_n dX4_fill_18 (pc' := 19) rfl rfl ?_
      refine ev_bipush dX4_fill_19 (pc' := 21) (v := (-4)) rfl (by decide) ?_
      obtain ⟨y12, m13, x_y12, h⟩ := ob2_of h
      refine ev_invV dX4_fill_21 (pc' := 24) rfl sq_4_36 mt_X4_no rfl (arecv_ob (x := 35) rfl rfl (by decide) kn_35) ⟨_, rfl, Nat.le_of_ble_eq_true rfl, Nat.le_of_ble_eq_true rfl, rfl, rfl⟩ ?_
      refine X4_no_ca  x_y12 ?_
      refine ev_r1 ?_
      obtain ⟨rfl, rfl⟩ := rt2 h
      exact ev_ireturn dX4_fill_24 rfl q
  · replace h := it_t c1 h
    refine ev_aload_n dX4_fill_8 (pc' := 9) rfl rfl ?_
    refine ev_iconst dX4_fill_9 (pc' := 10) (v := (-1)) rfl (by decide) ?_
    obtain ⟨y2, m3, x_y2, h⟩ := ob2_of h
    refine ev_invV dX4_fill_10 (pc' := 13) rfl sq_4_36 mt_X4_no rfl (arecv_ob (x := 35) rfl rfl (by decide) kn_35) ⟨_, rfl, Nat.le_of_ble_eq_true rfl, Nat.le_of_ble_eq_true rfl, rfl, rfl⟩ ?_
    refine X4_no_ca  x_y2 ?_
    refine ev_r1 ?_
    obtain ⟨rfl, rfl⟩ := rt2 h
    exact ev_ireturn dX4_fill_13 rfl q
def X4_takes (_o : Nat) (a1 : Int32) (a2 : Int32) (a3 : Int32) (mem : Mm) : Option (Int32 × Mm) := if (X4_isCask 35 a1 mem) = 0 then (ob2 (X4_no 35 (-1) mem) (fun y2 m3 => some (y2, m3))) else (if a2 < 0 then (ob2 (X4_no 35 (-4) mem) (fun y5 m6 => some (y5, m6))) else (if 0 ≤ a3 then (if 400 < a2 then (ob2 (X4_no 35 (-6) mem) (fun y9 m10 => some (y9, m10))) else (if a3 ≤ 80 then (ob (X4_takesOf 36 a1 a2 a3 mem) (fun y12 => some (y12, mem))) else (ob2 (X4_no 35 (-6) mem) (fun y13 m14 => some (y13, m14))))) else (ob2 (X4_no 35 (-4) mem) (fun y15 m16 => some (y15, m16)))))
set_option maxRecDepth 100000 in
set_option maxHeartbeats 8000000 in
theorem X4_takes_ca {S : Sc} {d : Nat} {a1 : Int32} {a2 : Int32} {a3 : Int32} {mem : Mm} {rr : Int32} {mr : Mm} {Q : Po}  (h : X4_takes 35 a1 a2 a3 mem = some (rr, mr)) (q : Q (some (.int rr)) mr) : Ca S (d + 3) 140 [.ref 35, .int a1, .int a2, .int a3] mem Q := by
  unfold X4_takes at h
  refine ca_in (by decide) mt_X4_takes (Nat.le_of_ble_eq_true rfl) ?_
  show Ev S (d + 2) 4 cX4_takes (some .int) 0 [some (.ref 35), some (.int a1), some (.int a2), some (.int a3)] [] mem Q
  refine ev_aload_n dX4_takes_0 (pc' := 1) rfl rfl ?_
  refine ev_iload_n dX4_takes_1 (pc' := 2) rfl rfl ?_
  refine ev_invV dX4_takes_2 (pc' := 5) rfl sq_4_111 mt_X4_isCask rfl (arecv_ob (x := 35) rfl rfl (by decide) kn_35) ⟨_, rfl, Nat.le_of_ble_eq_true rfl, Nat.le_of_ble_eq_true rfl, rfl, rfl⟩ ?_
  refine X4_isCask_ca  rfl ?_
  refine ev_r1 ?_
  refine ev_if_ne dX4_takes_5 (pc' := 8) rfl (t := 14) rfl (fun c1 => ?_) (fun c1 => ?_)
  · replace h := it_f c1 h
    refine ev_iload_n dX4_takes_14 (pc' := 15) rfl rfl ?_
    refine ev_if_lt dX4_takes_15 (pc' := 18) rfl (t := 22) rfl (fun c4 => ?_) (fun c4 => ?_)
    · replace h := it_t c4 h
      refine ev_aload_n dX4_takes_22 (pc' := 23) rfl rfl ?_
      refine ev_bipush dX4_takes_23 (pc' := 25) (v := (-4)) rfl (by decide) ?_
      obtain ⟨y5, m6, x_y5, h⟩ := ob2_of h
      refine ev_invV dX4_takes_25 (pc' := 28) rfl sq_4_36 mt_X4_no rfl (arecv_ob (x := 35) rfl rfl (by decide) kn_35) ⟨_, rfl, Nat.le_of_ble_eq_true rfl, Nat.le_of_ble_eq_true rfl, rfl, rfl⟩ ?_
      refine X4_no_ca  x_y5 ?_
      refine ev_r1 ?_
      obtain ⟨rfl, rfl⟩ := rt2 h
      exact ev_ireturn dX4_takes_28 rfl q
    · replace h := it_f c4 h
      refine ev_iload_n dX4_takes_18 (pc' := 19) rfl rfl ?_
      refine ev_if_ge dX4_takes_19 (pc' := 22) rfl (t := 29) rfl (fun c7 => ?_) (fun c7 => ?_)
      · replace h := it_t c7 h
        refine ev_iload_n dX4_takes_29 (pc' := 30) rfl rfl ?_
        refine ev_sipush dX4_takes_30 (pc' := 33) (v := 400) rfl (by decide) ?_
        refine ev_icmp_gt dX4_takes_33 (pc' := 36) rfl (t := 42) rfl (fun c8 => ?_) (fun c8 => ?_)
        · replace h := it_t c8 h
          refine ev_aload_n dX4_takes_42 (pc' := 43) rfl rfl ?_
          refine ev_bipush dX4_takes_43 (pc' := 45) (v := (-6)) rfl (by decide) ?_
          obtain ⟨y9, m10, x_y9, h⟩ := ob2_of h
          refine ev_invV dX4_takes_45 (pc' := 48) rfl sq_4_36 mt_X4_no rfl (arecv_ob (x := 35) rfl rfl (by decide) kn_35) ⟨_, rfl, Nat.le_of_ble_eq_true rfl, Nat.le_of_ble_eq_true rfl, rfl, rfl⟩ ?_
          refine X4_no_ca  x_y9 ?_
          refine ev_r1 ?_
          refine ev_goto dX4_takes_48 (t := 61) rfl ?_
          obtain ⟨rfl, rfl⟩ := rt2 h
          exact ev_ireturn dX4_takes_61 rfl q
        · replace h := it_f c8 h
          refine ev_iload_n dX4_takes_36 (pc' := 37) rfl rfl ?_
          refine ev_bipush dX4_takes_37 (pc' := 39) (v := 80) rfl (by decide) ?_
          refine ev_icmp_le dX4_takes_39 (pc' := 42) rfl (t := 51) rfl (fun c11 => ?_) (fun c11 => ?_)
          · replace h := it_t c11 h
            refine ev_aload_n dX4_takes_51 (pc' := 52) rfl rfl ?_
            refine ev_getR (y := 36) dX4_takes_52 (pc' := 55) rfl fq_4_9 kn_35 rfl ?_
            refine ev_iload_n dX4_takes_55 (pc' := 56) rfl rfl ?_
            refine ev_iload_n dX4_takes_56 (pc' := 57) rfl rfl ?_
            refine ev_iload_n dX4_takes_57 (pc' := 58) rfl rfl ?_
            obtain ⟨y12, x_y12, h⟩ := ob_of h
            refine ev_invS dX4_takes_58 (pc' := 61) rfl sq_4_58 mt_X4_takesOf rfl ⟨_, rfl, Nat.le_of_ble_eq_true rfl, Nat.le_of_ble_eq_true rfl, rfl, rfl⟩ ?_
            refine X4_takesOf_ca kn_36 rfl x_y12 ?_
            refine ev_r1 ?_
            obtain ⟨rfl, rfl⟩ := rt2 h
            exact ev_ireturn dX4_takes_61 rfl q
          · replace h := it_f c11 h
            refine ev_aload_n dX4_takes_42 (pc' := 43) rfl rfl ?_
            refine ev_bipush dX4_takes_43 (pc' := 45) (v := (-6)) rfl (by decide) ?_
            obtain ⟨y13, m14, x_y13, h⟩ := ob2_of h
            refine ev_invV dX4_takes_45 (pc' := 48) rfl sq_4_36 mt_X4_no rfl (arecv_ob (x := 35) rfl rfl (by decide) kn_35) ⟨_, rfl, Nat.le_of_ble_eq_true rfl, Nat.le_of_ble_eq_true rfl, rfl, rfl⟩ ?_
            refine X4_no_ca  x_y13 ?_
            refine ev_r1 ?_
            refine ev_goto dX4_takes_48 (t := 61) rfl ?_
            obtain ⟨rfl, rfl⟩ := rt2 h
            exact ev_ireturn dX4_takes_61 rfl q
      · replace h := it_f c7 h
        refine ev_aload_n dX4_takes_22 (pc' := 23) rfl rfl ?_
        refine ev_bipush dX4_takes_23 (pc' := 25) (v := (-4)) rfl (by decide) ?_
        obtain ⟨y15, m16, x_y15, h⟩ := ob2_of h
        refine ev_invV dX4_takes_25 (pc' := 28) rfl sq_4_36 mt_X4_no rfl (arecv_ob (x := 35) rfl rfl (by decide) kn_35) ⟨_, rfl, Nat.le_of_ble_eq_true rfl, Nat.le_of_ble_eq_true rfl, rfl, rfl⟩ ?_
        refine X4_no_ca  x_y15 ?_
        refine ev_r1 ?_
        obtain ⟨rfl, rfl⟩ := rt2 h
        exact ev_ireturn dX4_takes_28 rfl q
  · replace h := it_t c1 h
    refine ev_aload_n dX4_takes_8 (pc' := 9) rfl rfl ?_
    refine ev_iconst dX4_takes_9 (pc' := 10) (v := (-1)) rfl (by decide) ?_
    obtain ⟨y2, m3, x_y2, h⟩ := ob2_of h
    refine ev_invV dX4_takes_10 (pc' := 13) rfl sq_4_36 mt_X4_no rfl (arecv_ob (x := 35) rfl rfl (by decide) kn_35) ⟨_, rfl, Nat.le_of_ble_eq_true rfl, Nat.le_of_ble_eq_true rfl, rfl, rfl⟩ ?_
    refine X4_no_ca  x_y2 ?_
    refine ev_r1 ?_
    obtain ⟨rfl, rfl⟩ := rt2 h
    exact ev_ireturn dX4_takes_13 rfl q
def X4_pour (_o : Nat) (a1 : Int32) (a2 : Int32) (a3 : Int32) (mem : Mm) : Option (Int32 × Mm) := if (X4_isCask 35 a1 mem) = 0 then (ob2 (X4_no 35 (-1) mem) (fun y2 m3 => some (y2, m3))) else (if (X4_isCask 35 a2 mem) = 0 then (ob2 (X4_no 35 (-1) mem) (fun y5 m6 => some (y5, m6))) else (if a1 = a2 then (ob2 (X4_no 35 (-1) mem) (fun y8 m9 => some (y8, m9))) else (if 1 ≤ a3 then (if a3 ≤ 400 then (ob (X4_canPour 35 a1 a2 a3 mem) (fun y12 => if y12 = 0 then (ob2 (X4_no 35 (-3) mem) (fun y14 m15 => some (y14, m15))) else (ob (X4_pours 35 a1 a2 a3 mem) (fun m16 => gd (vin (X4_at a2 3) 47) (some ((m16 36 ((X4_at a2 3)).toNatClampNeg), m16)))))) else (ob2 (X4_no 35 (-6) mem) (fun y18 m19 => some (y18, m19)))) else (ob2 (X4_no 35 (-4) mem) (fun y20 m21 => some (y20, m21))))))
set_option maxRecDepth 100000 in
set_option maxHeartbeats 8000000 in
theorem X4_pour_ca {S : Sc} {d : Nat} {a1 : Int32} {a2 : Int32} {a3 : Int32} {mem : Mm} {rr : Int32} {mr : Mm} {Q : Po}  (h : X4_pour 35 a1 a2 a3 mem = some (rr, mr)) (q : Q (some (.int rr)) mr) : Ca S (d + 4) 141 [.ref 35, .int a1, .int a2, .int a3] mem Q := by
  unfold X4_pour at h
  refine ca_in (by decide) mt_X4_pour (Nat.le_of_ble_eq_true rfl) ?_
  show Ev S (d + 3) 4 cX4_pour (some .int) 0 [some (.ref 35), some (.int a1), some (.int a2), some (.int a3)] [] mem Q
  refine ev_aload_n dX4_pour_0 (pc' := 1) rfl rfl ?_
  refine ev_iload_n dX4_pour_1 (pc' := 2) rfl rfl ?_
  refine ev_invV dX4_pour_2 (pc' := 5) rfl sq_4_111 mt_X4_isCask rfl (arecv_ob (x := 35) rfl rfl (by decide) kn_35) ⟨_, rfl, Nat.le_of_ble_eq_true rfl, Nat.le_of_ble_eq_true rfl, rfl, rfl⟩ ?_
  refine X4_isCask_ca  rfl ?_
  refine ev_r1 ?_
  refine ev_if_eq dX4_pour_5 (pc' := 8) rfl (t := 21) rfl (fun c1 => ?_) (fun c1 => ?_)
  · replace h := it_t c1 h
    refine ev_aload_n dX4_pour_21 (pc' := 22) rfl rfl ?_
    refine ev_iconst dX4_pour_22 (pc' := 23) (v := (-1)) rfl (by decide) ?_
    obtain ⟨y2, m3, x_y2, h⟩ := ob2_of h
    refine ev_invV dX4_pour_23 (pc' := 26) rfl sq_4_36 mt_X4_no rfl (arecv_ob (x := 35) rfl rfl (by decide) kn_35) ⟨_, rfl, Nat.le_of_ble_eq_true rfl, Nat.le_of_ble_eq_true rfl, rfl, rfl⟩ ?_
    refine X4_no_ca  x_y2 ?_
    refine ev_r1 ?_
    obtain ⟨rfl, rfl⟩ := rt2 h
    exact ev_ireturn dX4_pour_26 rfl q
  · replace h := it_f c1 h
    refine ev_aload_n dX4_pour_8 (pc' := 9) rfl rfl ?_
    refine ev_iload_n dX4_pour_9 (pc' := 10) rfl rfl ?_
    refine ev_invV dX4_pour_10 (pc' := 13) rfl sq_4_111 mt_X4_isCask rfl (arecv_ob (x := 35) rfl rfl (by decide) kn_35) ⟨_, rfl, Nat.le_of_ble_eq_true rfl, Nat.le_of_ble_eq_true rfl, rfl, rfl⟩ ?_
    refine X4_isCask_ca  rfl ?_
    refine ev_r1 ?_
    refine ev_if_eq dX4_pour_13 (pc' := 16) rfl (t := 21) rfl (fun c4 => ?_) (fun c4 => ?_)
    · replace h := it_t c4 h
      refine ev_aload_n dX4_pour_21 (pc' := 22) rfl rfl ?_
      refine ev_iconst dX4_pour_22 (pc' := 23) (v := (-1)) rfl (by decide) ?_
      obtain ⟨y5, m6, x_y5, h⟩ := ob2_of h
      refine ev_invV dX4_pour_23 (pc' := 26) rfl sq_4_36 mt_X4_no rfl (arecv_ob (x := 35) rfl rfl (by decide) kn_35) ⟨_, rfl, Nat.le_of_ble_eq_true rfl, Nat.le_of_ble_eq_true rfl, rfl, rfl⟩ ?_
      refine X4_no_ca  x_y5 ?_
      refine ev_r1 ?_
      obtain ⟨rfl, rfl⟩ := rt2 h
      exact ev_ireturn dX4_pour_26 rfl q
    · replace h := it_f c4 h
      refine ev_iload_n dX4_pour_16 (pc' := 17) rfl rfl ?_
      refine ev_iload_n dX4_pour_17 (pc' := 18) rfl rfl ?_
      refine ev_icmp_ne dX4_pour_18 (pc' := 21) rfl (t := 27) rfl (fun c7 => ?_) (fun c7 => ?_)
      · replace h := it_f c7 h
        refine ev_iload_n dX4_pour_27 (pc' := 28) rfl rfl ?_
        refine ev_iconst dX4_pour_28 (pc' := 29) (v := 1) rfl (by decide) ?_
        refine ev_icmp_ge dX4_pour_29 (pc' := 32) rfl (t := 39) rfl (fun c10 => ?_) (fun c10 => ?_)
        · replace h := it_t c10 h
          refine ev_iload_n dX4_pour_39 (pc' := 40) rfl rfl ?_
          refine ev_sipush dX4_pour_40 (pc' := 43) (v := 400) rfl (by decide) ?_
          refine ev_icmp_le dX4_pour_43 (pc' := 46) rfl (t := 53) rfl (fun c11 => ?_) (fun c11 => ?_)
          · replace h := it_t c11 h
            refine ev_aload_n dX4_pour_53 (pc' := 54) rfl rfl ?_
            refine ev_iload_n dX4_pour_54 (pc' := 55) rfl rfl ?_
            refine ev_iload_n dX4_pour_55 (pc' := 56) rfl rfl ?_
            refine ev_iload_n dX4_pour_56 (pc' := 57) rfl rfl ?_
            obtain ⟨y12, x_y12, h⟩ := ob_of h
            refine ev_invV dX4_pour_57 (pc' := 60) rfl sq_4_115 mt_X4_canPour rfl (arecv_ob (x := 35) rfl rfl (by decide) kn_35) ⟨_, rfl, Nat.le_of_ble_eq_true rfl, Nat.le_of_ble_eq_true rfl, rfl, rfl⟩ ?_
            refine X4_canPour_ca  x_y12 ?_
            refine ev_r1 ?_
            refine ev_if_ne dX4_pour_60 (pc' := 63) rfl (t := 70) rfl (fun c13 => ?_) (fun c13 => ?_)
            · replace h := it_f c13 h
              refine ev_aload_n dX4_pour_70 (pc' := 71) rfl rfl ?_
              refine ev_iload_n dX4_pour_71 (pc' := 72) rfl rfl ?_
              refine ev_iload_n dX4_pour_72 (pc' := 73) rfl rfl ?_
              refine ev_iload_n dX4_pour_73 (pc' := 74) rfl rfl ?_
              obtain ⟨m16, x_m16, h⟩ := ob_of h
              refine ev_invV dX4_pour_74 (pc' := 77) rfl sq_4_118 mt_X4_pours rfl (arecv_ob (x := 35) rfl rfl (by decide) kn_35) ⟨_, rfl, Nat.le_of_ble_eq_true rfl, Nat.le_of_ble_eq_true rfl, rfl, rfl⟩ ?_
              refine X4_pours_ca  x_m16 ?_
              refine ev_r0 ?_
              refine ev_aload_n dX4_pour_77 (pc' := 78) rfl rfl ?_
              refine ev_getR (y := 36) dX4_pour_78 (pc' := 81) rfl fq_4_9 kn_35 rfl ?_
              refine ev_iload_n dX4_pour_81 (pc' := 82) rfl rfl ?_
              refine ev_iconst dX4_pour_82 (pc' := 83) (v := 3) rfl (by decide) ?_
              refine ev_invS dX4_pour_83 (pc' := 86) rfl sq_4_44 mt_X4_at rfl ⟨_, rfl, Nat.le_of_ble_eq_true rfl, Nat.le_of_ble_eq_true rfl, rfl, rfl⟩ ?_
              refine X4_at_ca  rfl ?_
              refine ev_r1 ?_
              obtain ⟨g17, h⟩ := gd_of h
              refine ev_ialdK (k0 := ((X4_at a2 3)).toNatClampNeg) dX4_pour_86 (pc' := 87) rfl kn_36 g17 rfl ?_
              obtain ⟨rfl, rfl⟩ := rt2 h
              exact ev_ireturn dX4_pour_87 rfl q
            · replace h := it_t c13 h
              refine ev_aload_n dX4_pour_63 (pc' := 64) rfl rfl ?_
              refine ev_bipush dX4_pour_64 (pc' := 66) (v := (-3)) rfl (by decide) ?_
              obtain ⟨y14, m15, x_y14, h⟩ := ob2_of h
              refine ev_invV dX4_pour_66 (pc' := 69) rfl sq_4_36 mt_X4_no rfl (arecv_ob (x := 35) rfl rfl (by decide) kn_35) ⟨_, rfl, Nat.le_of_ble_eq_true rfl, Nat.le_of_ble_eq_true rfl, rfl, rfl⟩ ?_
              refine X4_no_ca  x_y14 ?_
              refine ev_r1 ?_
              obtain ⟨rfl, rfl⟩ := rt2 h
              exact ev_ireturn dX4_pour_69 rfl q
          · replace h := it_f c11 h
            refine ev_aload_n dX4_pour_46 (pc' := 47) rfl rfl ?_
            refine ev_bipush dX4_pour_47 (pc' := 49) (v := (-6)) rfl (by decide) ?_
            obtain ⟨y18, m19, x_y18, h⟩ := ob2_of h
            refine ev_invV dX4_pour_49 (pc' := 52) rfl sq_4_36 mt_X4_no rfl (arecv_ob (x := 35) rfl rfl (by decide) kn_35) ⟨_, rfl, Nat.le_of_ble_eq_true rfl, Nat.le_of_ble_eq_true rfl, rfl, rfl⟩ ?_
            refine X4_no_ca  x_y18 ?_
            refine ev_r1 ?_
            obtain ⟨rfl, rfl⟩ := rt2 h
            exact ev_ireturn dX4_pour_52 rfl q
        · replace h := it_f c10 h
          refine ev_aload_n dX4_pour_32 (pc' := 33) rfl rfl ?_
          refine ev_bipush dX4_pour_33 (pc' := 35) (v := (-4)) rfl (by decide) ?_
          obtain ⟨y20, m21, x_y20, h⟩ := ob2_of h
          refine ev_invV dX4_pour_35 (pc' := 38) rfl sq_4_36 mt_X4_no rfl (arecv_ob (x := 35) rfl rfl (by decide) kn_35) ⟨_, rfl, Nat.le_of_ble_eq_true rfl, Nat.le_of_ble_eq_true rfl, rfl, rfl⟩ ?_
          refine X4_no_ca  x_y20 ?_
          refine ev_r1 ?_
          obtain ⟨rfl, rfl⟩ := rt2 h
          exact ev_ireturn dX4_pour_38 rfl q
      · replace h := it_t c7 h
        refine ev_aload_n dX4_pour_21 (pc' := 22) rfl rfl ?_
        refine ev_iconst dX4_pour_22 (pc' := 23) (v := (-1)) rfl (by decide) ?_
        obtain ⟨y8, m9, x_y8, h⟩ := ob2_of h
        refine ev_invV dX4_pour_23 (pc' := 26) rfl sq_4_36 mt_X4_no rfl (arecv_ob (x := 35) rfl rfl (by decide) kn_35) ⟨_, rfl, Nat.le_of_ble_eq_true rfl, Nat.le_of_ble_eq_true rfl, rfl, rfl⟩ ?_
        refine X4_no_ca  x_y8 ?_
        refine ev_r1 ?_
        obtain ⟨rfl, rfl⟩ := rt2 h
        exact ev_ireturn dX4_pour_26 rfl q
def X4_years (_o : Nat) (a1 : Int32) (mem : Mm) : Option (Int32 × Mm) := if 1 ≤ a1 then (if 60 < a1 then (ob2 (X4_no 35 (-6) mem) (fun y3 m4 => some (y3, m4))) else (if ((mem 36 1) + a1) ≤ 999 then (ob (X4_yearsOn 35 36 a1 mem) (fun m6 => some ((m6 36 1), m6))) else (ob2 (X4_no 35 (-6) mem) (fun y7 m8 => some (y7, m8))))) else (ob2 (X4_no 35 (-4) mem) (fun y9 m10 => some (y9, m10)))
set_option maxRecDepth 100000 in
set_option maxHeartbeats 8000000 in
theorem X4_years_ca {S : Sc} {d : Nat} {a1 : Int32} {mem : Mm} {rr : Int32} {mr : Mm} {Q : Po}  (h : X4_years 35 a1 mem = some (rr, mr)) (q : Q (some (.int rr)) mr) : Ca S (d + 6) 142 [.ref 35, .int a1] mem Q := by
  unfold X4_years at h
  refine ca_in (by decide) mt_X4_years (Nat.le_of_ble_eq_true rfl) ?_
  show Ev S (d + 5) 4 cX4_years (some .int) 0 [some (.ref 35), some (.int a1)] [] mem Q
  refine ev_iload_n dX4_years_0 (pc' := 1) rfl rfl ?_
  refine ev_iconst dX4_years_1 (pc' := 2) (v := 1) rfl (by decide) ?_
  refine ev_icmp_ge dX4_years_2 (pc' := 5) rfl (t := 12) rfl (fun c1 => ?_) (fun c1 => ?_)
  · replace h := it_t c1 h
    refine ev_iload_n dX4_years_12 (pc' := 13) rfl rfl ?_
    refine ev_bipush dX4_years_13 (pc' := 15) (v := 60) rfl (by decide) ?_
    refine ev_icmp_gt dX4_years_15 (pc' := 18) rfl (t := 32) rfl (fun c2 => ?_) (fun c2 => ?_)
    · replace h := it_t c2 h
      refine ev_aload_n dX4_years_32 (pc' := 33) rfl rfl ?_
      refine ev_bipush dX4_years_33 (pc' := 35) (v := (-6)) rfl (by decide) ?_
      obtain ⟨y3, m4, x_y3, h⟩ := ob2_of h
      refine ev_invV dX4_years_35 (pc' := 38) rfl sq_4_36 mt_X4_no rfl (arecv_ob (x := 35) rfl rfl (by decide) kn_35) ⟨_, rfl, Nat.le_of_ble_eq_true rfl, Nat.le_of_ble_eq_true rfl, rfl, rfl⟩ ?_
      refine X4_no_ca  x_y3 ?_
      refine ev_r1 ?_
      obtain ⟨rfl, rfl⟩ := rt2 h
      exact ev_ireturn dX4_years_38 rfl q
    · replace h := it_f c2 h
      refine ev_aload_n dX4_years_18 (pc' := 19) rfl rfl ?_
      refine ev_getR (y := 36) dX4_years_19 (pc' := 22) rfl fq_4_9 kn_35 rfl ?_
      refine ev_iconst dX4_years_22 (pc' := 23) (v := 1) rfl (by decide) ?_
      refine ev_ialdK (k0 := 1) dX4_years_23 (pc' := 24) rfl kn_36 (by decide) rfl ?_
      refine ev_iload_n dX4_years_24 (pc' := 25) rfl rfl ?_
      refine ev_iadd dX4_years_25 (pc' := 26) rfl ?_
      refine ev_sipush dX4_years_26 (pc' := 29) (v := 999) rfl (by decide) ?_
      refine ev_icmp_le dX4_years_29 (pc' := 32) rfl (t := 39) rfl (fun c5 => ?_) (fun c5 => ?_)
      · replace h := it_t c5 h
        refine ev_aload_n dX4_years_39 (pc' := 40) rfl rfl ?_
        refine ev_aload_n dX4_years_40 (pc' := 41) rfl rfl ?_
        refine ev_getR (y := 36) dX4_years_41 (pc' := 44) rfl fq_4_9 kn_35 rfl ?_
        refine ev_iload_n dX4_years_44 (pc' := 45) rfl rfl ?_
        obtain ⟨m6, x_m6, h⟩ := ob_of h
        refine ev_invV dX4_years_45 (pc' := 48) rfl sq_4_82 mt_X4_yearsOn rfl (arecv_ob (x := 35) rfl rfl (by decide) kn_35) ⟨_, rfl, Nat.le_of_ble_eq_true rfl, Nat.le_of_ble_eq_true rfl, rfl, rfl⟩ ?_
        refine X4_yearsOn_ca kn_36 rfl x_m6 ?_
        refine ev_r0 ?_
        refine ev_aload_n dX4_years_48 (pc' := 49) rfl rfl ?_
        refine ev_getR (y := 36) dX4_years_49 (pc' := 52) rfl fq_4_9 kn_35 rfl ?_
        refine ev_iconst dX4_years_52 (pc' := 53) (v := 1) rfl (by decide) ?_
        refine ev_ialdK (k0 := 1) dX4_years_53 (pc' := 54) rfl kn_36 (by decide) rfl ?_
        obtain ⟨rfl, rfl⟩ := rt2 h
        exact ev_ireturn dX4_years_54 rfl q
      · replace h := it_f c5 h
        refine ev_aload_n dX4_years_32 (pc' := 33) rfl rfl ?_
        refine ev_bipush dX4_years_33 (pc' := 35) (v := (-6)) rfl (by decide) ?_
        obtain ⟨y7, m8, x_y7, h⟩ := ob2_of h
        refine ev_invV dX4_years_35 (pc' := 38) rfl sq_4_36 mt_X4_no rfl (arecv_ob (x := 35) rfl rfl (by decide) kn_35) ⟨_, rfl, Nat.le_of_ble_eq_true rfl, Nat.le_of_ble_eq_true rfl, rfl, rfl⟩ ?_
        refine X4_no_ca  x_y7 ?_
        refine ev_r1 ?_
        obtain ⟨rfl, rfl⟩ := rt2 h
        exact ev_ireturn dX4_years_38 rfl q
  · replace h := it_f c1 h
    refine ev_aload_n dX4_years_5 (pc' := 6) rfl rfl ?_
    refine ev_bipush dX4_years_6 (pc' := 8) (v := (-4)) rfl (by decide) ?_
    obtain ⟨y9, m10, x_y9, h⟩ := ob2_of h
    refine ev_invV dX4_years_8 (pc' := 11) rfl sq_4_36 mt_X4_no rfl (arecv_ob (x := 35) rfl rfl (by decide) kn_35) ⟨_, rfl, Nat.le_of_ble_eq_true rfl, Nat.le_of_ble_eq_true rfl, rfl, rfl⟩ ?_
    refine X4_no_ca  x_y9 ?_
    refine ev_r1 ?_
    obtain ⟨rfl, rfl⟩ := rt2 h
    exact ev_ireturn dX4_years_11 rfl q
def X4_wrongYears (a1 : Int32) : Int32 := if 0 ≤ a1 then (if a1 ≤ 200 then (0) else ((-6))) else ((-4))
set_option maxRecDepth 100000 in
set_option maxHeartbeats 8000000 in
theorem X4_wrongYears_ca {S : Sc} {d : Nat} {a1 : Int32} {mem : Mm} {rr : Int32} {Q : Po}  (h : X4_wrongYears a1 = rr) (q : Q (some (.int rr)) mem) : Ca S (d + 1) 143 [.int a1] mem Q := by
  unfold X4_wrongYears at h
  refine ca_in (by decide) mt_X4_wrongYears (Nat.le_of_ble_eq_true rfl) ?_
  show Ev S (d + 0) 4 cX4_wrongYears (some .int) 0 [some (.int a1)] [] mem Q
  refine ev_iload_n dX4_wrongYears_0 (pc' := 1) rfl rfl ?_
  refine ev_if_ge dX4_wrongYears_1 (pc' := 4) rfl (t := 9) rfl (fun c1 => ?_) (fun c1 => ?_)
  · replace h := it_t c1 h
    refine ev_iload_n dX4_wrongYears_9 (pc' := 10) rfl rfl ?_
    refine ev_sipush dX4_wrongYears_10 (pc' := 13) (v := 200) rfl (by decide) ?_
    refine ev_icmp_le dX4_wrongYears_13 (pc' := 16) rfl (t := 21) rfl (fun c2 => ?_) (fun c2 => ?_)
    · replace h := it_t c2 h
      refine ev_iconst dX4_wrongYears_21 (pc' := 22) (v := 0) rfl (by decide) ?_
      obtain rfl := h
      exact ev_ireturn dX4_wrongYears_22 rfl q
    · replace h := it_f c2 h
      refine ev_bipush dX4_wrongYears_16 (pc' := 18) (v := (-6)) rfl (by decide) ?_
      refine ev_goto dX4_wrongYears_18 (t := 22) rfl ?_
      obtain rfl := h
      exact ev_ireturn dX4_wrongYears_22 rfl q
  · replace h := it_f c1 h
    refine ev_bipush dX4_wrongYears_4 (pc' := 6) (v := (-4)) rfl (by decide) ?_
    refine ev_goto dX4_wrongYears_6 (t := 22) rfl ?_
    obtain rfl := h
    exact ev_ireturn dX4_wrongYears_22 rfl q
def X4_behind (_o : Nat) (a1 : Int32) (a2 : Int32) (a3 : Int32) (mem : Mm) : Option (Int32 × Mm) := if (X4_isCask 35 a1 mem) = 0 then (ob2 (X4_no 35 (-1) mem) (fun y2 m3 => some (y2, m3))) else (nm (X4_wrongYears a2) (fun v4 => if v4 = 0 then (if (X4_isIn a3 0 2) = 0 then (ob2 (X4_no 35 (-2) mem) (fun y7 m8 => some (y7, m8))) else (ob (X4_inMind 35 a2 mem) (fun m9 => if a3 = 0 then (gd (vin (X4_at a1 2) 47) (some ((m9 37 ((X4_at a1 2)).toNatClampNeg), m9))) else (if a3 = 1 then (gd (vin (X4_at a1 3) 47) (some ((m9 37 ((X4_at a1 3)).toNatClampNeg), m9))) else (gd (vin (X4_at a1 5) 47) (some ((m9 37 ((X4_at a1 5)).toNatClampNeg), m9))))))) else (ob2 (X4_no 35 v4 mem) (fun y15 m16 => some (y15, m16)))))
set_option maxRecDepth 100000 in
set_option maxHeartbeats 8000000 in
theorem X4_behind_ca {S : Sc} {d : Nat} {a1 : Int32} {a2 : Int32} {a3 : Int32} {mem : Mm} {rr : Int32} {mr : Mm} {Q : Po}  (h : X4_behind 35 a1 a2 a3 mem = some (rr, mr)) (q : Q (some (.int rr)) mr) : Ca S (d + 7) 144 [.ref 35, .int a1, .int a2, .int a3] mem Q := by
  unfold X4_behind at h
  refine ca_in (by decide) mt_X4_behind (Nat.le_of_ble_eq_true rfl) ?_
  show Ev S (d + 6) 4 cX4_behind (some .int) 0 [some (.ref 35), some (.int a1), some (.int a2), some (.int a3), none] [] mem Q
  refine ev_aload_n dX4_behind_0 (pc' := 1) rfl rfl ?_
  refine ev_iload_n dX4_behind_1 (pc' := 2) rfl rfl ?_
  refine ev_invV dX4_behind_2 (pc' := 5) rfl sq_4_111 mt_X4_isCask rfl (arecv_ob (x := 35) rfl rfl (by decide) kn_35) ⟨_, rfl, Nat.le_of_ble_eq_true rfl, Nat.le_of_ble_eq_true rfl, rfl, rfl⟩ ?_
  refine X4_isCask_ca  rfl ?_
  refine ev_r1 ?_
  refine ev_if_ne dX4_behind_5 (pc' := 8) rfl (t := 12) rfl (fun c1 => ?_) (fun c1 => ?_)
  · replace h := it_f c1 h
    refine ev_iload_n dX4_behind_12 (pc' := 13) rfl rfl ?_
    refine ev_invS dX4_behind_13 (pc' := 16) rfl sq_4_128 mt_X4_wrongYears rfl ⟨_, rfl, Nat.le_of_ble_eq_true rfl, Nat.le_of_ble_eq_true rfl, rfl, rfl⟩ ?_
    refine X4_wrongYears_ca  rfl ?_
    refine ev_r1 ?_
    refine ev_topi (fun v4 e_v4 => ?_)
    replace h := nm_at e_v4 h
    refine ev_istore dX4_behind_16 (pc' := 18) (ls' := [some (.ref 35), some (.int a1), some (.int a2), some (.int a3), some (.int v4)]) rfl (Nat.le_of_ble_eq_true rfl) rfl ?_
    refine ev_iload dX4_behind_18 (pc' := 20) rfl rfl ?_
    refine ev_if_ne dX4_behind_20 (pc' := 23) rfl (t := 36) rfl (fun c5 => ?_) (fun c5 => ?_)
    · replace h := it_f c5 h
      refine ev_iload dX4_behind_36 (pc' := 38) rfl rfl ?_
      refine ev_if_eq dX4_behind_38 (pc' := 41) rfl (t := 48) rfl (fun q => absurd q c5) (fun _ => ?_)
      refine ev_aload_n dX4_behind_41 (pc' := 42) rfl rfl ?_
      refine ev_iload dX4_behind_42 (pc' := 44) rfl rfl ?_
      obtain ⟨y15, m16, x_y15, h⟩ := ob2_of h
      refine ev_invV dX4_behind_44 (pc' := 47) rfl sq_4_36 mt_X4_no rfl (arecv_ob (x := 35) rfl rfl (by decide) kn_35) ⟨_, rfl, Nat.le_of_ble_eq_true rfl, Nat.le_of_ble_eq_true rfl, rfl, rfl⟩ ?_
      refine X4_no_ca  x_y15 ?_
      refine ev_r1 ?_
      obtain ⟨rfl, rfl⟩ := rt2 h
      exact ev_ireturn dX4_behind_47 rfl q
    · replace h := it_t c5 h
      refine ev_iload_n dX4_behind_23 (pc' := 24) rfl rfl ?_
      refine ev_iconst dX4_behind_24 (pc' := 25) (v := 0) rfl (by decide) ?_
      refine ev_iconst dX4_behind_25 (pc' := 26) (v := 2) rfl (by decide) ?_
      refine ev_invS dX4_behind_26 (pc' := 29) rfl sq_4_40 mt_X4_isIn rfl ⟨_, rfl, Nat.le_of_ble_eq_true rfl, Nat.le_of_ble_eq_true rfl, rfl, rfl⟩ ?_
      refine X4_isIn_ca  rfl ?_
      refine ev_r1 ?_
      refine ev_if_ne dX4_behind_29 (pc' := 32) rfl (t := 36) rfl (fun c6 => ?_) (fun c6 => ?_)
      · replace h := it_f c6 h
        refine ev_iload dX4_behind_36 (pc' := 38) rfl rfl ?_
        refine ev_if_eq dX4_behind_38 (pc' := 41) rfl (t := 48) rfl (fun _ => ?_) (fun q => absurd c5 q)
        refine ev_aload_n dX4_behind_48 (pc' := 49) rfl rfl ?_
        refine ev_iload_n dX4_behind_49 (pc' := 50) rfl rfl ?_
        obtain ⟨m9, x_m9, h⟩ := ob_of h
        refine ev_invV dX4_behind_50 (pc' := 53) rfl sq_4_131 mt_X4_inMind rfl (arecv_ob (x := 35) rfl rfl (by decide) kn_35) ⟨_, rfl, Nat.le_of_ble_eq_true rfl, Nat.le_of_ble_eq_true rfl, rfl, rfl⟩ ?_
        refine X4_inMind_ca  x_m9 ?_
        refine ev_r0 ?_
        refine ev_aload_n dX4_behind_53 (pc' := 54) rfl rfl ?_
        refine ev_getR (y := 37) dX4_behind_54 (pc' := 57) rfl fq_4_13 kn_35 rfl ?_
        refine ev_iload_n dX4_behind_57 (pc' := 58) rfl rfl ?_
        refine ev_iload_n dX4_behind_58 (pc' := 59) rfl rfl ?_
        refine ev_if_ne dX4_behind_59 (pc' := 62) rfl (t := 66) rfl (fun c10 => ?_) (fun c10 => ?_)
        · replace h := it_f c10 h
          refine ev_iload_n dX4_behind_66 (pc' := 67) rfl rfl ?_
          refine ev_iconst dX4_behind_67 (pc' := 68) (v := 1) rfl (by decide) ?_
          refine ev_icmp_ne dX4_behind_68 (pc' := 71) rfl (t := 75) rfl (fun c12 => ?_) (fun c12 => ?_)
          · replace h := it_f c12 h
            refine ev_iconst dX4_behind_75 (pc' := 76) (v := 5) rfl (by decide) ?_
            refine ev_invS dX4_behind_76 (pc' := 79) rfl sq_4_44 mt_X4_at rfl ⟨_, rfl, Nat.le_of_ble_eq_true rfl, Nat.le_of_ble_eq_true rfl, rfl, rfl⟩ ?_
            refine X4_at_ca  rfl ?_
            refine ev_r1 ?_
            obtain ⟨g14, h⟩ := gd_of h
            refine ev_ialdK (k0 := ((X4_at a1 5)).toNatClampNeg) dX4_behind_79 (pc' := 80) rfl kn_37 g14 rfl ?_
            obtain ⟨rfl, rfl⟩ := rt2 h
            exact ev_ireturn dX4_behind_80 rfl q
          · replace h := it_t c12 h
            refine ev_iconst dX4_behind_71 (pc' := 72) (v := 3) rfl (by decide) ?_
            refine ev_goto dX4_behind_72 (t := 76) rfl ?_
            refine ev_invS dX4_behind_76 (pc' := 79) rfl sq_4_44 mt_X4_at rfl ⟨_, rfl, Nat.le_of_ble_eq_true rfl, Nat.le_of_ble_eq_true rfl, rfl, rfl⟩ ?_
            refine X4_at_ca  rfl ?_
            refine ev_r1 ?_
            obtain ⟨g13, h⟩ := gd_of h
            refine ev_ialdK (k0 := ((X4_at a1 3)).toNatClampNeg) dX4_behind_79 (pc' := 80) rfl kn_37 g13 rfl ?_
            obtain ⟨rfl, rfl⟩ := rt2 h
            exact ev_ireturn dX4_behind_80 rfl q
        · replace h := it_t c10 h
          refine ev_iconst dX4_behind_62 (pc' := 63) (v := 2) rfl (by decide) ?_
          refine ev_goto dX4_behind_63 (t := 76) rfl ?_
          refine ev_invS dX4_behind_76 (pc' := 79) rfl sq_4_44 mt_X4_at rfl ⟨_, rfl, Nat.le_of_ble_eq_true rfl, Nat.le_of_ble_eq_true rfl, rfl, rfl⟩ ?_
          refine X4_at_ca  rfl ?_
          refine ev_r1 ?_
          obtain ⟨g11, h⟩ := gd_of h
          refine ev_ialdK (k0 := ((X4_at a1 2)).toNatClampNeg) dX4_behind_79 (pc' := 80) rfl kn_37 g11 rfl ?_
          obtain ⟨rfl, rfl⟩ := rt2 h
          exact ev_ireturn dX4_behind_80 rfl q
      · replace h := it_t c6 h
        refine ev_bipush dX4_behind_32 (pc' := 34) (v := (-2)) rfl (by decide) ?_
        refine ev_istore dX4_behind_34 (pc' := 36) (ls' := [some (.ref 35), some (.int a1), some (.int a2), some (.int a3), some (.int (-2))]) rfl (Nat.le_of_ble_eq_true rfl) rfl ?_
        refine ev_iload dX4_behind_36 (pc' := 38) rfl rfl ?_
        refine ev_if_eq dX4_behind_38 (pc' := 41) rfl (t := 48) rfl (fun q => absurd q (by decide)) (fun _ => ?_)
        refine ev_aload_n dX4_behind_41 (pc' := 42) rfl rfl ?_
        refine ev_iload dX4_behind_42 (pc' := 44) rfl rfl ?_
        obtain ⟨y7, m8, x_y7, h⟩ := ob2_of h
        refine ev_invV dX4_behind_44 (pc' := 47) rfl sq_4_36 mt_X4_no rfl (arecv_ob (x := 35) rfl rfl (by decide) kn_35) ⟨_, rfl, Nat.le_of_ble_eq_true rfl, Nat.le_of_ble_eq_true rfl, rfl, rfl⟩ ?_
        refine X4_no_ca  x_y7 ?_
        refine ev_r1 ?_
        obtain ⟨rfl, rfl⟩ := rt2 h
        exact ev_ireturn dX4_behind_47 rfl q
  · replace h := it_t c1 h
    refine ev_iconst dX4_behind_8 (pc' := 9) (v := (-1)) rfl (by decide) ?_
    refine ev_goto dX4_behind_9 (t := 16) rfl ?_
    refine ev_istore dX4_behind_16 (pc' := 18) (ls' := [some (.ref 35), some (.int a1), some (.int a2), some (.int a3), some (.int (-1))]) rfl (Nat.le_of_ble_eq_true rfl) rfl ?_
    refine ev_iload dX4_behind_18 (pc' := 20) rfl rfl ?_
    refine ev_if_ne dX4_behind_20 (pc' := 23) rfl (t := 36) rfl (fun _ => ?_) (fun q => absurd q (by decide))
    refine ev_iload dX4_behind_36 (pc' := 38) rfl rfl ?_
    refine ev_if_eq dX4_behind_38 (pc' := 41) rfl (t := 48) rfl (fun q => absurd q (by decide)) (fun _ => ?_)
    refine ev_aload_n dX4_behind_41 (pc' := 42) rfl rfl ?_
    refine ev_iload dX4_behind_42 (pc' := 44) rfl rfl ?_
    obtain ⟨y2, m3, x_y2, h⟩ := ob2_of h
    refine ev_invV dX4_behind_44 (pc' := 47) rfl sq_4_36 mt_X4_no rfl (arecv_ob (x := 35) rfl rfl (by decide) kn_35) ⟨_, rfl, Nat.le_of_ble_eq_true rfl, Nat.le_of_ble_eq_true rfl, rfl, rfl⟩ ?_
    refine X4_no_ca  x_y2 ?_
    refine ev_r1 ?_
    obtain ⟨rfl, rfl⟩ := rt2 h
    exact ev_ireturn dX4_behind_47 rfl q
