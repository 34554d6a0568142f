def X4_strengthOf (p1 : Nat) (a2 : Int32) (a3 : Int32) (mem : Mm) : Option Int32 := gd (vin (X4_at a2 3) 47) (nm (mem p1 ((X4_at a2 3)).toNatClampNeg) (fun v2 => gd (vin (X4_at a2 0) 47) (if (mem p1 ((X4_at a2 0)).toNatClampNeg) = 1 then (if v2 ≤ 0 then (some 0) else (some (v2 - 1))) else (if (mem p1 ((X4_at a2 0)).toNatClampNeg) = 2 then (if (airem a3 5) = 0 then (some (X4_least 99 (v2 + 1))) else (some v2)) else (if (mem p1 ((X4_at a2 0)).toNatClampNeg) = 4 then (if (airem a3 5) = 0 then (some (X4_least 99 (v2 + 1))) else (some v2)) else (if (mem p1 ((X4_at a2 0)).toNatClampNeg) = 5 then (some (X4_least 99 (v2 + 1))) else (some v2)))))))
set_option maxRecDepth 100000 in
set_option maxHeartbeats 8000000 in
theorem X4_strengthOf_ca {S : Sc} {d : Nat} {p1 : Nat} {a2 : Int32} {a3 : Int32} {mem : Mm} {rr : Int32} {Q : Po} (h_p1 : kdp p1 5) (l_p1 : ln p1 = 47) (h : X4_strengthOf p1 a2 a3 mem = some rr) (q : Q (some (.int rr)) mem) : Ca S (d + 2) 119 [.ref p1, .int a2, .int a3] mem Q := by
  unfold X4_strengthOf at h
  refine ca_in (by decide) mt_X4_strengthOf (Nat.le_of_ble_eq_true rfl) ?_
  show Ev S (d + 1) 4 cX4_strengthOf (some .int) 0 [some (.ref p1), some (.int a2), some (.int a3), none] [] mem Q
  refine ev_aload_n dX4_strengthOf_0 (pc' := 1) rfl rfl ?_
  refine ev_iload_n dX4_strengthOf_1 (pc' := 2) rfl rfl ?_
  refine ev_iconst dX4_strengthOf_2 (pc' := 3) (v := 3) rfl (by decide) ?_
  refine ev_invS dX4_strengthOf_3 (pc' := 6) rfl sq_4_44 mt_X4_at rfl ⟨_, rfl, Nat.le_of_ble_eq_true rfl, Nat.le_of_ble_eq_true rfl, rfl, rfl⟩ ?_
  refine X4_at_ca  rfl ?_
  refine ev_r1 ?_
  obtain ⟨g1, h⟩ := gd_of h
  refine ev_ialdK (k0 := ((X4_at a2 3)).toNatClampNeg) dX4_strengthOf_6 (pc' := 7) rfl h_p1 (by rw [l_p1]; exact g1) rfl ?_
  refine ev_topi (fun v2 e_v2 => ?_)
  replace h := nm_at e_v2 h
  refine ev_istore_n dX4_strengthOf_7 (pc' := 8) (ls' := [some (.ref p1), some (.int a2), some (.int a3), some (.int v2)]) rfl (Nat.le_of_ble_eq_true rfl) rfl ?_
  refine ev_aload_n dX4_strengthOf_8 (pc' := 9) rfl rfl ?_
  refine ev_iload_n dX4_strengthOf_9 (pc' := 10) rfl rfl ?_
  refine ev_iconst dX4_strengthOf_10 (pc' := 11) (v := 0) rfl (by decide) ?_
  refine ev_invS dX4_strengthOf_11 (pc' := 14) rfl sq_4_44 mt_X4_at rfl ⟨_, rfl, Nat.le_of_ble_eq_true rfl, Nat.le_of_ble_eq_true rfl, rfl, rfl⟩ ?_
  refine X4_at_ca  rfl ?_
  refine ev_r1 ?_
  obtain ⟨g3, h⟩ := gd_of h
  refine ev_ialdK (k0 := ((X4_at a2 0)).toNatClampNeg) dX4_strengthOf_14 (pc' := 15) rfl h_p1 (by rw [l_p1]; exact g3) rfl ?_
  by_cases c4 : (mem p1 ((X4_at a2 0)).toNatClampNeg) = 1
  · replace h := it_t c4 h
    refine ev_tableIn dX4_strengthOf_15 c4 (by decide) rfl (t := 48) rfl ?_
    refine ev_iload_n dX4_strengthOf_48 (pc' := 49) rfl rfl ?_
    refine ev_if_le dX4_strengthOf_49 (pc' := 52) rfl (t := 58) rfl (fun c5 => ?_) (fun c5 => ?_)
    · replace h := it_t c5 h
      refine ev_iconst dX4_strengthOf_58 (pc' := 59) (v := 0) rfl (by decide) ?_
      obtain rfl := rt1 h
      exact ev_ireturn dX4_strengthOf_59 rfl q
    · replace h := it_f c5 h
      refine ev_iload_n dX4_strengthOf_52 (pc' := 53) rfl rfl ?_
      refine ev_iconst dX4_strengthOf_53 (pc' := 54) (v := 1) rfl (by decide) ?_
      refine ev_isub dX4_strengthOf_54 (pc' := 55) rfl ?_
      refine ev_goto dX4_strengthOf_55 (t := 59) rfl ?_
      obtain rfl := rt1 h
      exact ev_ireturn dX4_strengthOf_59 rfl q
  · replace h := it_f c4 h
    by_cases c6 : (mem p1 ((X4_at a2 0)).toNatClampNeg) = 2
    · replace h := it_t c6 h
      refine ev_tableIn dX4_strengthOf_15 c6 (by decide) rfl (t := 60) rfl ?_
      refine ev_iload_n dX4_strengthOf_60 (pc' := 61) rfl rfl ?_
      refine ev_iconst dX4_strengthOf_61 (pc' := 62) (v := 5) rfl (by decide) ?_
      refine ev_irem dX4_strengthOf_62 (pc' := 63) rfl (by decide) ?_
      refine ev_if_ne dX4_strengthOf_63 (pc' := 66) rfl (t := 77) rfl (fun c7 => ?_) (fun c7 => ?_)
      · replace h := it_f c7 h
        refine ev_iload_n dX4_strengthOf_77 (pc' := 78) rfl rfl ?_
        obtain rfl := rt1 h
        exact ev_ireturn dX4_strengthOf_78 rfl q
      · replace h := it_t c7 h
        refine ev_bipush dX4_strengthOf_66 (pc' := 68) (v := 99) rfl (by decide) ?_
        refine ev_iload_n dX4_strengthOf_68 (pc' := 69) rfl rfl ?_
        refine ev_iconst dX4_strengthOf_69 (pc' := 70) (v := 1) rfl (by decide) ?_
        refine ev_iadd dX4_strengthOf_70 (pc' := 71) rfl ?_
        refine ev_invS dX4_strengthOf_71 (pc' := 74) rfl sq_4_48 mt_X4_least rfl ⟨_, rfl, Nat.le_of_ble_eq_true rfl, Nat.le_of_ble_eq_true rfl, rfl, rfl⟩ ?_
        refine X4_least_ca  rfl ?_
        refine ev_r1 ?_
        refine ev_goto dX4_strengthOf_74 (t := 78) rfl ?_
        obtain rfl := rt1 h
        exact ev_ireturn dX4_strengthOf_78 rfl q
    · replace h := it_f c6 h
      by_cases c8 : (mem p1 ((X4_at a2 0)).toNatClampNeg) = 4
      · replace h := it_t c8 h
        refine ev_tableIn dX4_strengthOf_15 c8 (by decide) rfl (t := 60) rfl ?_
        refine ev_iload_n dX4_strengthOf_60 (pc' := 61) rfl rfl ?_
        refine ev_iconst dX4_strengthOf_61 (pc' := 62) (v := 5) rfl (by decide) ?_
        refine ev_irem dX4_strengthOf_62 (pc' := 63) rfl (by decide) ?_
        refine ev_if_ne dX4_strengthOf_63 (pc' := 66) rfl (t := 77) rfl (fun c9 => ?_) (fun c9 => ?_)
        · replace h := it_f c9 h
          refine ev_iload_n dX4_strengthOf_77 (pc' := 78) rfl rfl ?_
          obtain rfl := rt1 h
          exact ev_ireturn dX4_strengthOf_78 rfl q
        · replace h := it_t c9 h
          refine ev_bipush dX4_strengthOf_66 (pc' := 68) (v := 99) rfl (by decide) ?_
          refine ev_iload_n dX4_strengthOf_68 (pc' := 69) rfl rfl ?_
          refine ev_iconst dX4_strengthOf_69 (pc' := 70) (v := 1) rfl (by decide) ?_
          refine ev_iadd dX4_strengthOf_70 (pc' := 71) rfl ?_
          refine ev_invS dX4_strengthOf_71 (pc' := 74) rfl sq_4_48 mt_X4_least rfl ⟨_, rfl, Nat.le_of_ble_eq_true rfl, Nat.le_of_ble_eq_true rfl, rfl, rfl⟩ ?_
          refine X4_least_ca  rfl ?_
          refine ev_r1 ?_
          refine ev_goto dX4_strengthOf_74 (t := 78) rfl ?_
          obtain rfl := rt1 h
          exact ev_ireturn dX4_strengthOf_78 rfl q
      · replace h := it_f c8 h
        by_cases c10 : (mem p1 ((X4_at a2 0)).toNatClampNeg) = 5
        · replace h := it_t c10 h
          refine ev_tableIn dX4_strengthOf_15 c10 (by decide) rfl (t := 79) rfl ?_
          refine ev_bipush dX4_strengthOf_79 (pc' := 81) (v := 99) rfl (by decide) ?_
          refine ev_iload_n dX4_strengthOf_81 (pc' := 82) rfl rfl ?_
          refine ev_iconst dX4_strengthOf_82 (pc' := 83) (v := 1) rfl (by decide) ?_
          refine ev_iadd dX4_strengthOf_83 (pc' := 84) rfl ?_
          refine ev_invS dX4_strengthOf_84 (pc' := 87) rfl sq_4_48 mt_X4_least rfl ⟨_, rfl, Nat.le_of_ble_eq_true rfl, Nat.le_of_ble_eq_true rfl, rfl, rfl⟩ ?_
          refine X4_least_ca  rfl ?_
          refine ev_r1 ?_
          obtain rfl := rt1 h
          exact ev_ireturn dX4_strengthOf_87 rfl q
        · replace h := it_f c10 h
          refine ev_tableDef dX4_strengthOf_15 [1, 2, 4, 5] (by decide) (List.forall_mem_cons.mpr ⟨c4, List.forall_mem_cons.mpr ⟨c6, List.forall_mem_cons.mpr ⟨c8, List.forall_mem_cons.mpr ⟨c10, fun _ h => absurd h List.not_mem_nil⟩⟩⟩⟩) (t := 88) rfl ?_
          refine ev_iload_n dX4_strengthOf_88 (pc' := 89) rfl rfl ?_
          obtain rfl := rt1 h
          exact ev_ireturn dX4_strengthOf_89 rfl q
def X4_backOf (p1 : Nat) (a2 : Int32) (mem : Mm) : Option Int32 := gd (vin (X4_at a2 5) 47) (nm (mem p1 ((X4_at a2 5)).toNatClampNeg) (fun v2 => gd (vin (X4_at a2 0) 47) (if (mem p1 ((X4_at a2 0)).toNatClampNeg) = 0 then (some (v2 / 2)) else (if (mem p1 ((X4_at a2 0)).toNatClampNeg) = 2 then (gd (vin (X4_at a2 4) 47) (if v2 < (mem p1 ((X4_at a2 4)).toNatClampNeg) then (some 0) else (some (mem p1 ((X4_at a2 4)).toNatClampNeg)))) else (if (mem p1 ((X4_at a2 0)).toNatClampNeg) = 4 then (some (v2 / 3)) else (some 0))))))
set_option maxRecDepth 100000 in
set_option maxHeartbeats 8000000 in
theorem X4_backOf_ca {S : Sc} {d : Nat} {p1 : Nat} {a2 : Int32} {mem : Mm} {rr : Int32} {Q : Po} (h_p1 : kdp p1 5) (l_p1 : ln p1 = 47) (h : X4_backOf p1 a2 mem = some rr) (q : Q (some (.int rr)) mem) : Ca S (d + 2) 120 [.ref p1, .int a2] mem Q := by
  unfold X4_backOf at h
  refine ca_in (by decide) mt_X4_backOf (Nat.le_of_ble_eq_true rfl) ?_
  show Ev S (d + 1) 4 cX4_backOf (some .int) 0 [some (.ref p1), some (.int a2), none] [] mem Q
  refine ev_aload_n dX4_backOf_0 (pc' := 1) rfl rfl ?_
  refine ev_iload_n dX4_backOf_1 (pc' := 2) rfl rfl ?_
  refine ev_iconst dX4_backOf_2 (pc' := 3) (v := 5) rfl (by decide) ?_
  refine ev_invS dX4_backOf_3 (pc' := 6) rfl sq_4_44 mt_X4_at rfl ⟨_, rfl, Nat.le_of_ble_eq_true rfl, Nat.le_of_ble_eq_true rfl, rfl, rfl⟩ ?_
  refine X4_at_ca  rfl ?_
  refine ev_r1 ?_
  obtain ⟨g1, h⟩ := gd_of h
  refine ev_ialdK (k0 := ((X4_at a2 5)).toNatClampNeg) dX4_backOf_6 (pc' := 7) rfl h_p1 (by rw [l_p1]; exact g1) rfl ?_
  refine ev_topi (fun v2 e_v2 => ?_)
  replace h := nm_at e_v2 h
  refine ev_istore_n dX4_backOf_7 (pc' := 8) (ls' := [some (.ref p1), some (.int a2), some (.int v2)]) rfl (Nat.le_of_ble_eq_true rfl) rfl ?_
  refine ev_aload_n dX4_backOf_8 (pc' := 9) rfl rfl ?_
  refine ev_iload_n dX4_backOf_9 (pc' := 10) rfl rfl ?_
  refine ev_iconst dX4_backOf_10 (pc' := 11) (v := 0) rfl (by decide) ?_
  refine ev_invS dX4_backOf_11 (pc' := 14) rfl sq_4_44 mt_X4_at rfl ⟨_, rfl, Nat.le_of_ble_eq_true rfl, Nat.le_of_ble_eq_true rfl, rfl, rfl⟩ ?_
  refine X4_at_ca  rfl ?_
  refine ev_r1 ?_
  obtain ⟨g3, h⟩ := gd_of h
  refine ev_ialdK (k0 := ((X4_at a2 0)).toNatClampNeg) dX4_backOf_14 (pc' := 15) rfl h_p1 (by rw [l_p1]; exact g3) rfl ?_
  by_cases c4 : (mem p1 ((X4_at a2 0)).toNatClampNeg) = 0
  · replace h := it_t c4 h
    refine ev_tableIn dX4_backOf_15 c4 (by decide) rfl (t := 48) rfl ?_
    refine ev_iload_n dX4_backOf_48 (pc' := 49) rfl rfl ?_
    refine ev_iconst dX4_backOf_49 (pc' := 50) (v := 2) rfl (by decide) ?_
    refine ev_idiv dX4_backOf_50 (pc' := 51) rfl (by decide) ?_
    obtain rfl := rt1 h
    exact ev_ireturn dX4_backOf_51 rfl q
  · replace h := it_f c4 h
    by_cases c5 : (mem p1 ((X4_at a2 0)).toNatClampNeg) = 2
    · replace h := it_t c5 h
      refine ev_tableIn dX4_backOf_15 c5 (by decide) rfl (t := 52) rfl ?_
      refine ev_iload_n dX4_backOf_52 (pc' := 53) rfl rfl ?_
      refine ev_aload_n dX4_backOf_53 (pc' := 54) rfl rfl ?_
      refine ev_iload_n dX4_backOf_54 (pc' := 55) rfl rfl ?_
      refine ev_iconst dX4_backOf_55 (pc' := 56) (v := 4) rfl (by decide) ?_
      refine ev_invS dX4_backOf_56 (pc' := 59) rfl sq_4_44 mt_X4_at rfl ⟨_, rfl, Nat.le_of_ble_eq_true rfl, Nat.le_of_ble_eq_true rfl, rfl, rfl⟩ ?_
      refine X4_at_ca  rfl ?_
      refine ev_r1 ?_
      obtain ⟨g6, h⟩ := gd_of h
      refine ev_ialdK (k0 := ((X4_at a2 4)).toNatClampNeg) dX4_backOf_59 (pc' := 60) rfl h_p1 (by rw [l_p1]; exact g6) rfl ?_
      refine ev_icmp_lt dX4_backOf_60 (pc' := 63) rfl (t := 73) rfl (fun c7 => ?_) (fun c7 => ?_)
      · replace h := it_t c7 h
        refine ev_iconst dX4_backOf_73 (pc' := 74) (v := 0) rfl (by decide) ?_
        obtain rfl := rt1 h
        exact ev_ireturn dX4_backOf_74 rfl q
      · replace h := it_f c7 h
        refine ev_aload_n dX4_backOf_63 (pc' := 64) rfl rfl ?_
        refine ev_iload_n dX4_backOf_64 (pc' := 65) rfl rfl ?_
        refine ev_iconst dX4_backOf_65 (pc' := 66) (v := 4) rfl (by decide) ?_
        refine ev_invS dX4_backOf_66 (pc' := 69) rfl sq_4_44 mt_X4_at rfl ⟨_, rfl, Nat.le_of_ble_eq_true rfl, Nat.le_of_ble_eq_true rfl, rfl, rfl⟩ ?_
        refine X4_at_ca  rfl ?_
        refine ev_r1 ?_
        refine ev_ialdK (k0 := ((X4_at a2 4)).toNatClampNeg) dX4_backOf_69 (pc' := 70) rfl h_p1 (by rw [l_p1]; exact g6) rfl ?_
        refine ev_goto dX4_backOf_70 (t := 74) rfl ?_
        obtain rfl := rt1 h
        exact ev_ireturn dX4_backOf_74 rfl q
    · replace h := it_f c5 h
      by_cases c8 : (mem p1 ((X4_at a2 0)).toNatClampNeg) = 4
      · replace h := it_t c8 h
        refine ev_tableIn dX4_backOf_15 c8 (by decide) rfl (t := 75) rfl ?_
        refine ev_iload_n dX4_backOf_75 (pc' := 76) rfl rfl ?_
        refine ev_iconst dX4_backOf_76 (pc' := 77) (v := 3) rfl (by decide) ?_
        refine ev_idiv dX4_backOf_77 (pc' := 78) rfl (by decide) ?_
        obtain rfl := rt1 h
        exact ev_ireturn dX4_backOf_78 rfl q
      · replace h := it_f c8 h
        refine ev_tableDef dX4_backOf_15 [0, 2, 4] (by decide) (List.forall_mem_cons.mpr ⟨c4, List.forall_mem_cons.mpr ⟨c5, List.forall_mem_cons.mpr ⟨c8, fun _ h => absurd h List.not_mem_nil⟩⟩⟩) (t := 79) rfl ?_
        refine ev_iconst dX4_backOf_79 (pc' := 80) (v := 0) rfl (by decide) ?_
        obtain rfl := rt1 h
        exact ev_ireturn dX4_backOf_80 rfl q
def X4_yearBy_L41 (p1 : Nat) (a6 : Int32) : Nat → Int32 → Mm → Option Mm
  | 0, _, _ => none
  | n + 1, w7, m8 => if (m8 p1 0) ≤ w7 then (some m8) else (gd (vin (X4_at w7 2) 47) (ob (X4_takesOf p1 w7 (m8 p1 ((X4_at w7 2)).toNatClampNeg) a6 m8) (fun y11 => nm (mset m8 p1 ((X4_at w7 2)).toNatClampNeg ((m8 p1 ((X4_at w7 2)).toNatClampNeg) - y11)) (fun m12 => gd (vin (X4_at w7 5) 47) (nm (mset m12 p1 ((X4_at w7 5)).toNatClampNeg ((m12 p1 ((X4_at w7 5)).toNatClampNeg) + y11)) (fun m14 => nm (mset m14 35 10 ((m14 35 10) + y11)) (fun m15 => ob (X4_strengthOf p1 w7 (m15 p1 1) m15) (fun y16 => gd (vin (X4_at w7 3) 47) (nm (mset m15 p1 ((X4_at w7 3)).toNatClampNeg y16) (fun m18 => if (airem (m18 p1 1) 7) = 0 then (ob (X4_backOf p1 w7 m18) (fun y20 => gd (vin (X4_at w7 1) 47) (nm (X4_least y20 ((m18 p1 ((X4_at w7 1)).toNatClampNeg) - (m18 p1 ((X4_at w7 2)).toNatClampNeg))) (fun v22 => nm (mset m18 p1 ((X4_at w7 2)).toNatClampNeg ((m18 p1 ((X4_at w7 2)).toNatClampNeg) + v22)) (fun m23 => nm (mset m23 p1 ((X4_at w7 5)).toNatClampNeg ((m23 p1 ((X4_at w7 5)).toNatClampNeg) - v22)) (fun m24 => nm (mset m24 35 11 ((m24 35 11) + v22)) (fun m25 => nm (w7 + 1) (fun v26 => X4_yearBy_L41 p1 a6 n v26 m25)))))))) else (nm (w7 + 1) (fun v27 => X4_yearBy_L41 p1 a6 n v27 m18))))))))))))
def X4_yearBy (_o : Nat) (p1 : Nat) (a2 : Int32) (mem : Mm) : Option Mm := nm (mset mem p1 1 ((mem p1 1) + 1)) (fun m1 => if a2 = 0 then (nm (m1 p1 2) (fun v3 => nm (mset m1 35 10 0) (fun m4 => nm (mset m4 35 11 0) (fun m5 => X4_yearBy_L41 p1 v3 LF 0 m5)))) else (nm (X4_least 80 (2 * (m1 p1 2))) (fun v28 => nm (mset m1 35 10 0) (fun m29 => nm (mset m29 35 11 0) (fun m30 => X4_yearBy_L41 p1 v28 LF 0 m30)))))
set_option maxRecDepth 100000 in
set_option maxHeartbeats 8000000 in
theorem X4_yearBy_L41_ev {S : Sc} {d : Nat} {p1 : Nat} {a6 : Int32} {mr : Mm} {Q : Po} (h_p1 : kdp p1 5) (l_p1 : ln p1 = 47) (q : Q none mr) : ∀ (n : Nat) (w7 : Int32) (m8 : Mm), X4_yearBy_L41 p1 a6 n w7 m8 = some mr → Ev S (d + 2) 4 cX4_yearBy none 41 [some (.ref 35), some (.ref p1), none, some (.int a6), some (.int w7), none, none] [] m8 Q := by
  intro n
  induction n with
  | zero => intro w7 m8 h; cases h
  | succ n ih =>
    intro w7 m8 h
    unfold X4_yearBy_L41 at h
    refine ev_iload dX4_yearBy_41 (pc' := 43) rfl rfl ?_
    refine ev_aload_n dX4_yearBy_43 (pc' := 44) rfl rfl ?_
    refine ev_iconst dX4_yearBy_44 (pc' := 45) (v := 0) rfl (by decide) ?_
    refine ev_ialdK (k0 := 0) dX4_yearBy_45 (pc' := 46) rfl h_p1 (by rw [l_p1]; decide) rfl ?_
    refine ev_icmp_ge dX4_yearBy_46 (pc' := 49) rfl (t := 203) rfl (fun c9 => ?_) (fun c9 => ?_)
    · replace h := it_t c9 h
      obtain rfl := rt1 h
      exact ev_return dX4_yearBy_203 rfl q
    · replace h := it_f c9 h
      refine ev_aload_n dX4_yearBy_49 (pc' := 50) rfl rfl ?_
      refine ev_iload dX4_yearBy_50 (pc' := 52) rfl rfl ?_
      refine ev_aload_n dX4_yearBy_52 (pc' := 53) rfl rfl ?_
      refine ev_iload dX4_yearBy_53 (pc' := 55) rfl rfl ?_
      refine ev_iconst dX4_yearBy_55 (pc' := 56) (v := 2) rfl (by decide) ?_
      refine ev_invS dX4_yearBy_56 (pc' := 59) rfl sq_4_44 mt_X4_at rfl ⟨_, rfl, Nat.le_of_ble_eq_true rfl, Nat.le_of_ble_eq_true rfl, rfl, rfl⟩ ?_
      refine X4_at_ca  rfl ?_
      refine ev_r1 ?_
      obtain ⟨g10, h⟩ := gd_of h
      refine ev_ialdK (k0 := ((X4_at w7 2)).toNatClampNeg) dX4_yearBy_59 (pc' := 60) rfl h_p1 (by rw [l_p1]; exact g10) rfl ?_
      refine ev_iload_n dX4_yearBy_60 (pc' := 61) rfl rfl ?_
      obtain ⟨y11, x_y11, h⟩ := ob_of h
      refine ev_invS dX4_yearBy_61 (pc' := 64) rfl sq_4_58 mt_X4_takesOf rfl ⟨_, rfl, Nat.le_of_ble_eq_true rfl, Nat.le_of_ble_eq_true rfl, rfl, rfl⟩ ?_
      refine X4_takesOf_ca h_p1 l_p1 x_y11 ?_
      refine ev_r1 ?_
      refine ev_istore dX4_yearBy_64 (pc' := 66) (ls' := [some (.ref 35), some (.ref p1), none, some (.int a6), some (.int w7), some (.int y11), none]) rfl (Nat.le_of_ble_eq_true rfl) rfl ?_
      refine ev_aload_n dX4_yearBy_66 (pc' := 67) rfl rfl ?_
      refine ev_iload dX4_yearBy_67 (pc' := 69) rfl rfl ?_
      refine ev_iconst dX4_yearBy_69 (pc' := 70) (v := 2) rfl (by decide) ?_
      refine ev_invS dX4_yearBy_70 (pc' := 73) rfl sq_4_44 mt_X4_at rfl ⟨_, rfl, Nat.le_of_ble_eq_true rfl, Nat.le_of_ble_eq_true rfl, rfl, rfl⟩ ?_
      refine X4_at_ca  rfl ?_
      refine ev_r1 ?_
      refine ev_dup2 dX4_yearBy_73 (pc' := 74) rfl rfl rfl ?_
      refine ev_ialdK (k0 := ((X4_at w7 2)).toNatClampNeg) dX4_yearBy_74 (pc' := 75) rfl h_p1 (by rw [l_p1]; exact g10) rfl ?_
      refine ev_iload dX4_yearBy_75 (pc' := 77) rfl rfl ?_
      refine ev_isub dX4_yearBy_77 (pc' := 78) rfl ?_
      refine ev_iastK (k0 := ((X4_at w7 2)).toNatClampNeg) dX4_yearBy_78 (pc' := 79) rfl h_p1 (by rw [l_p1]; exact g10) rfl ?_
      refine ev_topm (fun m12 e_m12 => ?_)
      replace h := nm_at e_m12 h
      refine ev_aload_n dX4_yearBy_79 (pc' := 80) rfl rfl ?_
      refine ev_iload dX4_yearBy_80 (pc' := 82) rfl rfl ?_
      refine ev_iconst dX4_yearBy_82 (pc' := 83) (v := 5) rfl (by decide) ?_
      refine ev_invS dX4_yearBy_83 (pc' := 86) rfl sq_4_44 mt_X4_at rfl ⟨_, rfl, Nat.le_of_ble_eq_true rfl, Nat.le_of_ble_eq_true rfl, rfl, rfl⟩ ?_
      refine X4_at_ca  rfl ?_
      refine ev_r1 ?_
      refine ev_dup2 dX4_yearBy_86 (pc' := 87) rfl rfl rfl ?_
      obtain ⟨g13, h⟩ := gd_of h
      refine ev_ialdK (k0 := ((X4_at w7 5)).toNatClampNeg) dX4_yearBy_87 (pc' := 88) rfl h_p1 (by rw [l_p1]; exact g13) rfl ?_
      refine ev_iload dX4_yearBy_88 (pc' := 90) rfl rfl ?_
      refine ev_iadd dX4_yearBy_90 (pc' := 91) rfl ?_
      refine ev_iastK (k0 := ((X4_at w7 5)).toNatClampNeg) dX4_yearBy_91 (pc' := 92) rfl h_p1 (by rw [l_p1]; exact g13) rfl ?_
      refine ev_topm (fun m14 e_m14 => ?_)
      replace h := nm_at e_m14 h
      refine ev_aload_n dX4_yearBy_92 (pc' := 93) rfl rfl ?_
      refine ev_dup dX4_yearBy_93 (pc' := 94) rfl rfl ?_
      refine ev_get dX4_yearBy_94 (pc' := 97) rfl fq_4_51 kn_35 rfl ?_
      refine ev_iload dX4_yearBy_97 (pc' := 99) rfl rfl ?_
      refine ev_iadd dX4_yearBy_99 (pc' := 100) rfl ?_
      refine ev_put dX4_yearBy_100 (pc' := 103) rfl fq_4_51 kn_35 rfl (Or.inl (by decide)) ?_
      refine ev_topm (fun m15 e_m15 => ?_)
      replace h := nm_at e_m15 h
      refine ev_aload_n dX4_yearBy_103 (pc' := 104) rfl rfl ?_
      refine ev_iload dX4_yearBy_104 (pc' := 106) rfl rfl ?_
      refine ev_iconst dX4_yearBy_106 (pc' := 107) (v := 3) rfl (by decide) ?_
      refine ev_invS dX4_yearBy_107 (pc' := 110) rfl sq_4_44 mt_X4_at rfl ⟨_, rfl, Nat.le_of_ble_eq_true rfl, Nat.le_of_ble_eq_true rfl, rfl, rfl⟩ ?_
      refine X4_at_ca  rfl ?_
      refine ev_r1 ?_
      refine ev_aload_n dX4_yearBy_110 (pc' := 111) rfl rfl ?_
      refine ev_iload dX4_yearBy_111 (pc' := 113) rfl rfl ?_
      refine ev_aload_n dX4_yearBy_113 (pc' := 114) rfl rfl ?_
      refine ev_iconst dX4_yearBy_114 (pc' := 115) (v := 1) rfl (by decide) ?_
      refine ev_ialdK (k0 := 1) dX4_yearBy_115 (pc' := 116) rfl h_p1 (by rw [l_p1]; decide) rfl ?_
      obtain ⟨y16, x_y16, h⟩ := ob_of h
      refine ev_invS dX4_yearBy_116 (pc' := 119) rfl sq_4_62 mt_X4_strengthOf rfl ⟨_, rfl, Nat.le_of_ble_eq_true rfl, Nat.le_of_ble_eq_true rfl, rfl, rfl⟩ ?_
      refine X4_strengthOf_ca h_p1 l_p1 x_y16 ?_
      refine ev_r1 ?_
      obtain ⟨g17, h⟩ := gd_of h
      refine ev_iastK (k0 := ((X4_at w7 3)).toNatClampNeg) dX4_yearBy_119 (pc' := 120) rfl h_p1 (by rw [l_p1]; exact g17) rfl ?_
      refine ev_topm (fun m18 e_m18 => ?_)
      replace h := nm_at e_m18 h
      refine ev_aload_n dX4_yearBy_120 (pc' := 121) rfl rfl ?_
      refine ev_iconst dX4_yearBy_121 (pc' := 122) (v := 1) rfl (by decide) ?_
      refine ev_ialdK (k0 := 1) dX4_yearBy_122 (pc' := 123) rfl h_p1 (by rw [l_p1]; decide) rfl ?_
      refine ev_bipush dX4_yearBy_123 (pc' := 125) (v := 7) rfl (by decide) ?_
      refine ev_irem dX4_yearBy_125 (pc' := 126) rfl (by decide) ?_
      refine ev_if_eq dX4_yearBy_126 (pc' := 129) rfl (t := 132) rfl (fun c19 => ?_) (fun c19 => ?_)
      · replace h := it_t c19 h
        refine ev_aload_n dX4_yearBy_132 (pc' := 133) rfl rfl ?_
        refine ev_iload dX4_yearBy_133 (pc' := 135) rfl rfl ?_
        obtain ⟨y20, x_y20, h⟩ := ob_of h
        refine ev_invS dX4_yearBy_135 (pc' := 138) rfl sq_4_66 mt_X4_backOf rfl ⟨_, rfl, Nat.le_of_ble_eq_true rfl, Nat.le_of_ble_eq_true rfl, rfl, rfl⟩ ?_
        refine X4_backOf_ca h_p1 l_p1 x_y20 ?_
        refine ev_r1 ?_
        refine ev_aload_n dX4_yearBy_138 (pc' := 139) rfl rfl ?_
        refine ev_iload dX4_yearBy_139 (pc' := 141) rfl rfl ?_
        refine ev_iconst dX4_yearBy_141 (pc' := 142) (v := 1) rfl (by decide) ?_
        refine ev_invS dX4_yearBy_142 (pc' := 145) rfl sq_4_44 mt_X4_at rfl ⟨_, rfl, Nat.le_of_ble_eq_true rfl, Nat.le_of_ble_eq_true rfl, rfl, rfl⟩ ?_
        refine X4_at_ca  rfl ?_
        refine ev_r1 ?_
        obtain ⟨g21, h⟩ := gd_of h
        refine ev_ialdK (k0 := ((X4_at w7 1)).toNatClampNeg) dX4_yearBy_145 (pc' := 146) rfl h_p1 (by rw [l_p1]; exact g21) rfl ?_
        refine ev_aload_n dX4_yearBy_146 (pc' := 147) rfl rfl ?_
        refine ev_iload dX4_yearBy_147 (pc' := 149) rfl rfl ?_
        refine ev_iconst dX4_yearBy_149 (pc' := 150) (v := 2) rfl (by decide) ?_
        refine ev_invS dX4_yearBy_150 (pc' := 153) rfl sq_4_44 mt_X4_at rfl ⟨_, rfl, Nat.le_of_ble_eq_true rfl, Nat.le_of_ble_eq_true rfl, rfl, rfl⟩ ?_
        refine X4_at_ca  rfl ?_
        refine ev_r1 ?_
        refine ev_ialdK (k0 := ((X4_at w7 2)).toNatClampNeg) dX4_yearBy_153 (pc' := 154) rfl h_p1 (by rw [l_p1]; exact g10) rfl ?_
        refine ev_isub dX4_yearBy_154 (pc' := 155) rfl ?_
        refine ev_invS dX4_yearBy_155 (pc' := 158) rfl sq_4_48 mt_X4_least rfl ⟨_, rfl, Nat.le_of_ble_eq_true rfl, Nat.le_of_ble_eq_true rfl, rfl, rfl⟩ ?_
        refine X4_least_ca  rfl ?_
        refine ev_r1 ?_
        refine ev_topi (fun v22 e_v22 => ?_)
        replace h := nm_at e_v22 h
        refine ev_istore dX4_yearBy_158 (pc' := 160) (ls' := [some (.ref 35), some (.ref p1), none, some (.int a6), some (.int w7), some (.int y11), some (.int v22)]) rfl (Nat.le_of_ble_eq_true rfl) rfl ?_
        refine ev_aload_n dX4_yearBy_160 (pc' := 161) rfl rfl ?_
        refine ev_iload dX4_yearBy_161 (pc' := 163) rfl rfl ?_
        refine ev_iconst dX4_yearBy_163 (pc' := 164) (v := 2) rfl (by decide) ?_
        refine ev_invS dX4_yearBy_164 (pc' := 167) rfl sq_4_44 mt_X4_at rfl ⟨_, rfl, Nat.le_of_ble_eq_true rfl, Nat.le_of_ble_eq_true rfl, rfl, rfl⟩ ?_
        refine X4_at_ca  rfl ?_
        refine ev_r1 ?_
        refine ev_dup2 dX4_yearBy_167 (pc' := 168) rfl rfl rfl ?_
        refine ev_ialdK (k0 := ((X4_at w7 2)).toNatClampNeg) dX4_yearBy_168 (pc' := 169) rfl h_p1 (by rw [l_p1]; exact g10) rfl ?_
        refine ev_iload dX4_yearBy_169 (pc' := 171) rfl rfl ?_
        refine ev_iadd dX4_yearBy_171 (pc' := 172) rfl ?_
        refine ev_iastK (k0 := ((X4_at w7 2)).toNatClampNeg) dX4_yearBy_172 (pc' := 173) rfl h_p1 (by rw [l_p1]; exact g10) rfl ?_
        refine ev_topm (fun m23 e_m23 => ?_)
        replace h := nm_at e_m23 h
        refine ev_aload_n dX4_yearBy_173 (pc' := 174) rfl rfl ?_
        refine ev_iload dX4_yearBy_174 (pc' := 176) rfl rfl ?_
        refine ev_iconst dX4_yearBy_176 (pc' := 177) (v := 5) rfl (by decide) ?_
        refine ev_invS dX4_yearBy_177 (pc' := 180) rfl sq_4_44 mt_X4_at rfl ⟨_, rfl, Nat.le_of_ble_eq_true rfl, Nat.le_of_ble_eq_true rfl, rfl, rfl⟩ ?_
        refine X4_at_ca  rfl ?_
        refine ev_r1 ?_
        refine ev_dup2 dX4_yearBy_180 (pc' := 181) rfl rfl rfl ?_
        refine ev_ialdK (k0 := ((X4_at w7 5)).toNatClampNeg) dX4_yearBy_181 (pc' := 182) rfl h_p1 (by rw [l_p1]; exact g13) rfl ?_
        refine ev_iload dX4_yearBy_182 (pc' := 184) rfl rfl ?_
        refine ev_isub dX4_yearBy_184 (pc' := 185) rfl ?_
        refine ev_iastK (k0 := ((X4_at w7 5)).toNatClampNeg) dX4_yearBy_185 (pc' := 186) rfl h_p1 (by rw [l_p1]; exact g13) rfl ?_
        refine ev_topm (fun m24 e_m24 => ?_)
        replace h := nm_at e_m24 h
        refine ev_aload_n dX4_yearBy_186 (pc' := 187) rfl rfl ?_
        refine ev_dup dX4_yearBy_187 (pc' := 188) rfl rfl ?_
        refine ev_get dX4_yearBy_188 (pc' := 191) rfl fq_4_55 kn_35 rfl ?_
        refine ev_iload dX4_yearBy_191 (pc' := 193) rfl rfl ?_
        refine ev_iadd dX4_yearBy_193 (pc' := 194) rfl ?_
        refine ev_put dX4_yearBy_194 (pc' := 197) rfl fq_4_55 kn_35 rfl (Or.inl (by decide)) ?_
        refine ev_topm (fun m25 e_m25 => ?_)
        replace h := nm_at e_m25 h
        obtain ⟨v26, e_v26⟩ : ∃ y : Int32, y = (w7 + 1) := ⟨_, rfl⟩
        replace h := nm_at e_v26 h
        refine ev_iinc dX4_yearBy_197 (pc' := 200) (v := v26) (ls' := [some (.ref 35), some (.ref p1), none, some (.int a6), some (.int v26), some (.int y11), some (.int v22)]) rfl rfl (by rw [e_v26]; rfl) (Nat.le_of_ble_eq_true rfl) rfl ?_
        refine ev_goto dX4_yearBy_200 (t := 41) rfl ?_
        exact ev_sub (lsub_c (lsub_c (lsub_c (lsub_c (lsub_c (lsub_n (lsub_n lsub_nil))))))) (ih v26 m25 h)
      · replace h := it_f c19 h
        refine ev_goto dX4_yearBy_129 (t := 197) rfl ?_
        obtain ⟨v27, e_v27⟩ : ∃ y : Int32, y = (w7 + 1) := ⟨_, rfl⟩
        replace h := nm_at e_v27 h
        refine ev_iinc dX4_yearBy_197 (pc' := 200) (v := v27) (ls' := [some (.ref 35), some (.ref p1), none, some (.int a6), some (.int v27), some (.int y11), none]) rfl rfl (by rw [e_v27]; rfl) (Nat.le_of_ble_eq_true rfl) rfl ?_
        refine ev_goto dX4_yearBy_200 (t := 41) rfl ?_
        exact ev_sub (lsub_c (lsub_c (lsub_c (lsub_c (lsub_c (lsub_n (lsub_c lsub_nil))))))) (ih v27 m18 h)
set_option maxRecDepth 100000 in
set_option maxHeartbeats 8000000 in
theorem X4_yearBy_ca {S : Sc} {d : Nat} {p1 : Nat} {a2 : Int32} {mem : Mm} {mr : Mm} {Q : Po} (h_p1 : kdp p1 5) (l_p1 : ln p1 = 47) (h : X4_yearBy 35 p1 a2 mem = some mr) (q : Q none mr) : Ca S (d + 3) 121 [.ref 35, .ref p1, .int a2] mem Q := by
  unfold X4_yearBy at h
  refine ca_in (by decide) mt_X4_yearBy (Nat.le_of_ble_eq_true rfl) ?_
  show Ev S (d + 2) 4 cX4_yearBy none 0 [some (.ref 35), some (.ref p1), some (.int a2), none, none, none, none] [] mem Q
  refine ev_aload_n dX4_yearBy_0 (pc' := 1) rfl rfl ?_
  refine ev_iconst dX4_yearBy_1 (pc' := 2) (v := 1) rfl (by decide) ?_
  refine ev_dup2 dX4_yearBy_2 (pc' := 3) rfl rfl rfl ?_
  refine ev_ialdK (k0 := 1) dX4_yearBy_3 (pc' := 4) rfl h_p1 (by rw [l_p1]; decide) rfl ?_
  refine ev_iconst dX4_yearBy_4 (pc' := 5) (v := 1) rfl (by decide) ?_
  refine ev_iadd dX4_yearBy_5 (pc' := 6) rfl ?_
  refine ev_iastK (k0 := 1) dX4_yearBy_6 (pc' := 7) rfl h_p1 (by rw [l_p1]; decide) rfl ?_
  refine ev_topm (fun m1 e_m1 => ?_)
  replace h := nm_at e_m1 h
  refine ev_iload_n dX4_yearBy_7 (pc' := 8) rfl rfl ?_
  refine ev_if_eq dX4_yearBy_8 (pc' := 11) rfl (t := 24) rfl (fun c2 => ?_) (fun c2 => ?_)
  · replace h := it_t c2 h
    refine ev_aload_n dX4_yearBy_24 (pc' := 25) rfl rfl ?_
    refine ev_iconst dX4_yearBy_25 (pc' := 26) (v := 2) rfl (by decide) ?_
    refine ev_ialdK (k0 := 2) dX4_yearBy_26 (pc' := 27) rfl h_p1 (by rw [l_p1]; decide) rfl ?_
    refine ev_topi (fun v3 e_v3 => ?_)
    replace h := nm_at e_v3 h
    refine ev_istore_n dX4_yearBy_27 (pc' := 28) (ls' := [some (.ref 35), some (.ref p1), some (.int a2), some (.int v3), none, none, none]) rfl (Nat.le_of_ble_eq_true rfl) rfl ?_
    refine ev_aload_n dX4_yearBy_28 (pc' := 29) rfl rfl ?_
    refine ev_iconst dX4_yearBy_29 (pc' := 30) (v := 0) rfl (by decide) ?_
    refine ev_put dX4_yearBy_30 (pc' := 33) rfl fq_4_51 kn_35 rfl (Or.inl (by decide)) ?_
    refine ev_topm (fun m4 e_m4 => ?_)
    replace h := nm_at e_m4 h
    refine ev_aload_n dX4_yearBy_33 (pc' := 34) rfl rfl ?_
    refine ev_iconst dX4_yearBy_34 (pc' := 35) (v := 0) rfl (by decide) ?_
    refine ev_put dX4_yearBy_35 (pc' := 38) rfl fq_4_55 kn_35 rfl (Or.inl (by decide)) ?_
    refine ev_topm (fun m5 e_m5 => ?_)
    replace h := nm_at e_m5 h
    refine ev_iconst dX4_yearBy_38 (pc' := 39) (v := 0) rfl (by decide) ?_
    refine ev_istore dX4_yearBy_39 (pc' := 41) (ls' := [some (.ref 35), some (.ref p1), some (.int a2), some (.int v3), some (.int 0), none, none]) rfl (Nat.le_of_ble_eq_true rfl) rfl ?_
    exact ev_sub (lsub_c (lsub_c (lsub_n (lsub_c (lsub_c (lsub_c (lsub_c lsub_nil))))))) (X4_yearBy_L41_ev h_p1 l_p1 q LF 0 m5 h)
  · replace h := it_f c2 h
    refine ev_bipush dX4_yearBy_11 (pc' := 13) (v := 80) rfl (by decide) ?_
    refine ev_iconst dX4_yearBy_13 (pc' := 14) (v := 2) rfl (by decide) ?_
    refine ev_aload_n dX4_yearBy_14 (pc' := 15) rfl rfl ?_
    refine ev_iconst dX4_yearBy_15 (pc' := 16) (v := 2) rfl (by decide) ?_
    refine ev_ialdK (k0 := 2) dX4_yearBy_16 (pc' := 17) rfl h_p1 (by rw [l_p1]; decide) rfl ?_
    refine ev_imul dX4_yearBy_17 (pc' := 18) rfl ?_
    refine ev_invS dX4_yearBy_18 (pc' := 21) rfl sq_4_48 mt_X4_least rfl ⟨_, rfl, Nat.le_of_ble_eq_true rfl, Nat.le_of_ble_eq_true rfl, rfl, rfl⟩ ?_
    refine X4_least_ca  rfl ?_
    refine ev_r1 ?_
    refine ev_goto dX4_yearBy_21 (t := 27) rfl ?_
    refine ev_topi (fun v28 e_v28 => ?_)
    replace h := nm_at e_v28 h
    refine ev_istore_n dX4_yearBy_27 (pc' := 28) (ls' := [some (.ref 35), some (.ref p1), some (.int a2), some (.int v28), none, none, none]) rfl (Nat.le_of_ble_eq_true rfl) rfl ?_
    refine ev_aload_n dX4_yearBy_28 (pc' := 29) rfl rfl ?_
    refine ev_iconst dX4_yearBy_29 (pc' := 30) (v := 0) rfl (by decide) ?_
    refine ev_put dX4_yearBy_30 (pc' := 33) rfl fq_4_51 kn_35 rfl (Or.inl (by decide)) ?_
    refine ev_topm (fun m29 e_m29 => ?_)
    replace h := nm_at e_m29 h
    refine ev_aload_n dX4_yearBy_33 (pc' := 34) rfl rfl ?_
    refine ev_iconst dX4_yearBy_34 (pc' := 35) (v := 0) rfl (by decide) ?_
    refine ev_put dX4_yearBy_35 (pc' := 38) rfl fq_4_55 kn_35 rfl (Or.inl (by decide)) ?_
    refine ev_topm (fun m30 e_m30 => ?_)
    replace h := nm_at e_m30 h
    refine ev_iconst dX4_yearBy_38 (pc' := 39) (v := 0) rfl (by decide) ?_
    refine ev_istore dX4_yearBy_39 (pc' := 41) (ls' := [some (.ref 35), some (.ref p1), some (.int a2), some (.int v28), some (.int 0), none, none]) rfl (Nat.le_of_ble_eq_true rfl) rfl ?_
    exact ev_sub (lsub_c (lsub_c (lsub_n (lsub_c (lsub_c (lsub_c (lsub_c lsub_nil))))))) (X4_yearBy_L41_ev h_p1 l_p1 q LF 0 m30 h)
def X4_year (_o : Nat) (p1 : Nat) (mem : Mm) : Option Mm := gd (¬ (mem p1 3) = 0) (if (airem ((mem p1 1) + 1) (mem p1 3)) = 0 then (ob (X4_yearBy 35 p1 1 mem) (fun m3 => some m3)) else (ob (X4_yearBy 35 p1 0 mem) (fun m4 => some m4)))
set_option maxRecDepth 100000 in
set_option maxHeartbeats 8000000 in
theorem X4_year_ca {S : Sc} {d : Nat} {p1 : Nat} {mem : Mm} {mr : Mm} {Q : Po} (h_p1 : kdp p1 5) (l_p1 : ln p1 = 47) (h : X4_year 35 p1 mem = some mr) (q : Q none mr) : Ca S (d + 4) 122 [.ref 35, .ref p1] mem Q := by
  unfold X4_year at h
  refine ca_in (by decide) mt_X4_year (Nat.le_of_ble_eq_true rfl) ?_
  show Ev S (d + 3) 4 cX4_year none 0 [some (.ref 35), some (.ref p1)] [] mem Q
  refine ev_aload_n dX4_year_0 (pc' := 1) rfl rfl ?_
  refine ev_aload_n dX4_year_1 (pc' := 2) rfl rfl ?_
  refine ev_aload_n dX4_year_2 (pc' := 3) rfl rfl ?_
  refine ev_iconst dX4_year_3 (pc' := 4) (v := 1) rfl (by decide) ?_
  refine ev_ialdK (k0 := 1) dX4_year_4 (pc' := 5) rfl h_p1 (by rw [l_p1]; decide) rfl ?_
  refine ev_iconst dX4_year_5 (pc' := 6) (v := 1) rfl (by decide) ?_
  refine ev_iadd dX4_year_6 (pc' := 7) rfl ?_
  refine ev_aload_n dX4_year_7 (pc' := 8) rfl rfl ?_
  refine ev_iconst dX4_year_8 (pc' := 9) (v := 3) rfl (by decide) ?_
  refine ev_ialdK (k0 := 3) dX4_year_9 (pc' := 10) rfl h_p1 (by rw [l_p1]; decide) rfl ?_
  obtain ⟨g1, h⟩ := gd_of h
  refine ev_irem dX4_year_10 (pc' := 11) rfl g1 ?_
  refine ev_if_ne dX4_year_11 (pc' := 14) rfl (t := 18) rfl (fun c2 => ?_) (fun c2 => ?_)
  · replace h := it_f c2 h
    refine ev_iconst dX4_year_18 (pc' := 19) (v := 0) rfl (by decide) ?_
    obtain ⟨m4, x_m4, h⟩ := ob_of h
    refine ev_invV dX4_year_19 (pc' := 22) rfl sq_4_70 mt_X4_yearBy rfl (arecv_ob (x := 35) rfl rfl (by decide) kn_35) ⟨_, rfl, Nat.le_of_ble_eq_true rfl, Nat.le_of_ble_eq_true rfl, rfl, rfl⟩ ?_
    refine X4_yearBy_ca h_p1 l_p1 x_m4 ?_
    refine ev_r0 ?_
    obtain rfl := rt1 h
    exact ev_return dX4_year_22 rfl q
  · replace h := it_t c2 h
    refine ev_iconst dX4_year_14 (pc' := 15) (v := 1) rfl (by decide) ?_
    refine ev_goto dX4_year_15 (t := 19) rfl ?_
    obtain ⟨m3, x_m3, h⟩ := ob_of h
    refine ev_invV dX4_year_19 (pc' := 22) rfl sq_4_70 mt_X4_yearBy rfl (arecv_ob (x := 35) rfl rfl (by decide) kn_35) ⟨_, rfl, Nat.le_of_ble_eq_true rfl, Nat.le_of_ble_eq_true rfl, rfl, rfl⟩ ?_
    refine X4_yearBy_ca h_p1 l_p1 x_m3 ?_
    refine ev_r0 ?_
    obtain rfl := rt1 h
    exact ev_return dX4_year_22 rfl q
def X4_yearsOn_L2 (p1 : Nat) (a1 : Int32) : Nat → Int32 → Mm → Option Mm
  | 0, _, _ => none
  | n + 1, w2, m3 => if a1 ≤ w2 then (some m3) else (ob (X4_year 35 p1 m3) (fun m5 => nm (w2 + 1) (fun v6 => X4_yearsOn_L2 p1 a1 n v6 m5)))
def X4_yearsOn (_o : Nat) (p1 : Nat) (a2 : Int32) (mem : Mm) : Option Mm := X4_yearsOn_L2 p1 a2 LF 0 mem
set_option maxRecDepth 100000 in
set_option maxHeartbeats 8000000 in
theorem X4_yearsOn_L2_ev {S : Sc} {d : Nat} {p1 : Nat} {a1 : Int32} {mr : Mm} {Q : Po} (h_p1 : kdp p1 5) (l_p1 : ln p1 = 47) (q : Q none mr) : ∀ (n : Nat) (w2 : Int32) (m3 : Mm), X4_yearsOn_L2 p1 a1 n w2 m3 = some mr → Ev S (d + 4) 4 cX4_yearsOn none 2 [some (.ref 35), some (.ref p1), some (.int a1), some (.int w2)] [] m3 Q := by
  intro n
  induction n with
  | zero => intro w2 m3 h; cases h
  | succ n ih =>
    intro w2 m3 h
    unfold X4_yearsOn_L2 at h
    refine ev_iload_n dX4_yearsOn_2 (pc' := 3) rfl rfl ?_
    refine ev_iload_n dX4_yearsOn_3 (pc' := 4) rfl rfl ?_
    refine ev_icmp_ge dX4_yearsOn_4 (pc' := 7) rfl (t := 18) rfl (fun c4 => ?_) (fun c4 => ?_)
    · replace h := it_t c4 h
      obtain rfl := rt1 h
      exact ev_return dX4_yearsOn_18 rfl q
    · replace h := it_f c4 h
      refine ev_aload_n dX4_yearsOn_7 (pc' := 8) rfl rfl ?_
      refine ev_aload_n dX4_yearsOn_8 (pc' := 9) rfl rfl ?_
      obtain ⟨m5, x_m5, h⟩ := ob_of h
      refine ev_invV dX4_yearsOn_9 (pc' := 12) rfl sq_4_74 mt_X4_year rfl (arecv_ob (x := 35) rfl rfl (by decide) kn_35) ⟨_, rfl, Nat.le_of_ble_eq_true rfl, Nat.le_of_ble_eq_true rfl, rfl, rfl⟩ ?_
      refine X4_year_ca h_p1 l_p1 x_m5 ?_
      refine ev_r0 ?_
      obtain ⟨v6, e_v6⟩ : ∃ y : Int32, y = (w2 + 1) := ⟨_, rfl⟩
      replace h := nm_at e_v6 h
      refine ev_iinc dX4_yearsOn_12 (pc' := 15) (v := v6) (ls' := [some (.ref 35), some (.ref p1), some (.int a1), some (.int v6)]) rfl rfl (by rw [e_v6]; rfl) (Nat.le_of_ble_eq_true rfl) rfl ?_
      refine ev_goto dX4_yearsOn_15 (t := 2) rfl ?_
      exact ev_sub (lsub_c (lsub_c (lsub_c (lsub_c lsub_nil)))) (ih v6 m5 h)
set_option maxRecDepth 100000 in
set_option maxHeartbeats 8000000 in
theorem X4_yearsOn_ca {S : Sc} {d : Nat} {p1 : Nat} {a2 : Int32} {mem : Mm} {mr : Mm} {Q : Po} (h_p1 : kdp p1 5) (l_p1 : ln p1 = 47) (h : X4_yearsOn 35 p1 a2 mem = some mr) (q : Q none mr) : Ca S (d + 5) 123 [.ref 35, .ref p1, .int a2] mem Q := by
  unfold X4_yearsOn at h
  refine ca_in (by decide) mt_X4_yearsOn (Nat.le_of_ble_eq_true rfl) ?_
  show Ev S (d + 4) 4 cX4_yearsOn none 0 [some (.ref 35), some (.ref p1), some (.int a2), none] [] mem Q
  refine ev_iconst dX4_yearsOn_0 (pc' := 1) (v := 0) rfl (by decide) ?_
  refine ev_istore_n dX4_yearsOn_1 (pc' := 2) (ls' := [some (.ref 35), some (.ref p1), some (.int a2), some (.int 0)]) rfl (Nat.le_of_ble_eq_true rfl) rfl ?_
  exact ev_sub (lsub_c (lsub_c (lsub_c (lsub_c lsub_nil)))) (X4_yearsOn_L2_ev h_p1 l_p1 q LF 0 mem h)
def X4_inMind (_o : Nat) (a1 : Int32) (mem : Mm) : Option Mm := ob (X4_lays 36 37 mem) (fun m1 => ob (X4_yearsOn 35 37 a1 m1) (fun m2 => some m2))
set_option maxRecDepth 100000 in
set_option maxHeartbeats 8000000 in
theorem X4_inMind_ca {S : Sc} {d : Nat} {a1 : Int32} {mem : Mm} {mr : Mm} {Q : Po}  (h : X4_inMind 35 a1 mem = some mr) (q : Q none mr) : Ca S (d + 6) 124 [.ref 35, .int a1] mem Q := by
  unfold X4_inMind at h
  refine ca_in (by decide) mt_X4_inMind (Nat.le_of_ble_eq_true rfl) ?_
  show Ev S (d + 5) 4 cX4_inMind none 0 [some (.ref 35), some (.int a1)] [] mem Q
  refine ev_aload_n dX4_inMind_0 (pc' := 1) rfl rfl ?_
  refine ev_getR (y := 36) dX4_inMind_1 (pc' := 4) rfl fq_4_9 kn_35 rfl ?_
  refine ev_aload_n dX4_inMind_4 (pc' := 5) rfl rfl ?_
  refine ev_getR (y := 37) dX4_inMind_5 (pc' := 8) rfl fq_4_13 kn_35 rfl ?_
  obtain ⟨m1, x_m1, h⟩ := ob_of h
  refine ev_invS dX4_inMind_8 (pc' := 11) rfl sq_4_78 mt_X4_lays rfl ⟨_, rfl, Nat.le_of_ble_eq_true rfl, Nat.le_of_ble_eq_true rfl, rfl, rfl⟩ ?_
  refine X4_lays_ca kn_36 rfl kn_37 rfl x_m1 ?_
  refine ev_r0 ?_
  refine ev_aload_n dX4_inMind_11 (pc' := 12) rfl rfl ?_
  refine ev_aload_n dX4_inMind_12 (pc' := 13) rfl rfl ?_
  refine ev_getR (y := 37) dX4_inMind_13 (pc' := 16) rfl fq_4_13 kn_35 rfl ?_
  refine ev_iload_n dX4_inMind_16 (pc' := 17) rfl rfl ?_
  obtain ⟨m2, x_m2, h⟩ := ob_of h
  refine ev_invV dX4_inMind_17 (pc' := 20) rfl sq_4_82 mt_X4_yearsOn rfl (arecv_ob (x := 35) rfl rfl (by decide) kn_35) ⟨_, rfl, Nat.le_of_ble_eq_true rfl, Nat.le_of_ble_eq_true rfl, rfl, rfl⟩ ?_
  refine X4_yearsOn_ca kn_37 rfl x_m2 ?_
  refine ev_r0 ?_
  obtain rfl := rt1 h
  exact ev_return dX4_inMind_20 rfl q
def X4_sumOf_L4 (p1 : Nat) (a1 : Int32) (m4 : Mm) : Nat → Int32 → Int32 → Option Int32
  | 0, _, _ => none
  | n + 1, w2, w3 => if (m4 p1 0) ≤ w3 then (some w2) else (gd (vin (X4_at w3 a1) 47) (nm (w2 + (m4 p1 ((X4_at w3 a1)).toNatClampNeg)) (fun v7 => nm (w3 + 1) (fun v8 => X4_sumOf_L4 p1 a1 m4 n v7 v8))))
def X4_sumOf (p1 : Nat) (a2 : Int32) (mem : Mm) : Option Int32 := X4_sumOf_L4 p1 a2 mem LF 0 0
set_option maxRecDepth 100000 in
set_option maxHeartbeats 8000000 in
theorem X4_sumOf_L4_ev {S : Sc} {d : Nat} {p1 : Nat} {a1 : Int32} {m4 : Mm} {rr : Int32} {Q : Po} (h_p1 : kdp p1 5) (l_p1 : ln p1 = 47) (q : Q (some (.int rr)) m4) : ∀ (n : Nat) (w2 : Int32) (w3 : Int32), X4_sumOf_L4 p1 a1 m4 n w2 w3 = some rr → Ev S (d + 1) 4 cX4_sumOf (some .int) 4 [some (.ref p1), some (.int a1), some (.int w2), some (.int w3)] [] m4 Q := by
  intro n
  induction n with
  | zero => intro w2 w3 h; cases h
  | succ n ih =>
    intro w2 w3 h
    unfold X4_sumOf_L4 at h
    refine ev_iload_n dX4_sumOf_4 (pc' := 5) rfl rfl ?_
    refine ev_aload_n dX4_sumOf_5 (pc' := 6) rfl rfl ?_
    refine ev_iconst dX4_sumOf_6 (pc' := 7) (v := 0) rfl (by decide) ?_
    refine ev_ialdK (k0 := 0) dX4_sumOf_7 (pc' := 8) rfl h_p1 (by rw [l_p1]; decide) rfl ?_
    refine ev_icmp_ge dX4_sumOf_8 (pc' := 11) rfl (t := 27) rfl (fun c5 => ?_) (fun c5 => ?_)
    · replace h := it_t c5 h
      refine ev_iload_n dX4_sumOf_27 (pc' := 28) rfl rfl ?_
      obtain rfl := rt1 h
      exact ev_ireturn dX4_sumOf_28 rfl q
    · replace h := it_f c5 h
      refine ev_iload_n dX4_sumOf_11 (pc' := 12) rfl rfl ?_
      refine ev_aload_n dX4_sumOf_12 (pc' := 13) rfl rfl ?_
      refine ev_iload_n dX4_sumOf_13 (pc' := 14) rfl rfl ?_
      refine ev_iload_n dX4_sumOf_14 (pc' := 15) rfl rfl ?_
      refine ev_invS dX4_sumOf_15 (pc' := 18) rfl sq_4_44 mt_X4_at rfl ⟨_, rfl, Nat.le_of_ble_eq_true rfl, Nat.le_of_ble_eq_true rfl, rfl, rfl⟩ ?_
      refine X4_at_ca  rfl ?_
      refine ev_r1 ?_
      obtain ⟨g6, h⟩ := gd_of h
      refine ev_ialdK (k0 := ((X4_at w3 a1)).toNatClampNeg) dX4_sumOf_18 (pc' := 19) rfl h_p1 (by rw [l_p1]; exact g6) rfl ?_
      refine ev_iadd dX4_sumOf_19 (pc' := 20) rfl ?_
      refine ev_topi (fun v7 e_v7 => ?_)
      replace h := nm_at e_v7 h
      refine ev_istore_n dX4_sumOf_20 (pc' := 21) (ls' := [some (.ref p1), some (.int a1), some (.int v7), some (.int w3)]) rfl (Nat.le_of_ble_eq_true rfl) rfl ?_
      obtain ⟨v8, e_v8⟩ : ∃ y : Int32, y = (w3 + 1) := ⟨_, rfl⟩
      replace h := nm_at e_v8 h
      refine ev_iinc dX4_sumOf_21 (pc' := 24) (v := v8) (ls' := [some (.ref p1), some (.int a1), some (.int v7), some (.int v8)]) rfl rfl (by rw [e_v8]; rfl) (Nat.le_of_ble_eq_true rfl) rfl ?_
      refine ev_goto dX4_sumOf_24 (t := 4) rfl ?_
      exact ev_sub (lsub_c (lsub_c (lsub_c (lsub_c lsub_nil)))) (ih v7 v8 h)
set_option maxRecDepth 100000 in
set_option maxHeartbeats 8000000 in
theorem X4_sumOf_ca {S : Sc} {d : Nat} {p1 : Nat} {a2 : Int32} {mem : Mm} {rr : Int32} {Q : Po} (h_p1 : kdp p1 5) (l_p1 : ln p1 = 47) (h : X4_sumOf p1 a2 mem = some rr) (q : Q (some (.int rr)) mem) : Ca S (d + 2) 125 [.ref p1, .int a2] mem Q := by
  unfold X4_sumOf at h
  refine ca_in (by decide) mt_X4_sumOf (Nat.le_of_ble_eq_true rfl) ?_
  show Ev S (d + 1) 4 cX4_sumOf (some .int) 0 [some (.ref p1), some (.int a2), none, none] [] mem Q
  refine ev_iconst dX4_sumOf_0 (pc' := 1) (v := 0) rfl (by decide) ?_
  refine ev_istore_n dX4_sumOf_1 (pc' := 2) (ls' := [some (.ref p1), some (.int a2), some (.int 0), none]) rfl (Nat.le_of_ble_eq_true rfl) rfl ?_
  refine ev_iconst dX4_sumOf_2 (pc' := 3) (v := 0) rfl (by decide) ?_
  refine ev_istore_n dX4_sumOf_3 (pc' := 4) (ls' := [some (.ref p1), some (.int a2), some (.int 0), some (.int 0)]) rfl (Nat.le_of_ble_eq_true rfl) rfl ?_
  exact ev_sub (lsub_c (lsub_c (lsub_c (lsub_c lsub_nil)))) (X4_sumOf_L4_ev h_p1 l_p1 q LF 0 0 h)
def X4_letter (_o : Nat) (a1 : Int32) (mem : Mm) : Option (Int32 × Mm) := if 0 ≤ a1 then (if 255 < a1 then (ob2 (X4_no 35 (-6) mem) (fun y3 m4 => some (y3, m4))) else (if (mem 35 8) = 96 then (ob2 (X4_no 35 (-6) mem) (fun y6 m7 => some (y6, m7))) else (gd (vin (mem 35 8) 96) (nm (mset mem 40 ((mem 35 8)).toNatClampNeg a1) (fun m9 => nm (mset m9 35 8 ((m9 35 8) + 1)) (fun m10 => some ((m10 35 8), m10))))))) else (ob2 (X4_no 35 (-4) mem) (fun y11 m12 => some (y11, m12)))
set_option maxRecDepth 100000 in
set_option maxHeartbeats 8000000 in
theorem X4_letter_ca {S : Sc} {d : Nat} {a1 : Int32} {mem : Mm} {rr : Int32} {mr : Mm} {Q : Po}  (h : X4_letter 35 a1 mem = some (rr, mr)) (q : Q (some (.int rr)) mr) : Ca S (d + 2) 126 [.ref 35, .int a1] mem Q := by
  unfold X4_letter at h
  refine ca_in (by decide) mt_X4_letter (Nat.le_of_ble_eq_true rfl) ?_
  show Ev S (d + 1) 4 cX4_letter (some .int) 0 [some (.ref 35), some (.int a1)] [] mem Q
  refine ev_iload_n dX4_letter_0 (pc' := 1) rfl rfl ?_
  refine ev_if_ge dX4_letter_1 (pc' := 4) rfl (t := 11) rfl (fun c1 => ?_) (fun c1 => ?_)
  · replace h := it_t c1 h
    refine ev_iload_n dX4_letter_11 (pc' := 12) rfl rfl ?_
    refine ev_sipush dX4_letter_12 (pc' := 15) (v := 255) rfl (by decide) ?_
    refine ev_icmp_gt dX4_letter_15 (pc' := 18) rfl (t := 27) rfl (fun c2 => ?_) (fun c2 => ?_)
    · replace h := it_t c2 h
      refine ev_aload_n dX4_letter_27 (pc' := 28) rfl rfl ?_
      refine ev_bipush dX4_letter_28 (pc' := 30) (v := (-6)) rfl (by decide) ?_
      obtain ⟨y3, m4, x_y3, h⟩ := ob2_of h
      refine ev_invV dX4_letter_30 (pc' := 33) rfl sq_4_36 mt_X4_no rfl (arecv_ob (x := 35) rfl rfl (by decide) kn_35) ⟨_, rfl, Nat.le_of_ble_eq_true rfl, Nat.le_of_ble_eq_true rfl, rfl, rfl⟩ ?_
      refine X4_no_ca  x_y3 ?_
      refine ev_r1 ?_
      obtain ⟨rfl, rfl⟩ := rt2 h
      exact ev_ireturn dX4_letter_33 rfl q
    · replace h := it_f c2 h
      refine ev_aload_n dX4_letter_18 (pc' := 19) rfl rfl ?_
      refine ev_get dX4_letter_19 (pc' := 22) rfl fq_4_86 kn_35 rfl ?_
      refine ev_bipush dX4_letter_22 (pc' := 24) (v := 96) rfl (by decide) ?_
      refine ev_icmp_ne dX4_letter_24 (pc' := 27) rfl (t := 34) rfl (fun c5 => ?_) (fun c5 => ?_)
      · replace h := it_f c5 h
        refine ev_aload_n dX4_letter_34 (pc' := 35) rfl rfl ?_
        refine ev_getR (y := 40) dX4_letter_35 (pc' := 38) rfl fq_4_22 kn_35 rfl ?_
        refine ev_aload_n dX4_letter_38 (pc' := 39) rfl rfl ?_
        refine ev_get dX4_letter_39 (pc' := 42) rfl fq_4_86 kn_35 rfl ?_
        refine ev_iload_n dX4_letter_42 (pc' := 43) rfl rfl ?_
        obtain ⟨g8, h⟩ := gd_of h
        refine ev_iastK (k0 := ((mem 35 8)).toNatClampNeg) dX4_letter_43 (pc' := 44) rfl kn_40 g8 rfl ?_
        refine ev_topm (fun m9 e_m9 => ?_)
        replace h := nm_at e_m9 h
        refine ev_aload_n dX4_letter_44 (pc' := 45) rfl rfl ?_
        refine ev_dup dX4_letter_45 (pc' := 46) rfl rfl ?_
        refine ev_get dX4_letter_46 (pc' := 49) rfl fq_4_86 kn_35 rfl ?_
        refine ev_iconst dX4_letter_49 (pc' := 50) (v := 1) rfl (by decide) ?_
        refine ev_iadd dX4_letter_50 (pc' := 51) rfl ?_
        refine ev_put dX4_letter_51 (pc' := 54) rfl fq_4_86 kn_35 rfl (Or.inl (by decide)) ?_
        refine ev_topm (fun m10 e_m10 => ?_)
        replace h := nm_at e_m10 h
        refine ev_aload_n dX4_letter_54 (pc' := 55) rfl rfl ?_
        refine ev_get dX4_letter_55 (pc' := 58) rfl fq_4_86 kn_35 rfl ?_
        obtain ⟨rfl, rfl⟩ := rt2 h
        exact ev_ireturn dX4_letter_58 rfl q
      · replace h := it_t c5 h
        refine ev_aload_n dX4_letter_27 (pc' := 28) rfl rfl ?_
        refine ev_bipush dX4_letter_28 (pc' := 30) (v := (-6)) rfl (by decide) ?_
        obtain ⟨y6, m7, x_y6, h⟩ := ob2_of h
        refine ev_invV dX4_letter_30 (pc' := 33) rfl sq_4_36 mt_X4_no rfl (arecv_ob (x := 35) rfl rfl (by decide) kn_35) ⟨_, rfl, Nat.le_of_ble_eq_true rfl, Nat.le_of_ble_eq_true rfl, rfl, rfl⟩ ?_
        refine X4_no_ca  x_y6 ?_
        refine ev_r1 ?_
        obtain ⟨rfl, rfl⟩ := rt2 h
        exact ev_ireturn dX4_letter_33 rfl q
  · replace h := it_f c1 h
    refine ev_aload_n dX4_letter_4 (pc' := 5) rfl rfl ?_
    refine ev_bipush dX4_letter_5 (pc' := 7) (v := (-4)) rfl (by decide) ?_
    obtain ⟨y11, m12, x_y11, h⟩ := ob2_of h
    refine ev_invV dX4_letter_7 (pc' := 10) rfl sq_4_36 mt_X4_no rfl (arecv_ob (x := 35) rfl rfl (by decide) kn_35) ⟨_, rfl, Nat.le_of_ble_eq_true rfl, Nat.le_of_ble_eq_true rfl, rfl, rfl⟩ ?_
    refine X4_no_ca  x_y11 ?_
    refine ev_r1 ?_
    obtain ⟨rfl, rfl⟩ := rt2 h
    exact ev_ireturn dX4_letter_10 rfl q
def X4_here (_o : Nat) (mem : Mm) : Option Int32 := if (mem 35 8) ≤ (mem 35 12) then (some (-1)) else (gd (vin (mem 35 12) 96) (some (mem 40 ((mem 35 12)).toNatClampNeg)))
set_option maxRecDepth 100000 in
set_option maxHeartbeats 8000000 in
theorem X4_here_ca {S : Sc} {d : Nat}  {mem : Mm} {rr : Int32} {Q : Po}  (h : X4_here 35 mem = some rr) (q : Q (some (.int rr)) mem) : Ca S (d + 1) 127 [.ref 35] mem Q := by
  unfold X4_here at h
  refine ca_in (by decide) mt_X4_here (Nat.le_of_ble_eq_true rfl) ?_
  show Ev S (d + 0) 4 cX4_here (some .int) 0 [some (.ref 35)] [] mem Q
  refine ev_aload_n dX4_here_0 (pc' := 1) rfl rfl ?_
  refine ev_get dX4_here_1 (pc' := 4) rfl fq_4_89 kn_35 rfl ?_
  refine ev_aload_n dX4_here_4 (pc' := 5) rfl rfl ?_
  refine ev_get dX4_here_5 (pc' := 8) rfl fq_4_86 kn_35 rfl ?_
  refine ev_icmp_ge dX4_here_8 (pc' := 11) rfl (t := 23) rfl (fun c1 => ?_) (fun c1 => ?_)
  · replace h := it_t c1 h
    refine ev_iconst dX4_here_23 (pc' := 24) (v := (-1)) rfl (by decide) ?_
    obtain rfl := rt1 h
    exact ev_ireturn dX4_here_24 rfl q
  · replace h := it_f c1 h
    refine ev_aload_n dX4_here_11 (pc' := 12) rfl rfl ?_
    refine ev_getR (y := 40) dX4_here_12 (pc' := 15) rfl fq_4_22 kn_35 rfl ?_
    refine ev_aload_n dX4_here_15 (pc' := 16) rfl rfl ?_
    refine ev_get dX4_here_16 (pc' := 19) rfl fq_4_89 kn_35 rfl ?_
    obtain ⟨g2, h⟩ := gd_of h
    refine ev_ialdK (k0 := ((mem 35 12)).toNatClampNeg) dX4_here_19 (pc' := 20) rfl kn_40 g2 rfl ?_
    refine ev_goto dX4_here_20 (t := 24) rfl ?_
    obtain rfl := rt1 h
    exact ev_ireturn dX4_here_24 rfl q
def X4_readsNumber_L9  (a3 : Int32) (a4 : Int32) : Nat → Int32 → Mm → Option (Int32 × Mm)
  | 0, _, _ => none
  | n + 1, w5, m6 => if a4 ≤ w5 then (some (1, m6)) else (ob (X4_here 35 m6) (fun y8 => if (X4_isIn y8 48 57) = 0 then (some (0, m6)) else (gd (vin a3 5) (ob (X4_here 35 m6) (fun y11 => nm (mset m6 43 (a3).toNatClampNeg (((10 * (m6 43 (a3).toNatClampNeg)) + y11) - 48)) (fun m12 => nm (mset m12 35 12 ((m12 35 12) + 1)) (fun m13 => nm (w5 + 1) (fun v14 => X4_readsNumber_L9 a3 a4 n v14 m13))))))))
def X4_readsNumber (_o : Nat) (a1 : Int32) (a2 : Int32) (mem : Mm) : Option (Int32 × Mm) := gd (vin a1 5) (nm (mset mem 43 (a1).toNatClampNeg 0) (fun m2 => X4_readsNumber_L9 a1 a2 LF 0 m2))
set_option maxRecDepth 100000 in
set_option maxHeartbeats 8000000 in
theorem X4_readsNumber_L9_ev {S : Sc} {d : Nat}  {a3 : Int32} {a4 : Int32} {rr : Int32} {mr : Mm} {Q : Po}  (q : Q (some (.int rr)) mr) : ∀ (n : Nat) (w5 : Int32) (m6 : Mm), X4_readsNumber_L9 a3 a4 n w5 m6 = some (rr, mr) → Ev S (d + 1) 4 cX4_readsNumber (some .boolean) 9 [some (.ref 35), some (.int a3), some (.int a4), some (.int w5)] [] m6 Q := by
  intro n
  induction n with
  | zero => intro w5 m6 h; cases h
  | succ n ih =>
    intro w5 m6 h
    unfold X4_readsNumber_L9 at h
    refine ev_iload_n dX4_readsNumber_9 (pc' := 10) rfl rfl ?_
    refine ev_iload_n dX4_readsNumber_10 (pc' := 11) rfl rfl ?_
    refine ev_icmp_ge dX4_readsNumber_11 (pc' := 14) rfl (t := 69) rfl (fun c7 => ?_) (fun c7 => ?_)
    · replace h := it_t c7 h
      refine ev_iconst dX4_readsNumber_69 (pc' := 70) (v := 1) rfl (by decide) ?_
      obtain ⟨rfl, rfl⟩ := rt2 h
      exact ev_ireturn dX4_readsNumber_70 (aret_z (by decide)) q
    · replace h := it_f c7 h
      refine ev_aload_n dX4_readsNumber_14 (pc' := 15) rfl rfl ?_
      obtain ⟨y8, x_y8, h⟩ := ob_of h
      refine ev_invV dX4_readsNumber_15 (pc' := 18) rfl sq_4_92 mt_X4_here rfl (arecv_ob (x := 35) rfl rfl (by decide) kn_35) ⟨_, rfl, Nat.le_of_ble_eq_true rfl, Nat.le_of_ble_eq_true rfl, rfl, rfl⟩ ?_
      refine X4_here_ca  x_y8 ?_
      refine ev_r1 ?_
      refine ev_bipush dX4_readsNumber_18 (pc' := 20) (v := 48) rfl (by decide) ?_
      refine ev_bipush dX4_readsNumber_20 (pc' := 22) (v := 57) rfl (by decide) ?_
      refine ev_invS dX4_readsNumber_22 (pc' := 25) rfl sq_4_40 mt_X4_isIn rfl ⟨_, rfl, Nat.le_of_ble_eq_true rfl, Nat.le_of_ble_eq_true rfl, rfl, rfl⟩ ?_
      refine X4_isIn_ca  rfl ?_
      refine ev_r1 ?_
      refine ev_if_ne dX4_readsNumber_25 (pc' := 28) rfl (t := 30) rfl (fun c9 => ?_) (fun c9 => ?_)
      · replace h := it_f c9 h
        refine ev_aload_n dX4_readsNumber_30 (pc' := 31) rfl rfl ?_
        refine ev_getR (y := 43) dX4_readsNumber_31 (pc' := 34) rfl fq_4_31 kn_35 rfl ?_
        refine ev_iload_n dX4_readsNumber_34 (pc' := 35) rfl rfl ?_
        refine ev_bipush dX4_readsNumber_35 (pc' := 37) (v := 10) rfl (by decide) ?_
        refine ev_aload_n dX4_readsNumber_37 (pc' := 38) rfl rfl ?_
        refine ev_getR (y := 43) dX4_readsNumber_38 (pc' := 41) rfl fq_4_31 kn_35 rfl ?_
        refine ev_iload_n dX4_readsNumber_41 (pc' := 42) rfl rfl ?_
        obtain ⟨g10, h⟩ := gd_of h
        refine ev_ialdK (k0 := (a3).toNatClampNeg) dX4_readsNumber_42 (pc' := 43) rfl kn_43 g10 rfl ?_
        refine ev_imul dX4_readsNumber_43 (pc' := 44) rfl ?_
        refine ev_aload_n dX4_readsNumber_44 (pc' := 45) rfl rfl ?_
        obtain ⟨y11, x_y11, h⟩ := ob_of h
        refine ev_invV dX4_readsNumber_45 (pc' := 48) rfl sq_4_92 mt_X4_here rfl (arecv_ob (x := 35) rfl rfl (by decide) kn_35) ⟨_, rfl, Nat.le_of_ble_eq_true rfl, Nat.le_of_ble_eq_true rfl, rfl, rfl⟩ ?_
        refine X4_here_ca  x_y11 ?_
        refine ev_r1 ?_
        refine ev_iadd dX4_readsNumber_48 (pc' := 49) rfl ?_
        refine ev_bipush dX4_readsNumber_49 (pc' := 51) (v := 48) rfl (by decide) ?_
        refine ev_isub dX4_readsNumber_51 (pc' := 52) rfl ?_
        refine ev_iastK (k0 := (a3).toNatClampNeg) dX4_readsNumber_52 (pc' := 53) rfl kn_43 g10 rfl ?_
        refine ev_topm (fun m12 e_m12 => ?_)
        replace h := nm_at e_m12 h
        refine ev_aload_n dX4_readsNumber_53 (pc' := 54) rfl rfl ?_
        refine ev_dup dX4_readsNumber_54 (pc' := 55) rfl rfl ?_
        refine ev_get dX4_readsNumber_55 (pc' := 58) rfl fq_4_89 kn_35 rfl ?_
        refine ev_iconst dX4_readsNumber_58 (pc' := 59) (v := 1) rfl (by decide) ?_
        refine ev_iadd dX4_readsNumber_59 (pc' := 60) rfl ?_
        refine ev_put dX4_readsNumber_60 (pc' := 63) rfl fq_4_89 kn_35 rfl (Or.inl (by decide)) ?_
        refine ev_topm (fun m13 e_m13 => ?_)
        replace h := nm_at e_m13 h
        obtain ⟨v14, e_v14⟩ : ∃ y : Int32, y = (w5 + 1) := ⟨_, rfl⟩
        replace h := nm_at e_v14 h
        refine ev_iinc dX4_readsNumber_63 (pc' := 66) (v := v14) (ls' := [some (.ref 35), some (.int a3), some (.int a4), some (.int v14)]) rfl rfl (by rw [e_v14]; rfl) (Nat.le_of_ble_eq_true rfl) rfl ?_
        refine ev_goto dX4_readsNumber_66 (t := 9) rfl ?_
        exact ev_sub (lsub_c (lsub_c (lsub_c (lsub_c lsub_nil)))) (ih v14 m13 h)
      · replace h := it_t c9 h
        refine ev_iconst dX4_readsNumber_28 (pc' := 29) (v := 0) rfl (by decide) ?_
        obtain ⟨rfl, rfl⟩ := rt2 h
        exact ev_ireturn dX4_readsNumber_29 (aret_z (by decide)) q
set_option maxRecDepth 100000 in
set_option maxHeartbeats 8000000 in
theorem X4_readsNumber_ca {S : Sc} {d : Nat} {a1 : Int32} {a2 : Int32} {mem : Mm} {rr : Int32} {mr : Mm} {Q : Po}  (h : X4_readsNumber 35 a1 a2 mem = some (rr, mr)) (q : Q (some (.int rr)) mr) : Ca S (d + 2) 128 [.ref 35, .int a1, .int a2] mem Q := by
  unfold X4_readsNumber at h
  refine ca_in (by decide) mt_X4_readsNumber (Nat.le_of_ble_eq_true rfl) ?_
  show Ev S (d + 1) 4 cX4_readsNumber (some .boolean) 0 [some (.ref 35), some (.int a1), some (.int a2), none] [] mem Q
  refine ev_aload_n dX4_readsNumber_0 (pc' := 1) rfl rfl ?_
  refine ev_getR (y := 43) dX4_readsNumber_1 (pc' := 4) rfl fq_4_31 kn_35 rfl ?_
  refine ev_iload_n dX4_readsNumber_4 (pc' := 5) rfl rfl ?_
  refine ev_iconst dX4_readsNumber_5 (pc' := 6) (v := 0) rfl (by decide) ?_
  obtain ⟨g1, h⟩ := gd_of h
  refine ev_iastK (k0 := (a1).toNatClampNeg) dX4_readsNumber_6 (pc' := 7) rfl kn_43 g1 rfl ?_
  refine ev_topm (fun m2 e_m2 => ?_)
  replace h := nm_at e_m2 h
  refine ev_iconst dX4_readsNumber_7 (pc' := 8) (v := 0) rfl (by decide) ?_
  refine ev_istore_n dX4_readsNumber_8 (pc' := 9) (ls' := [some (.ref 35), some (.int a1), some (.int a2), some (.int 0)]) rfl (Nat.le_of_ble_eq_true rfl) rfl ?_
  exact ev_sub (lsub_c (lsub_c (lsub_c (lsub_c lsub_nil)))) (X4_readsNumber_L9_ev  q LF 0 m2 h)
def X4_kindOf (a1 : Int32) : Int32 := if a1 = 98 then (2) else (if a1 = 104 then (5) else (if a1 = 105 then (3) else (if a1 = 109 then (1) else (if a1 = 111 then (0) else (if a1 = 115 then (4) else ((-9)))))))
set_option maxRecDepth 100000 in
set_option maxHeartbeats 8000000 in
theorem X4_kindOf_ca {S : Sc} {d : Nat} {a1 : Int32} {mem : Mm} {rr : Int32} {Q : Po}  (h : X4_kindOf a1 = rr) (q : Q (some (.int rr)) mem) : Ca S (d + 1) 129 [.int a1] mem Q := by
  unfold X4_kindOf at h
  refine ca_in (by decide) mt_X4_kindOf (Nat.le_of_ble_eq_true rfl) ?_
  show Ev S (d + 0) 4 cX4_kindOf (some .int) 0 [some (.int a1)] [] mem Q
  refine ev_iload_n dX4_kindOf_0 (pc' := 1) rfl rfl ?_
  by_cases c1 : a1 = 98
  · replace h := it_t c1 h
    refine ev_tableIn dX4_kindOf_1 c1 (by decide) rfl (t := 92) rfl ?_
    refine ev_iconst dX4_kindOf_92 (pc' := 93) (v := 2) rfl (by decide) ?_
    obtain rfl := h
    exact ev_ireturn dX4_kindOf_93 rfl q
  · replace h := it_f c1 h
    by_cases c2 : a1 = 104
    · replace h := it_t c2 h
      refine ev_tableIn dX4_kindOf_1 c2 (by decide) rfl (t := 98) rfl ?_
      refine ev_iconst dX4_kindOf_98 (pc' := 99) (v := 5) rfl (by decide) ?_
      obtain rfl := h
      exact ev_ireturn dX4_kindOf_99 rfl q
    · replace h := it_f c2 h
      by_cases c3 : a1 = 105
      · replace h := it_t c3 h
        refine ev_tableIn dX4_kindOf_1 c3 (by decide) rfl (t := 94) rfl ?_
        refine ev_iconst dX4_kindOf_94 (pc' := 95) (v := 3) rfl (by decide) ?_
        obtain rfl := h
        exact ev_ireturn dX4_kindOf_95 rfl q
      · replace h := it_f c3 h
        by_cases c4 : a1 = 109
        · replace h := it_t c4 h
          refine ev_tableIn dX4_kindOf_1 c4 (by decide) rfl (t := 90) rfl ?_
          refine ev_iconst dX4_kindOf_90 (pc' := 91) (v := 1) rfl (by decide) ?_
          obtain rfl := h
          exact ev_ireturn dX4_kindOf_91 rfl q
        · replace h := it_f c4 h
          by_cases c5 : a1 = 111
          · replace h := it_t c5 h
            refine ev_tableIn dX4_kindOf_1 c5 (by decide) rfl (t := 88) rfl ?_
            refine ev_iconst dX4_kindOf_88 (pc' := 89) (v := 0) rfl (by decide) ?_
            obtain rfl := h
            exact ev_ireturn dX4_kindOf_89 rfl q
          · replace h := it_f c5 h
            by_cases c6 : a1 = 115
            · replace h := it_t c6 h
              refine ev_tableIn dX4_kindOf_1 c6 (by decide) rfl (t := 96) rfl ?_
              refine ev_iconst dX4_kindOf_96 (pc' := 97) (v := 4) rfl (by decide) ?_
              obtain rfl := h
              exact ev_ireturn dX4_kindOf_97 rfl q
            · replace h := it_f c6 h
              refine ev_tableDef dX4_kindOf_1 [98, 104, 105, 109, 111, 115] (by decide) (List.forall_mem_cons.mpr ⟨c1, List.forall_mem_cons.mpr ⟨c2, List.forall_mem_cons.mpr ⟨c3, List.forall_mem_cons.mpr ⟨c4, List.forall_mem_cons.mpr ⟨c5, List.forall_mem_cons.mpr ⟨c6, fun _ h => absurd h List.not_mem_nil⟩⟩⟩⟩⟩⟩) (t := 100) rfl ?_
              refine ev_bipush dX4_kindOf_100 (pc' := 102) (v := (-9)) rfl (by decide) ?_
              obtain rfl := h
              exact ev_ireturn dX4_kindOf_102 rfl q
def X4_readsKind (_o : Nat) (mem : Mm) : Option (Int32 × Mm) := ob (X4_here 35 mem) (fun y1 => nm (mset mem 43 0 (X4_kindOf y1)) (fun m2 => if 0 ≤ (m2 43 0) then (nm (mset m2 35 12 ((m2 35 12) + 1)) (fun m4 => if (m4 43 0) < 0 then (some (0, m4)) else (some (1, m4)))) else (nm (mset m2 35 12 ((m2 35 12) + 0)) (fun m6 => if (m6 43 0) < 0 then (some (0, m6)) else (some (1, m6))))))
set_option maxRecDepth 100000 in
set_option maxHeartbeats 8000000 in
theorem X4_readsKind_ca {S : Sc} {d : Nat}  {mem : Mm} {rr : Int32} {mr : Mm} {Q : Po}  (h : X4_readsKind 35 mem = some (rr, mr)) (q : Q (some (.int rr)) mr) : Ca S (d + 2) 130 [.ref 35] mem Q := by
  unfold X4_readsKind at h
  refine ca_in (by decide) mt_X4_readsKind (Nat.le_of_ble_eq_true rfl) ?_
  show Ev S (d + 1) 4 cX4_readsKind (some .boolean) 0 [some (.ref 35)] [] mem Q
  refine ev_aload_n dX4_readsKind_0 (pc' := 1) rfl rfl ?_
  refine ev_getR (y := 43) dX4_readsKind_1 (pc' := 4) rfl fq_4_31 kn_35 rfl ?_
  refine ev_iconst dX4_readsKind_4 (pc' := 5) (v := 0) rfl (by decide) ?_
  refine ev_aload_n dX4_readsKind_5 (pc' := 6) rfl rfl ?_
  obtain ⟨y1, x_y1, h⟩ := ob_of h
  refine ev_invV dX4_readsKind_6 (pc' := 9) rfl sq_4_92 mt_X4_here rfl (arecv_ob (x := 35) rfl rfl (by decide) kn_35) ⟨_, rfl, Nat.le_of_ble_eq_true rfl, Nat.le_of_ble_eq_true rfl, rfl, rfl⟩ ?_
  refine X4_here_ca  x_y1 ?_
  refine ev_r1 ?_
  refine ev_invS dX4_readsKind_9 (pc' := 12) rfl sq_4_96 mt_X4_kindOf rfl ⟨_, rfl, Nat.le_of_ble_eq_true rfl, Nat.le_of_ble_eq_true rfl, rfl, rfl⟩ ?_
  refine X4_kindOf_ca  rfl ?_
  refine ev_r1 ?_
  refine ev_iastK (k0 := 0) dX4_readsKind_12 (pc' := 13) rfl kn_43 (by decide) rfl ?_
  refine ev_topm (fun m2 e_m2 => ?_)
  replace h := nm_at e_m2 h
  refine ev_aload_n dX4_readsKind_13 (pc' := 14) rfl rfl ?_
  refine ev_dup dX4_readsKind_14 (pc' := 15) rfl rfl ?_
  refine ev_get dX4_readsKind_15 (pc' := 18) rfl fq_4_89 kn_35 rfl ?_
  refine ev_aload_n dX4_readsKind_18 (pc' := 19) rfl rfl ?_
  refine ev_getR (y := 43) dX4_readsKind_19 (pc' := 22) rfl fq_4_31 kn_35 rfl ?_
  refine ev_iconst dX4_readsKind_22 (pc' := 23) (v := 0) rfl (by decide) ?_
  refine ev_ialdK (k0 := 0) dX4_readsKind_23 (pc' := 24) rfl kn_43 (by decide) rfl ?_
  refine ev_if_ge dX4_readsKind_24 (pc' := 27) rfl (t := 31) rfl (fun c3 => ?_) (fun c3 => ?_)
  · replace h := it_t c3 h
    refine ev_iconst dX4_readsKind_31 (pc' := 32) (v := 1) rfl (by decide) ?_
    refine ev_iadd dX4_readsKind_32 (pc' := 33) rfl ?_
    refine ev_put dX4_readsKind_33 (pc' := 36) rfl fq_4_89 kn_35 rfl (Or.inl (by decide)) ?_
    refine ev_topm (fun m4 e_m4 => ?_)
    replace h := nm_at e_m4 h
    refine ev_aload_n dX4_readsKind_36 (pc' := 37) rfl rfl ?_
    refine ev_getR (y := 43) dX4_readsKind_37 (pc' := 40) rfl fq_4_31 kn_35 rfl ?_
    refine ev_iconst dX4_readsKind_40 (pc' := 41) (v := 0) rfl (by decide) ?_
    refine ev_ialdK (k0 := 0) dX4_readsKind_41 (pc' := 42) rfl kn_43 (by decide) rfl ?_
    refine ev_if_lt dX4_readsKind_42 (pc' := 45) rfl (t := 49) rfl (fun c5 => ?_) (fun c5 => ?_)
    · replace h := it_t c5 h
      refine ev_iconst dX4_readsKind_49 (pc' := 50) (v := 0) rfl (by decide) ?_
      obtain ⟨rfl, rfl⟩ := rt2 h
      exact ev_ireturn dX4_readsKind_50 (aret_z (by decide)) q
    · replace h := it_f c5 h
      refine ev_iconst dX4_readsKind_45 (pc' := 46) (v := 1) rfl (by decide) ?_
      refine ev_goto dX4_readsKind_46 (t := 50) rfl ?_
      obtain ⟨rfl, rfl⟩ := rt2 h
      exact ev_ireturn dX4_readsKind_50 (aret_z (by decide)) q
  · replace h := it_f c3 h
    refine ev_iconst dX4_readsKind_27 (pc' := 28) (v := 0) rfl (by decide) ?_
    refine ev_goto dX4_readsKind_28 (t := 32) rfl ?_
    refine ev_iadd dX4_readsKind_32 (pc' := 33) rfl ?_
    refine ev_put dX4_readsKind_33 (pc' := 36) rfl fq_4_89 kn_35 rfl (Or.inl (by decide)) ?_
    refine ev_topm (fun m6 e_m6 => ?_)
    replace h := nm_at e_m6 h
    refine ev_aload_n dX4_readsKind_36 (pc' := 37) rfl rfl ?_
    refine ev_getR (y := 43) dX4_readsKind_37 (pc' := 40) rfl fq_4_31 kn_35 rfl ?_
    refine ev_iconst dX4_readsKind_40 (pc' := 41) (v := 0) rfl (by decide) ?_
    refine ev_ialdK (k0 := 0) dX4_readsKind_41 (pc' := 42) rfl kn_43 (by decide) rfl ?_
    refine ev_if_lt dX4_readsKind_42 (pc' := 45) rfl (t := 49) rfl (fun c7 => ?_) (fun c7 => ?_)
    · replace h := it_t c7 h
      refine ev_iconst dX4_readsKind_49 (pc' := 50) (v := 0) rfl (by decide) ?_
      obtain ⟨rfl, rfl⟩ := rt2 h
      exact ev_ireturn dX4_readsKind_50 (aret_z (by decide)) q
    · replace h := it_f c7 h
      refine ev_iconst dX4_readsKind_45 (pc' := 46) (v := 1) rfl (by decide) ?_
      refine ev_goto dX4_readsKind_46 (t := 50) rfl ?_
      obtain ⟨rfl, rfl⟩ := rt2 h
      exact ev_ireturn dX4_readsKind_50 (aret_z (by decide)) q
