def X3_cask (_o : Nat) (a1 : Int32) (a2 : Int32) (mem : Mm) : Option (Int32 × Mm) := nm (X3_firstOf (X2_caskFault 1 a1 mem) (X3_whatFault a2 5) 0) (fun v1 => if v1 = 0 then (ob (X2_at 1 a1) (fun y3 => if a2 = 0 then (some ((mem y3 0), mem)) else (if a2 = 1 then (some ((mem y3 1), mem)) else (if a2 = 2 then (some ((mem y3 2), mem)) else (if a2 = 3 then (some ((mem y3 3), mem)) else (if a2 = 4 then (some ((mem y3 4), mem)) else (some ((mem y3 5), mem)))))))) else (ob2 (X3_refuse 0 v1 mem) (fun y9 m10 => some (y9, m10))))
set_option maxRecDepth 100000 in
set_option maxHeartbeats 8000000 in
theorem X3_cask_ca {S : Sc} {d : Nat} {a1 : Int32} {a2 : Int32} {mem : Mm} {rr : Int32} {mr : Mm} {Q : Po}  (h : X3_cask 0 a1 a2 mem = some (rr, mr)) (q : Q (some (.int rr)) mr) : Ca S (d + 2) 52 [.ref 0, .int a1, .int a2] mem Q := by
  unfold X3_cask at h
  refine ca_in (by decide) mt_X3_cask (Nat.le_of_ble_eq_true rfl) ?_
  show Ev S (d + 1) 3 cX3_cask (some .int) 0 [some (.ref 0), some (.int a1), some (.int a2), none, none] [] mem Q
  refine ev_aload_n dX3_cask_0 (pc' := 1) rfl rfl ?_
  refine ev_getR (y := 1) dX3_cask_1 (pc' := 4) rfl fq_3_10 kn_0 rfl ?_
  refine ev_iload_n dX3_cask_4 (pc' := 5) rfl rfl ?_
  refine ev_invV dX3_cask_5 (pc' := 8) rfl sq_3_66 mt_X2_caskFault rfl (arecv_ob (x := 1) rfl rfl (by decide) kn_1) ⟨_, rfl, Nat.le_of_ble_eq_true rfl, Nat.le_of_ble_eq_true rfl, rfl, rfl⟩ ?_
  refine X2_caskFault_ca kn_1 rfl ?_
  refine ev_r1 ?_
  refine ev_iload_n dX3_cask_8 (pc' := 9) rfl rfl ?_
  refine ev_iconst dX3_cask_9 (pc' := 10) (v := 5) rfl (by decide) ?_
  refine ev_invS dX3_cask_10 (pc' := 13) rfl sq_3_69 mt_X3_whatFault rfl ⟨_, rfl, Nat.le_of_ble_eq_true rfl, Nat.le_of_ble_eq_true rfl, rfl, rfl⟩ ?_
  refine X3_whatFault_ca  rfl ?_
  refine ev_r1 ?_
  refine ev_iconst dX3_cask_13 (pc' := 14) (v := 0) rfl (by decide) ?_
  refine ev_invS dX3_cask_14 (pc' := 17) rfl sq_3_73 mt_X3_firstOf rfl ⟨_, rfl, Nat.le_of_ble_eq_true rfl, Nat.le_of_ble_eq_true rfl, rfl, rfl⟩ ?_
  refine X3_firstOf_ca  rfl ?_
  refine ev_r1 ?_
  refine ev_topi (fun v1 e_v1 => ?_)
  replace h := nm_at e_v1 h
  refine ev_istore_n dX3_cask_17 (pc' := 18) (ls' := [some (.ref 0), some (.int a1), some (.int a2), some (.int v1), none]) rfl (Nat.le_of_ble_eq_true rfl) rfl ?_
  refine ev_iload_n dX3_cask_18 (pc' := 19) rfl rfl ?_
  refine ev_if_eq dX3_cask_19 (pc' := 22) rfl (t := 28) rfl (fun c2 => ?_) (fun c2 => ?_)
  · replace h := it_t c2 h
    refine ev_aload_n dX3_cask_28 (pc' := 29) rfl rfl ?_
    refine ev_getR (y := 1) dX3_cask_29 (pc' := 32) rfl fq_3_10 kn_0 rfl ?_
    refine ev_iload_n dX3_cask_32 (pc' := 33) rfl rfl ?_
    obtain ⟨y3, x_y3, h⟩ := ob_of h
    refine ev_invV dX3_cask_33 (pc' := 36) rfl sq_3_76 mt_X2_at rfl (arecv_ob (x := 1) rfl rfl (by decide) kn_1) ⟨_, rfl, Nat.le_of_ble_eq_true rfl, Nat.le_of_ble_eq_true rfl, rfl, rfl⟩ ?_
    refine X2_at_ca kn_1 x_y3 ?_
    refine ev_r1 ?_
    refine ev_astore dX3_cask_36 (pc' := 38) (ls' := [some (.ref 0), some (.int a1), some (.int a2), some (.int v1), some (.ref y3)]) rfl (Nat.le_of_ble_eq_true rfl) rfl ?_
    refine ev_iload_n dX3_cask_38 (pc' := 39) rfl rfl ?_
    by_cases c4 : a2 = 0
    · replace h := it_t c4 h
      refine ev_tableIn dX3_cask_39 c4 (by decide) rfl (t := 72) rfl ?_
      refine ev_aload dX3_cask_72 (pc' := 74) rfl rfl ?_
      refine ev_get dX3_cask_74 (pc' := 77) rfl fq_3_80 (X2_at_kd kn_1 x_y3) rfl ?_
      obtain ⟨rfl, rfl⟩ := rt2 h
      exact ev_ireturn dX3_cask_77 rfl q
    · replace h := it_f c4 h
      by_cases c5 : a2 = 1
      · replace h := it_t c5 h
        refine ev_tableIn dX3_cask_39 c5 (by decide) rfl (t := 78) rfl ?_
        refine ev_aload dX3_cask_78 (pc' := 80) rfl rfl ?_
        refine ev_get dX3_cask_80 (pc' := 83) rfl fq_3_85 (X2_at_kd kn_1 x_y3) rfl ?_
        obtain ⟨rfl, rfl⟩ := rt2 h
        exact ev_ireturn dX3_cask_83 rfl q
      · replace h := it_f c5 h
        by_cases c6 : a2 = 2
        · replace h := it_t c6 h
          refine ev_tableIn dX3_cask_39 c6 (by decide) rfl (t := 84) rfl ?_
          refine ev_aload dX3_cask_84 (pc' := 86) rfl rfl ?_
          refine ev_get dX3_cask_86 (pc' := 89) rfl fq_3_88 (X2_at_kd kn_1 x_y3) rfl ?_
          obtain ⟨rfl, rfl⟩ := rt2 h
          exact ev_ireturn dX3_cask_89 rfl q
        · replace h := it_f c6 h
          by_cases c7 : a2 = 3
          · replace h := it_t c7 h
            refine ev_tableIn dX3_cask_39 c7 (by decide) rfl (t := 90) rfl ?_
            refine ev_aload dX3_cask_90 (pc' := 92) rfl rfl ?_
            refine ev_get dX3_cask_92 (pc' := 95) rfl fq_3_91 (X2_at_kd kn_1 x_y3) rfl ?_
            obtain ⟨rfl, rfl⟩ := rt2 h
            exact ev_ireturn dX3_cask_95 rfl q
          · replace h := it_f c7 h
            by_cases c8 : a2 = 4
            · replace h := it_t c8 h
              refine ev_tableIn dX3_cask_39 c8 (by decide) rfl (t := 96) rfl ?_
              refine ev_aload dX3_cask_96 (pc' := 98) rfl rfl ?_
              refine ev_get dX3_cask_98 (pc' := 101) rfl fq_3_94 (X2_at_kd kn_1 x_y3) rfl ?_
              obtain ⟨rfl, rfl⟩ := rt2 h
              exact ev_ireturn dX3_cask_101 rfl q
            · replace h := it_f c8 h
              refine ev_tableDef dX3_cask_39 [0, 1, 2, 3, 4] (by decide) (List.forall_mem_cons.mpr ⟨c4, List.forall_mem_cons.mpr ⟨c5, List.forall_mem_cons.mpr ⟨c6, List.forall_mem_cons.mpr ⟨c7, List.forall_mem_cons.mpr ⟨c8, fun _ h => absurd h List.not_mem_nil⟩⟩⟩⟩⟩) (t := 102) rfl ?_
              refine ev_aload dX3_cask_102 (pc' := 104) rfl rfl ?_
              refine ev_get dX3_cask_104 (pc' := 107) rfl fq_3_97 (X2_at_kd kn_1 x_y3) rfl ?_
              obtain ⟨rfl, rfl⟩ := rt2 h
              exact ev_ireturn dX3_cask_107 rfl q
  · replace h := it_f c2 h
    refine ev_aload_n dX3_cask_22 (pc' := 23) rfl rfl ?_
    refine ev_iload_n dX3_cask_23 (pc' := 24) rfl rfl ?_
    obtain ⟨y9, m10, x_y9, h⟩ := ob2_of h
    refine ev_invV dX3_cask_24 (pc' := 27) rfl sq_3_56 mt_X3_refuse rfl (arecv_ob (x := 0) rfl rfl (by decide) kn_0) ⟨_, rfl, Nat.le_of_ble_eq_true rfl, Nat.le_of_ble_eq_true rfl, rfl, rfl⟩ ?_
    refine X3_refuse_ca  x_y9 ?_
    refine ev_r1 ?_
    obtain ⟨rfl, rfl⟩ := rt2 h
    exact ev_ireturn dX3_cask_27 rfl q
def X3_set (_o : Nat) (a1 : Int32) (a2 : Int32) (mem : Mm) : Option (Int32 × Mm) := nm (X2_chosen 1 a1 mem) (fun v1 => nm2 (X2_choose 1 a1 a2 mem) (fun y2 m3 => if y2 = 0 then (some (v1, m3)) else (ob2 (X3_refuse 0 y2 m3) (fun y5 m6 => some (y5, m6)))))
set_option maxRecDepth 100000 in
set_option maxHeartbeats 8000000 in
theorem X3_set_ca {S : Sc} {d : Nat} {a1 : Int32} {a2 : Int32} {mem : Mm} {rr : Int32} {mr : Mm} {Q : Po}  (h : X3_set 0 a1 a2 mem = some (rr, mr)) (q : Q (some (.int rr)) mr) : Ca S (d + 3) 53 [.ref 0, .int a1, .int a2] mem Q := by
  unfold X3_set at h
  refine ca_in (by decide) mt_X3_set (Nat.le_of_ble_eq_true rfl) ?_
  show Ev S (d + 2) 3 cX3_set (some .int) 0 [some (.ref 0), some (.int a1), some (.int a2), none, none] [] mem Q
  refine ev_aload_n dX3_set_0 (pc' := 1) rfl rfl ?_
  refine ev_getR (y := 1) dX3_set_1 (pc' := 4) rfl fq_3_10 kn_0 rfl ?_
  refine ev_iload_n dX3_set_4 (pc' := 5) rfl rfl ?_
  refine ev_invV dX3_set_5 (pc' := 8) rfl sq_3_100 mt_X2_chosen rfl (arecv_ob (x := 1) rfl rfl (by decide) kn_1) ⟨_, rfl, Nat.le_of_ble_eq_true rfl, Nat.le_of_ble_eq_true rfl, rfl, rfl⟩ ?_
  refine X2_chosen_ca kn_1 rfl ?_
  refine ev_r1 ?_
  refine ev_topi (fun v1 e_v1 => ?_)
  replace h := nm_at e_v1 h
  refine ev_istore_n dX3_set_8 (pc' := 9) (ls' := [some (.ref 0), some (.int a1), some (.int a2), some (.int v1), none]) rfl (Nat.le_of_ble_eq_true rfl) rfl ?_
  refine ev_aload_n dX3_set_9 (pc' := 10) rfl rfl ?_
  refine ev_getR (y := 1) dX3_set_10 (pc' := 13) rfl fq_3_10 kn_0 rfl ?_
  refine ev_iload_n dX3_set_13 (pc' := 14) rfl rfl ?_
  refine ev_iload_n dX3_set_14 (pc' := 15) rfl rfl ?_
  obtain ⟨y2, m3, x_y2, h⟩ := nm2_of h
  refine ev_invV dX3_set_15 (pc' := 18) rfl sq_3_103 mt_X2_choose rfl (arecv_ob (x := 1) rfl rfl (by decide) kn_1) ⟨_, rfl, Nat.le_of_ble_eq_true rfl, Nat.le_of_ble_eq_true rfl, rfl, rfl⟩ ?_
  refine X2_choose_ca kn_1 x_y2 ?_
  refine ev_r1 ?_
  refine ev_istore dX3_set_18 (pc' := 20) (ls' := [some (.ref 0), some (.int a1), some (.int a2), some (.int v1), some (.int y2)]) rfl (Nat.le_of_ble_eq_true rfl) rfl ?_
  refine ev_iload dX3_set_20 (pc' := 22) rfl rfl ?_
  refine ev_if_ne dX3_set_22 (pc' := 25) rfl (t := 29) rfl (fun c4 => ?_) (fun c4 => ?_)
  · replace h := it_f c4 h
    refine ev_aload_n dX3_set_29 (pc' := 30) rfl rfl ?_
    refine ev_iload dX3_set_30 (pc' := 32) rfl rfl ?_
    obtain ⟨y5, m6, x_y5, h⟩ := ob2_of h
    refine ev_invV dX3_set_32 (pc' := 35) rfl sq_3_56 mt_X3_refuse rfl (arecv_ob (x := 0) rfl rfl (by decide) kn_0) ⟨_, rfl, Nat.le_of_ble_eq_true rfl, Nat.le_of_ble_eq_true rfl, rfl, rfl⟩ ?_
    refine X3_refuse_ca  x_y5 ?_
    refine ev_r1 ?_
    obtain ⟨rfl, rfl⟩ := rt2 h
    exact ev_ireturn dX3_set_35 rfl q
  · replace h := it_t c4 h
    refine ev_iload_n dX3_set_25 (pc' := 26) rfl rfl ?_
    refine ev_goto dX3_set_26 (t := 35) rfl ?_
    obtain ⟨rfl, rfl⟩ := rt2 h
    exact ev_ireturn dX3_set_35 rfl q
def X3_fill (_o : Nat) (a1 : Int32) (a2 : Int32) (mem : Mm) : Option (Int32 × Mm) := ob (X2_at 1 a1) (fun y1 => nm (X3_firstOf (X2_caskFault 1 a1 mem) (X3_rangeFault a2 0 (mem y1 1)) 0) (fun v2 => if v2 = 0 then (nm (mem y1 2) (fun v4 => nm (mset mem y1 2 a2) (fun m5 => some (v4, m5)))) else (ob2 (X3_refuse 0 v2 mem) (fun y6 m7 => some (y6, m7)))))
set_option maxRecDepth 100000 in
set_option maxHeartbeats 8000000 in
theorem X3_fill_ca {S : Sc} {d : Nat} {a1 : Int32} {a2 : Int32} {mem : Mm} {rr : Int32} {mr : Mm} {Q : Po}  (h : X3_fill 0 a1 a2 mem = some (rr, mr)) (q : Q (some (.int rr)) mr) : Ca S (d + 2) 54 [.ref 0, .int a1, .int a2] mem Q := by
  unfold X3_fill at h
  refine ca_in (by decide) mt_X3_fill (Nat.le_of_ble_eq_true rfl) ?_
  show Ev S (d + 1) 3 cX3_fill (some .int) 0 [some (.ref 0), some (.int a1), some (.int a2), none, none, none] [] mem Q
  refine ev_aload_n dX3_fill_0 (pc' := 1) rfl rfl ?_
  refine ev_getR (y := 1) dX3_fill_1 (pc' := 4) rfl fq_3_10 kn_0 rfl ?_
  refine ev_iload_n dX3_fill_4 (pc' := 5) rfl rfl ?_
  obtain ⟨y1, x_y1, h⟩ := ob_of h
  refine ev_invV dX3_fill_5 (pc' := 8) rfl sq_3_76 mt_X2_at rfl (arecv_ob (x := 1) rfl rfl (by decide) kn_1) ⟨_, rfl, Nat.le_of_ble_eq_true rfl, Nat.le_of_ble_eq_true rfl, rfl, rfl⟩ ?_
  refine X2_at_ca kn_1 x_y1 ?_
  refine ev_r1 ?_
  refine ev_astore_n dX3_fill_8 (pc' := 9) (ls' := [some (.ref 0), some (.int a1), some (.int a2), some (.ref y1), none, none]) rfl (Nat.le_of_ble_eq_true rfl) rfl ?_
  refine ev_aload_n dX3_fill_9 (pc' := 10) rfl rfl ?_
  refine ev_getR (y := 1) dX3_fill_10 (pc' := 13) rfl fq_3_10 kn_0 rfl ?_
  refine ev_iload_n dX3_fill_13 (pc' := 14) rfl rfl ?_
  refine ev_invV dX3_fill_14 (pc' := 17) rfl sq_3_66 mt_X2_caskFault rfl (arecv_ob (x := 1) rfl rfl (by decide) kn_1) ⟨_, rfl, Nat.le_of_ble_eq_true rfl, Nat.le_of_ble_eq_true rfl, rfl, rfl⟩ ?_
  refine X2_caskFault_ca kn_1 rfl ?_
  refine ev_r1 ?_
  refine ev_iload_n dX3_fill_17 (pc' := 18) rfl rfl ?_
  refine ev_iconst dX3_fill_18 (pc' := 19) (v := 0) rfl (by decide) ?_
  refine ev_aload_n dX3_fill_19 (pc' := 20) rfl rfl ?_
  refine ev_get dX3_fill_20 (pc' := 23) rfl fq_3_85 (X2_at_kd kn_1 x_y1) rfl ?_
  refine ev_invS dX3_fill_23 (pc' := 26) rfl sq_3_44 mt_X3_rangeFault rfl ⟨_, rfl, Nat.le_of_ble_eq_true rfl, Nat.le_of_ble_eq_true rfl, rfl, rfl⟩ ?_
  refine X3_rangeFault_ca  rfl ?_
  refine ev_r1 ?_
  refine ev_iconst dX3_fill_26 (pc' := 27) (v := 0) rfl (by decide) ?_
  refine ev_invS dX3_fill_27 (pc' := 30) rfl sq_3_73 mt_X3_firstOf rfl ⟨_, rfl, Nat.le_of_ble_eq_true rfl, Nat.le_of_ble_eq_true rfl, rfl, rfl⟩ ?_
  refine X3_firstOf_ca  rfl ?_
  refine ev_r1 ?_
  refine ev_topi (fun v2 e_v2 => ?_)
  replace h := nm_at e_v2 h
  refine ev_istore dX3_fill_30 (pc' := 32) (ls' := [some (.ref 0), some (.int a1), some (.int a2), some (.ref y1), some (.int v2), none]) rfl (Nat.le_of_ble_eq_true rfl) rfl ?_
  refine ev_iload dX3_fill_32 (pc' := 34) rfl rfl ?_
  refine ev_if_eq dX3_fill_34 (pc' := 37) rfl (t := 44) rfl (fun c3 => ?_) (fun c3 => ?_)
  · replace h := it_t c3 h
    refine ev_aload_n dX3_fill_44 (pc' := 45) rfl rfl ?_
    refine ev_get dX3_fill_45 (pc' := 48) rfl fq_3_88 (X2_at_kd kn_1 x_y1) rfl ?_
    refine ev_topi (fun v4 e_v4 => ?_)
    replace h := nm_at e_v4 h
    refine ev_istore dX3_fill_48 (pc' := 50) (ls' := [some (.ref 0), some (.int a1), some (.int a2), some (.ref y1), some (.int v2), some (.int v4)]) rfl (Nat.le_of_ble_eq_true rfl) rfl ?_
    refine ev_aload_n dX3_fill_50 (pc' := 51) rfl rfl ?_
    refine ev_iload_n dX3_fill_51 (pc' := 52) rfl rfl ?_
    refine ev_put dX3_fill_52 (pc' := 55) rfl fq_3_88 (X2_at_kd kn_1 x_y1) rfl (Or.inl (by decide)) ?_
    refine ev_topm (fun m5 e_m5 => ?_)
    replace h := nm_at e_m5 h
    refine ev_iload dX3_fill_55 (pc' := 57) rfl rfl ?_
    obtain ⟨rfl, rfl⟩ := rt2 h
    exact ev_ireturn dX3_fill_57 rfl q
  · replace h := it_f c3 h
    refine ev_aload_n dX3_fill_37 (pc' := 38) rfl rfl ?_
    refine ev_iload dX3_fill_38 (pc' := 40) rfl rfl ?_
    obtain ⟨y6, m7, x_y6, h⟩ := ob2_of h
    refine ev_invV dX3_fill_40 (pc' := 43) rfl sq_3_56 mt_X3_refuse rfl (arecv_ob (x := 0) rfl rfl (by decide) kn_0) ⟨_, rfl, Nat.le_of_ble_eq_true rfl, Nat.le_of_ble_eq_true rfl, rfl, rfl⟩ ?_
    refine X3_refuse_ca  x_y6 ?_
    refine ev_r1 ?_
    obtain ⟨rfl, rfl⟩ := rt2 h
    exact ev_ireturn dX3_fill_43 rfl q
def X3_takes (_o : Nat) (a1 : Int32) (a2 : Int32) (a3 : Int32) (mem : Mm) : Option (Int32 × Mm) := nm (X2_caskFault 1 a1 mem) (fun v1 => if v1 = 0 then (if a2 < 0 then (ob2 (X3_refuse 0 (-4) mem) (fun y4 m5 => some (y4, m5))) else (if 0 ≤ a3 then (if 400 < a2 then (ob2 (X3_refuse 0 (-6) mem) (fun y8 m9 => some (y8, m9))) else (if a3 ≤ 80 then (ob (X2_at 1 a1) (fun y11 => some ((X0_angelsPart y11 a2 a3 mem), mem))) else (ob2 (X3_refuse 0 (-6) mem) (fun y12 m13 => some (y12, m13))))) else (ob2 (X3_refuse 0 (-4) mem) (fun y14 m15 => some (y14, m15))))) else (ob2 (X3_refuse 0 v1 mem) (fun y16 m17 => some (y16, m17))))
set_option maxRecDepth 100000 in
set_option maxHeartbeats 8000000 in
theorem X3_takes_ca {S : Sc} {d : Nat} {a1 : Int32} {a2 : Int32} {a3 : Int32} {mem : Mm} {rr : Int32} {mr : Mm} {Q : Po}  (h : X3_takes 0 a1 a2 a3 mem = some (rr, mr)) (q : Q (some (.int rr)) mr) : Ca S (d + 3) 55 [.ref 0, .int a1, .int a2, .int a3] mem Q := by
  unfold X3_takes at h
  refine ca_in (by decide) mt_X3_takes (Nat.le_of_ble_eq_true rfl) ?_
  show Ev S (d + 2) 3 cX3_takes (some .int) 0 [some (.ref 0), some (.int a1), some (.int a2), some (.int a3), none] [] mem Q
  refine ev_aload_n dX3_takes_0 (pc' := 1) rfl rfl ?_
  refine ev_getR (y := 1) dX3_takes_1 (pc' := 4) rfl fq_3_10 kn_0 rfl ?_
  refine ev_iload_n dX3_takes_4 (pc' := 5) rfl rfl ?_
  refine ev_invV dX3_takes_5 (pc' := 8) rfl sq_3_66 mt_X2_caskFault rfl (arecv_ob (x := 1) rfl rfl (by decide) kn_1) ⟨_, rfl, Nat.le_of_ble_eq_true rfl, Nat.le_of_ble_eq_true rfl, rfl, rfl⟩ ?_
  refine X2_caskFault_ca kn_1 rfl ?_
  refine ev_r1 ?_
  refine ev_topi (fun v1 e_v1 => ?_)
  replace h := nm_at e_v1 h
  refine ev_istore dX3_takes_8 (pc' := 10) (ls' := [some (.ref 0), some (.int a1), some (.int a2), some (.int a3), some (.int v1)]) rfl (Nat.le_of_ble_eq_true rfl) rfl ?_
  refine ev_iload dX3_takes_10 (pc' := 12) rfl rfl ?_
  refine ev_if_ne dX3_takes_12 (pc' := 15) rfl (t := 49) rfl (fun c2 => ?_) (fun c2 => ?_)
  · replace h := it_f c2 h
    refine ev_iload dX3_takes_49 (pc' := 51) rfl rfl ?_
    refine ev_if_ne dX3_takes_51 (pc' := 54) rfl (t := 70) rfl (fun _ => ?_) (fun q => absurd q c2)
    refine ev_aload_n dX3_takes_70 (pc' := 71) rfl rfl ?_
    refine ev_iload dX3_takes_71 (pc' := 73) rfl rfl ?_
    obtain ⟨y16, m17, x_y16, h⟩ := ob2_of h
    refine ev_invV dX3_takes_73 (pc' := 76) rfl sq_3_56 mt_X3_refuse rfl (arecv_ob (x := 0) rfl rfl (by decide) kn_0) ⟨_, rfl, Nat.le_of_ble_eq_true rfl, Nat.le_of_ble_eq_true rfl, rfl, rfl⟩ ?_
    refine X3_refuse_ca  x_y16 ?_
    refine ev_r1 ?_
    obtain ⟨rfl, rfl⟩ := rt2 h
    exact ev_ireturn dX3_takes_76 rfl q
  · replace h := it_t c2 h
    refine ev_iload_n dX3_takes_15 (pc' := 16) rfl rfl ?_
    refine ev_if_lt dX3_takes_16 (pc' := 19) rfl (t := 23) rfl (fun c3 => ?_) (fun c3 => ?_)
    · replace h := it_t c3 h
      refine ev_bipush dX3_takes_23 (pc' := 25) (v := (-4)) rfl (by decide) ?_
      refine ev_goto dX3_takes_25 (t := 47) rfl ?_
      refine ev_istore dX3_takes_47 (pc' := 49) (ls' := [some (.ref 0), some (.int a1), some (.int a2), some (.int a3), some (.int (-4))]) rfl (Nat.le_of_ble_eq_true rfl) rfl ?_
      refine ev_iload dX3_takes_49 (pc' := 51) rfl rfl ?_
      refine ev_if_ne dX3_takes_51 (pc' := 54) rfl (t := 70) rfl (fun _ => ?_) (fun q => absurd q (by decide))
      refine ev_aload_n dX3_takes_70 (pc' := 71) rfl rfl ?_
      refine ev_iload dX3_takes_71 (pc' := 73) rfl rfl ?_
      obtain ⟨y4, m5, x_y4, h⟩ := ob2_of h
      refine ev_invV dX3_takes_73 (pc' := 76) rfl sq_3_56 mt_X3_refuse rfl (arecv_ob (x := 0) rfl rfl (by decide) kn_0) ⟨_, rfl, Nat.le_of_ble_eq_true rfl, Nat.le_of_ble_eq_true rfl, rfl, rfl⟩ ?_
      refine X3_refuse_ca  x_y4 ?_
      refine ev_r1 ?_
      obtain ⟨rfl, rfl⟩ := rt2 h
      exact ev_ireturn dX3_takes_76 rfl q
    · replace h := it_f c3 h
      refine ev_iload_n dX3_takes_19 (pc' := 20) rfl rfl ?_
      refine ev_if_ge dX3_takes_20 (pc' := 23) rfl (t := 28) rfl (fun c6 => ?_) (fun c6 => ?_)
      · replace h := it_t c6 h
        refine ev_iload_n dX3_takes_28 (pc' := 29) rfl rfl ?_
        refine ev_sipush dX3_takes_29 (pc' := 32) (v := 400) rfl (by decide) ?_
        refine ev_icmp_gt dX3_takes_32 (pc' := 35) rfl (t := 41) rfl (fun c7 => ?_) (fun c7 => ?_)
        · replace h := it_t c7 h
          refine ev_bipush dX3_takes_41 (pc' := 43) (v := (-6)) rfl (by decide) ?_
          refine ev_goto dX3_takes_43 (t := 47) rfl ?_
          refine ev_istore dX3_takes_47 (pc' := 49) (ls' := [some (.ref 0), some (.int a1), some (.int a2), some (.int a3), some (.int (-6))]) rfl (Nat.le_of_ble_eq_true rfl) rfl ?_
          refine ev_iload dX3_takes_49 (pc' := 51) rfl rfl ?_
          refine ev_if_ne dX3_takes_51 (pc' := 54) rfl (t := 70) rfl (fun _ => ?_) (fun q => absurd q (by decide))
          refine ev_aload_n dX3_takes_70 (pc' := 71) rfl rfl ?_
          refine ev_iload dX3_takes_71 (pc' := 73) rfl rfl ?_
          obtain ⟨y8, m9, x_y8, h⟩ := ob2_of h
          refine ev_invV dX3_takes_73 (pc' := 76) rfl sq_3_56 mt_X3_refuse rfl (arecv_ob (x := 0) rfl rfl (by decide) kn_0) ⟨_, rfl, Nat.le_of_ble_eq_true rfl, Nat.le_of_ble_eq_true rfl, rfl, rfl⟩ ?_
          refine X3_refuse_ca  x_y8 ?_
          refine ev_r1 ?_
          obtain ⟨rfl, rfl⟩ := rt2 h
          exact ev_ireturn dX3_takes_76 rfl q
        · replace h := it_f c7 h
          refine ev_iload_n dX3_takes_35 (pc' := 36) rfl rfl ?_
          refine ev_bipush dX3_takes_36 (pc' := 38) (v := 80) rfl (by decide) ?_
          refine ev_icmp_le dX3_takes_38 (pc' := 41) rfl (t := 46) rfl (fun c10 => ?_) (fun c10 => ?_)
          · replace h := it_t c10 h
            refine ev_iconst dX3_takes_46 (pc' := 47) (v := 0) rfl (by decide) ?_
            refine ev_istore dX3_takes_47 (pc' := 49) (ls' := [some (.ref 0), some (.int a1), some (.int a2), some (.int a3), some (.int 0)]) rfl (Nat.le_of_ble_eq_true rfl) rfl ?_
            refine ev_iload dX3_takes_49 (pc' := 51) rfl rfl ?_
            refine ev_if_ne dX3_takes_51 (pc' := 54) rfl (t := 70) rfl (fun q => absurd (by decide) q) (fun _ => ?_)
            refine ev_aload_n dX3_takes_54 (pc' := 55) rfl rfl ?_
            refine ev_getR (y := 1) dX3_takes_55 (pc' := 58) rfl fq_3_10 kn_0 rfl ?_
            refine ev_iload_n dX3_takes_58 (pc' := 59) rfl rfl ?_
            obtain ⟨y11, x_y11, h⟩ := ob_of h
            refine ev_invV dX3_takes_59 (pc' := 62) rfl sq_3_76 mt_X2_at rfl (arecv_ob (x := 1) rfl rfl (by decide) kn_1) ⟨_, rfl, Nat.le_of_ble_eq_true rfl, Nat.le_of_ble_eq_true rfl, rfl, rfl⟩ ?_
            refine X2_at_ca kn_1 x_y11 ?_
            refine ev_r1 ?_
            refine ev_iload_n dX3_takes_62 (pc' := 63) rfl rfl ?_
            refine ev_iload_n dX3_takes_63 (pc' := 64) rfl rfl ?_
            refine ev_invV dX3_takes_64 (pc' := 67) rfl sq_3_106 mt_X0_angelsPart rfl (arecv_ob (x := y11) rfl rfl (by decide) (X2_at_kd kn_1 x_y11)) ⟨_, rfl, Nat.le_of_ble_eq_true rfl, Nat.le_of_ble_eq_true rfl, rfl, rfl⟩ ?_
            refine X0_angelsPart_ca (X2_at_kd kn_1 x_y11) rfl ?_
            refine ev_r1 ?_
            refine ev_goto dX3_takes_67 (t := 76) rfl ?_
            obtain ⟨rfl, rfl⟩ := rt2 h
            exact ev_ireturn dX3_takes_76 rfl q
          · replace h := it_f c10 h
            refine ev_bipush dX3_takes_41 (pc' := 43) (v := (-6)) rfl (by decide) ?_
            refine ev_goto dX3_takes_43 (t := 47) rfl ?_
            refine ev_istore dX3_takes_47 (pc' := 49) (ls' := [some (.ref 0), some (.int a1), some (.int a2), some (.int a3), some (.int (-6))]) rfl (Nat.le_of_ble_eq_true rfl) rfl ?_
            refine ev_iload dX3_takes_49 (pc' := 51) rfl rfl ?_
            refine ev_if_ne dX3_takes_51 (pc' := 54) rfl (t := 70) rfl (fun _ => ?_) (fun q => absurd q (by decide))
            refine ev_aload_n dX3_takes_70 (pc' := 71) rfl rfl ?_
            refine ev_iload dX3_takes_71 (pc' := 73) rfl rfl ?_
            obtain ⟨y12, m13, x_y12, h⟩ := ob2_of h
            refine ev_invV dX3_takes_73 (pc' := 76) rfl sq_3_56 mt_X3_refuse rfl (arecv_ob (x := 0) rfl rfl (by decide) kn_0) ⟨_, rfl, Nat.le_of_ble_eq_true rfl, Nat.le_of_ble_eq_true rfl, rfl, rfl⟩ ?_
            refine X3_refuse_ca  x_y12 ?_
            refine ev_r1 ?_
            obtain ⟨rfl, rfl⟩ := rt2 h
            exact ev_ireturn dX3_takes_76 rfl q
      · replace h := it_f c6 h
        refine ev_bipush dX3_takes_23 (pc' := 25) (v := (-4)) rfl (by decide) ?_
        refine ev_goto dX3_takes_25 (t := 47) rfl ?_
        refine ev_istore dX3_takes_47 (pc' := 49) (ls' := [some (.ref 0), some (.int a1), some (.int a2), some (.int a3), some (.int (-4))]) rfl (Nat.le_of_ble_eq_true rfl) rfl ?_
        refine ev_iload dX3_takes_49 (pc' := 51) rfl rfl ?_
        refine ev_if_ne dX3_takes_51 (pc' := 54) rfl (t := 70) rfl (fun _ => ?_) (fun q => absurd q (by decide))
        refine ev_aload_n dX3_takes_70 (pc' := 71) rfl rfl ?_
        refine ev_iload dX3_takes_71 (pc' := 73) rfl rfl ?_
        obtain ⟨y14, m15, x_y14, h⟩ := ob2_of h
        refine ev_invV dX3_takes_73 (pc' := 76) rfl sq_3_56 mt_X3_refuse rfl (arecv_ob (x := 0) rfl rfl (by decide) kn_0) ⟨_, rfl, Nat.le_of_ble_eq_true rfl, Nat.le_of_ble_eq_true rfl, rfl, rfl⟩ ?_
        refine X3_refuse_ca  x_y14 ?_
        refine ev_r1 ?_
        obtain ⟨rfl, rfl⟩ := rt2 h
        exact ev_ireturn dX3_takes_76 rfl q
def X3_pour (_o : Nat) (a1 : Int32) (a2 : Int32) (a3 : Int32) (mem : Mm) : Option (Int32 × Mm) := ob2 (X2_pourOver 1 a1 a2 a3 mem) (fun y1 m2 => if y1 = 0 then (ob (X2_at 1 a2) (fun y4 => some ((m2 y4 3), m2))) else (ob2 (X3_refuse 0 y1 m2) (fun y5 m6 => some (y5, m6))))
set_option maxRecDepth 100000 in
set_option maxHeartbeats 8000000 in
theorem X3_pour_ca {S : Sc} {d : Nat} {a1 : Int32} {a2 : Int32} {a3 : Int32} {mem : Mm} {rr : Int32} {mr : Mm} {Q : Po}  (h : X3_pour 0 a1 a2 a3 mem = some (rr, mr)) (q : Q (some (.int rr)) mr) : Ca S (d + 4) 56 [.ref 0, .int a1, .int a2, .int a3] mem Q := by
  unfold X3_pour at h
  refine ca_in (by decide) mt_X3_pour (Nat.le_of_ble_eq_true rfl) ?_
  show Ev S (d + 3) 3 cX3_pour (some .int) 0 [some (.ref 0), some (.int a1), some (.int a2), some (.int a3), none] [] mem Q
  refine ev_aload_n dX3_pour_0 (pc' := 1) rfl rfl ?_
  refine ev_getR (y := 1) dX3_pour_1 (pc' := 4) rfl fq_3_10 kn_0 rfl ?_
  refine ev_iload_n dX3_pour_4 (pc' := 5) rfl rfl ?_
  refine ev_iload_n dX3_pour_5 (pc' := 6) rfl rfl ?_
  refine ev_iload_n dX3_pour_6 (pc' := 7) rfl rfl ?_
  obtain ⟨y1, m2, x_y1, h⟩ := ob2_of h
  refine ev_invV dX3_pour_7 (pc' := 10) rfl sq_3_109 mt_X2_pourOver rfl (arecv_ob (x := 1) rfl rfl (by decide) kn_1) ⟨_, rfl, Nat.le_of_ble_eq_true rfl, Nat.le_of_ble_eq_true rfl, rfl, rfl⟩ ?_
  refine X2_pourOver_ca kn_1 x_y1 ?_
  refine ev_r1 ?_
  refine ev_istore dX3_pour_10 (pc' := 12) (ls' := [some (.ref 0), some (.int a1), some (.int a2), some (.int a3), some (.int y1)]) rfl (Nat.le_of_ble_eq_true rfl) rfl ?_
  refine ev_iload dX3_pour_12 (pc' := 14) rfl rfl ?_
  refine ev_if_ne dX3_pour_14 (pc' := 17) rfl (t := 31) rfl (fun c3 => ?_) (fun c3 => ?_)
  · replace h := it_f c3 h
    refine ev_aload_n dX3_pour_31 (pc' := 32) rfl rfl ?_
    refine ev_iload dX3_pour_32 (pc' := 34) rfl rfl ?_
    obtain ⟨y5, m6, x_y5, h⟩ := ob2_of h
    refine ev_invV dX3_pour_34 (pc' := 37) rfl sq_3_56 mt_X3_refuse rfl (arecv_ob (x := 0) rfl rfl (by decide) kn_0) ⟨_, rfl, Nat.le_of_ble_eq_true rfl, Nat.le_of_ble_eq_true rfl, rfl, rfl⟩ ?_
    refine X3_refuse_ca  x_y5 ?_
    refine ev_r1 ?_
    obtain ⟨rfl, rfl⟩ := rt2 h
    exact ev_ireturn dX3_pour_37 rfl q
  · replace h := it_t c3 h
    refine ev_aload_n dX3_pour_17 (pc' := 18) rfl rfl ?_
    refine ev_getR (y := 1) dX3_pour_18 (pc' := 21) rfl fq_3_10 kn_0 rfl ?_
    refine ev_iload_n dX3_pour_21 (pc' := 22) rfl rfl ?_
    obtain ⟨y4, x_y4, h⟩ := ob_of h
    refine ev_invV dX3_pour_22 (pc' := 25) rfl sq_3_76 mt_X2_at rfl (arecv_ob (x := 1) rfl rfl (by decide) kn_1) ⟨_, rfl, Nat.le_of_ble_eq_true rfl, Nat.le_of_ble_eq_true rfl, rfl, rfl⟩ ?_
    refine X2_at_ca kn_1 x_y4 ?_
    refine ev_r1 ?_
    refine ev_get dX3_pour_25 (pc' := 28) rfl fq_3_91 (X2_at_kd kn_1 x_y4) rfl ?_
    refine ev_goto dX3_pour_28 (t := 37) rfl ?_
    obtain ⟨rfl, rfl⟩ := rt2 h
    exact ev_ireturn dX3_pour_37 rfl q
def X3_years (_o : Nat) (a1 : Int32) (mem : Mm) : Option (Int32 × Mm) := ob2 (X2_liveOn 1 a1 mem) (fun y1 m2 => if y1 = 0 then (some ((m2 1 6), m2)) else (ob2 (X3_refuse 0 y1 m2) (fun y4 m5 => some (y4, m5))))
set_option maxRecDepth 100000 in
set_option maxHeartbeats 8000000 in
theorem X3_years_ca {S : Sc} {d : Nat} {a1 : Int32} {mem : Mm} {rr : Int32} {mr : Mm} {Q : Po}  (h : X3_years 0 a1 mem = some (rr, mr)) (q : Q (some (.int rr)) mr) : Ca S (d + 6) 57 [.ref 0, .int a1] mem Q := by
  unfold X3_years at h
  refine ca_in (by decide) mt_X3_years (Nat.le_of_ble_eq_true rfl) ?_
  show Ev S (d + 5) 3 cX3_years (some .int) 0 [some (.ref 0), some (.int a1), none] [] mem Q
  refine ev_aload_n dX3_years_0 (pc' := 1) rfl rfl ?_
  refine ev_getR (y := 1) dX3_years_1 (pc' := 4) rfl fq_3_10 kn_0 rfl ?_
  refine ev_iload_n dX3_years_4 (pc' := 5) rfl rfl ?_
  obtain ⟨y1, m2, x_y1, h⟩ := ob2_of h
  refine ev_invV dX3_years_5 (pc' := 8) rfl sq_3_112 mt_X2_liveOn rfl (arecv_ob (x := 1) rfl rfl (by decide) kn_1) ⟨_, rfl, Nat.le_of_ble_eq_true rfl, Nat.le_of_ble_eq_true rfl, rfl, rfl⟩ ?_
  refine X2_liveOn_ca kn_1 x_y1 ?_
  refine ev_r1 ?_
  refine ev_istore_n dX3_years_8 (pc' := 9) (ls' := [some (.ref 0), some (.int a1), some (.int y1)]) rfl (Nat.le_of_ble_eq_true rfl) rfl ?_
  refine ev_iload_n dX3_years_9 (pc' := 10) rfl rfl ?_
  refine ev_if_ne dX3_years_10 (pc' := 13) rfl (t := 23) rfl (fun c3 => ?_) (fun c3 => ?_)
  · replace h := it_f c3 h
    refine ev_aload_n dX3_years_23 (pc' := 24) rfl rfl ?_
    refine ev_iload_n dX3_years_24 (pc' := 25) rfl rfl ?_
    obtain ⟨y4, m5, x_y4, h⟩ := ob2_of h
    refine ev_invV dX3_years_25 (pc' := 28) rfl sq_3_56 mt_X3_refuse rfl (arecv_ob (x := 0) rfl rfl (by decide) kn_0) ⟨_, rfl, Nat.le_of_ble_eq_true rfl, Nat.le_of_ble_eq_true rfl, rfl, rfl⟩ ?_
    refine X3_refuse_ca  x_y4 ?_
    refine ev_r1 ?_
    obtain ⟨rfl, rfl⟩ := rt2 h
    exact ev_ireturn dX3_years_28 rfl q
  · replace h := it_t c3 h
    refine ev_aload_n dX3_years_13 (pc' := 14) rfl rfl ?_
    refine ev_getR (y := 1) dX3_years_14 (pc' := 17) rfl fq_3_10 kn_0 rfl ?_
    refine ev_get dX3_years_17 (pc' := 20) rfl fq_3_115 kn_1 rfl ?_
    refine ev_goto dX3_years_20 (t := 28) rfl ?_
    obtain ⟨rfl, rfl⟩ := rt2 h
    exact ev_ireturn dX3_years_28 rfl q
def X3_yearsFault (a1 : Int32) : Int32 := (X3_rangeFault a1 0 200)
set_option maxRecDepth 100000 in
set_option maxHeartbeats 8000000 in
theorem X3_yearsFault_ca {S : Sc} {d : Nat} {a1 : Int32} {mem : Mm} {rr : Int32} {Q : Po}  (h : X3_yearsFault a1 = rr) (q : Q (some (.int rr)) mem) : Ca S (d + 2) 88 [.int a1] mem Q := by
  unfold X3_yearsFault at h
  refine ca_in (by decide) mt_X3_yearsFault (Nat.le_of_ble_eq_true rfl) ?_
  show Ev S (d + 1) 3 cX3_yearsFault (some .int) 0 [some (.int a1)] [] mem Q
  refine ev_iload_n dX3_yearsFault_0 (pc' := 1) rfl rfl ?_
  refine ev_iconst dX3_yearsFault_1 (pc' := 2) (v := 0) rfl (by decide) ?_
  refine ev_sipush dX3_yearsFault_2 (pc' := 5) (v := 200) rfl (by decide) ?_
  refine ev_invS dX3_yearsFault_5 (pc' := 8) rfl sq_3_44 mt_X3_rangeFault rfl ⟨_, rfl, Nat.le_of_ble_eq_true rfl, Nat.le_of_ble_eq_true rfl, rfl, rfl⟩ ?_
  refine X3_rangeFault_ca  rfl ?_
  refine ev_r1 ?_
  obtain rfl := h
  exact ev_ireturn dX3_yearsFault_8 rfl q
def X3_thinkOn (_o : Nat) (a1 : Int32) (mem : Mm) : Option Mm := ob (X2_become 11 1 mem) (fun m1 => ob (X2_goOn 11 a1 m1) (fun m2 => some m2))
set_option maxRecDepth 100000 in
set_option maxHeartbeats 8000000 in
theorem X3_thinkOn_ca {S : Sc} {d : Nat} {a1 : Int32} {mem : Mm} {mr : Mm} {Q : Po}  (h : X3_thinkOn 0 a1 mem = some mr) (q : Q none mr) : Ca S (d + 5) 97 [.ref 0, .int a1] mem Q := by
  unfold X3_thinkOn at h
  refine ca_in (by decide) mt_X3_thinkOn (Nat.le_of_ble_eq_true rfl) ?_
  show Ev S (d + 4) 3 cX3_thinkOn none 0 [some (.ref 0), some (.int a1)] [] mem Q
  refine ev_aload_n dX3_thinkOn_0 (pc' := 1) rfl rfl ?_
  refine ev_getR (y := 11) dX3_thinkOn_1 (pc' := 4) rfl fq_3_16 kn_0 rfl ?_
  refine ev_aload_n dX3_thinkOn_4 (pc' := 5) rfl rfl ?_
  refine ev_getR (y := 1) dX3_thinkOn_5 (pc' := 8) rfl fq_3_10 kn_0 rfl ?_
  obtain ⟨m1, x_m1, h⟩ := ob_of h
  refine ev_invV dX3_thinkOn_8 (pc' := 11) rfl sq_3_151 mt_X2_become rfl (arecv_ob (x := 11) rfl rfl (by decide) kn_11) ⟨_, rfl, Nat.le_of_ble_eq_true rfl, Nat.le_of_ble_eq_true rfl, rfl, rfl⟩ ?_
  refine X2_become_ca kn_11 kn_1 x_m1 ?_
  refine ev_r0 ?_
  refine ev_aload_n dX3_thinkOn_11 (pc' := 12) rfl rfl ?_
  refine ev_getR (y := 11) dX3_thinkOn_12 (pc' := 15) rfl fq_3_16 kn_0 rfl ?_
  refine ev_iload_n dX3_thinkOn_15 (pc' := 16) rfl rfl ?_
  obtain ⟨m2, x_m2, h⟩ := ob_of h
  refine ev_invV dX3_thinkOn_16 (pc' := 19) rfl sq_3_155 mt_X2_goOn rfl (arecv_ob (x := 11) rfl rfl (by decide) kn_11) ⟨_, rfl, Nat.le_of_ble_eq_true rfl, Nat.le_of_ble_eq_true rfl, rfl, rfl⟩ ?_
  refine X2_goOn_ca kn_11 x_m2 ?_
  refine ev_r0 ?_
  obtain rfl := rt1 h
  exact ev_return dX3_thinkOn_19 rfl q
def X3_behind (_o : Nat) (a1 : Int32) (a2 : Int32) (a3 : Int32) (mem : Mm) : Option (Int32 × Mm) := nm (X3_firstOf (X2_caskFault 1 a1 mem) (X3_yearsFault a2) (X3_whatFault a3 2)) (fun v1 => if v1 = 0 then (ob (X3_thinkOn 0 a2 mem) (fun m3 => ob (X2_at 11 a1) (fun y4 => if a3 = 0 then (some ((m3 y4 2), m3)) else (if a3 = 1 then (some ((m3 y4 3), m3)) else (some ((m3 y4 5), m3)))))) else (ob2 (X3_refuse 0 v1 mem) (fun y7 m8 => some (y7, m8))))
set_option maxRecDepth 100000 in
set_option maxHeartbeats 8000000 in
theorem X3_behind_ca {S : Sc} {d : Nat} {a1 : Int32} {a2 : Int32} {a3 : Int32} {mem : Mm} {rr : Int32} {mr : Mm} {Q : Po}  (h : X3_behind 0 a1 a2 a3 mem = some (rr, mr)) (q : Q (some (.int rr)) mr) : Ca S (d + 6) 58 [.ref 0, .int a1, .int a2, .int a3] mem Q := by
  unfold X3_behind at h
  refine ca_in (by decide) mt_X3_behind (Nat.le_of_ble_eq_true rfl) ?_
  show Ev S (d + 5) 3 cX3_behind (some .int) 0 [some (.ref 0), some (.int a1), some (.int a2), some (.int a3), none, none] [] mem Q
  refine ev_aload_n dX3_behind_0 (pc' := 1) rfl rfl ?_
  refine ev_getR (y := 1) dX3_behind_1 (pc' := 4) rfl fq_3_10 kn_0 rfl ?_
  refine ev_iload_n dX3_behind_4 (pc' := 5) rfl rfl ?_
  refine ev_invV dX3_behind_5 (pc' := 8) rfl sq_3_66 mt_X2_caskFault rfl (arecv_ob (x := 1) rfl rfl (by decide) kn_1) ⟨_, rfl, Nat.le_of_ble_eq_true rfl, Nat.le_of_ble_eq_true rfl, rfl, rfl⟩ ?_
  refine X2_caskFault_ca kn_1 rfl ?_
  refine ev_r1 ?_
  refine ev_iload_n dX3_behind_8 (pc' := 9) rfl rfl ?_
  refine ev_invS dX3_behind_9 (pc' := 12) rfl sq_3_118 mt_X3_yearsFault rfl ⟨_, rfl, Nat.le_of_ble_eq_true rfl, Nat.le_of_ble_eq_true rfl, rfl, rfl⟩ ?_
  refine X3_yearsFault_ca  rfl ?_
  refine ev_r1 ?_
  refine ev_iload_n dX3_behind_12 (pc' := 13) rfl rfl ?_
  refine ev_iconst dX3_behind_13 (pc' := 14) (v := 2) rfl (by decide) ?_
  refine ev_invS dX3_behind_14 (pc' := 17) rfl sq_3_69 mt_X3_whatFault rfl ⟨_, rfl, Nat.le_of_ble_eq_true rfl, Nat.le_of_ble_eq_true rfl, rfl, rfl⟩ ?_
  refine X3_whatFault_ca  rfl ?_
  refine ev_r1 ?_
  refine ev_invS dX3_behind_17 (pc' := 20) rfl sq_3_73 mt_X3_firstOf rfl ⟨_, rfl, Nat.le_of_ble_eq_true rfl, Nat.le_of_ble_eq_true rfl, rfl, rfl⟩ ?_
  refine X3_firstOf_ca  rfl ?_
  refine ev_r1 ?_
  refine ev_topi (fun v1 e_v1 => ?_)
  replace h := nm_at e_v1 h
  refine ev_istore dX3_behind_20 (pc' := 22) (ls' := [some (.ref 0), some (.int a1), some (.int a2), some (.int a3), some (.int v1), none]) rfl (Nat.le_of_ble_eq_true rfl) rfl ?_
  refine ev_iload dX3_behind_22 (pc' := 24) rfl rfl ?_
  refine ev_if_eq dX3_behind_24 (pc' := 27) rfl (t := 34) rfl (fun c2 => ?_) (fun c2 => ?_)
  · replace h := it_t c2 h
    refine ev_aload_n dX3_behind_34 (pc' := 35) rfl rfl ?_
    refine ev_iload_n dX3_behind_35 (pc' := 36) rfl rfl ?_
    obtain ⟨m3, x_m3, h⟩ := ob_of h
    refine ev_invV dX3_behind_36 (pc' := 39) rfl sq_3_121 mt_X3_thinkOn rfl (arecv_ob (x := 0) rfl rfl (by decide) kn_0) ⟨_, rfl, Nat.le_of_ble_eq_true rfl, Nat.le_of_ble_eq_true rfl, rfl, rfl⟩ ?_
    refine X3_thinkOn_ca  x_m3 ?_
    refine ev_r0 ?_
    refine ev_aload_n dX3_behind_39 (pc' := 40) rfl rfl ?_
    refine ev_getR (y := 11) dX3_behind_40 (pc' := 43) rfl fq_3_16 kn_0 rfl ?_
    refine ev_iload_n dX3_behind_43 (pc' := 44) rfl rfl ?_
    obtain ⟨y4, x_y4, h⟩ := ob_of h
    refine ev_invV dX3_behind_44 (pc' := 47) rfl sq_3_76 mt_X2_at rfl (arecv_ob (x := 11) rfl rfl (by decide) kn_11) ⟨_, rfl, Nat.le_of_ble_eq_true rfl, Nat.le_of_ble_eq_true rfl, rfl, rfl⟩ ?_
    refine X2_at_ca kn_11 x_y4 ?_
    refine ev_r1 ?_
    refine ev_astore dX3_behind_47 (pc' := 49) (ls' := [some (.ref 0), some (.int a1), some (.int a2), some (.int a3), some (.int v1), some (.ref y4)]) rfl (Nat.le_of_ble_eq_true rfl) rfl ?_
    refine ev_iload_n dX3_behind_49 (pc' := 50) rfl rfl ?_
    refine ev_if_ne dX3_behind_50 (pc' := 53) rfl (t := 61) rfl (fun c5 => ?_) (fun c5 => ?_)
    · replace h := it_f c5 h
      refine ev_iload_n dX3_behind_61 (pc' := 62) rfl rfl ?_
      refine ev_iconst dX3_behind_62 (pc' := 63) (v := 1) rfl (by decide) ?_
      refine ev_icmp_ne dX3_behind_63 (pc' := 66) rfl (t := 74) rfl (fun c6 => ?_) (fun c6 => ?_)
      · replace h := it_f c6 h
        refine ev_aload dX3_behind_74 (pc' := 76) rfl rfl ?_
        refine ev_get dX3_behind_76 (pc' := 79) rfl fq_3_97 (X2_at_kd kn_11 x_y4) rfl ?_
        obtain ⟨rfl, rfl⟩ := rt2 h
        exact ev_ireturn dX3_behind_79 rfl q
      · replace h := it_t c6 h
        refine ev_aload dX3_behind_66 (pc' := 68) rfl rfl ?_
        refine ev_get dX3_behind_68 (pc' := 71) rfl fq_3_91 (X2_at_kd kn_11 x_y4) rfl ?_
        refine ev_goto dX3_behind_71 (t := 79) rfl ?_
        obtain ⟨rfl, rfl⟩ := rt2 h
        exact ev_ireturn dX3_behind_79 rfl q
    · replace h := it_t c5 h
      refine ev_aload dX3_behind_53 (pc' := 55) rfl rfl ?_
      refine ev_get dX3_behind_55 (pc' := 58) rfl fq_3_88 (X2_at_kd kn_11 x_y4) rfl ?_
      refine ev_goto dX3_behind_58 (t := 79) rfl ?_
      obtain ⟨rfl, rfl⟩ := rt2 h
      exact ev_ireturn dX3_behind_79 rfl q
  · replace h := it_f c2 h
    refine ev_aload_n dX3_behind_27 (pc' := 28) rfl rfl ?_
    refine ev_iload dX3_behind_28 (pc' := 30) rfl rfl ?_
    obtain ⟨y7, m8, x_y7, h⟩ := ob2_of h
    refine ev_invV dX3_behind_30 (pc' := 33) rfl sq_3_56 mt_X3_refuse rfl (arecv_ob (x := 0) rfl rfl (by decide) kn_0) ⟨_, rfl, Nat.le_of_ble_eq_true rfl, Nat.le_of_ble_eq_true rfl, rfl, rfl⟩ ?_
    refine X3_refuse_ca  x_y7 ?_
    refine ev_r1 ?_
    obtain ⟨rfl, rfl⟩ := rt2 h
    exact ev_ireturn dX3_behind_33 rfl q
def X3_allBehind (_o : Nat) (a1 : Int32) (a2 : Int32) (mem : Mm) : Option (Int32 × Mm) := nm (X3_firstOf (X3_yearsFault a1) (X3_whatFault a2 2) 0) (fun v1 => if v1 = 0 then (ob (X3_thinkOn 0 a1 mem) (fun m3 => if a2 = 0 then (ob (X2_allAmounts 11 m3) (fun y5 => some (y5, m3))) else (if a2 = 1 then (ob (X2_allTaken 11 m3) (fun y7 => some (y7, m3))) else (ob (X2_fullest 11 m3) (fun y8 => some (y8, m3)))))) else (ob2 (X3_refuse 0 v1 mem) (fun y9 m10 => some (y9, m10))))
set_option maxRecDepth 100000 in
set_option maxHeartbeats 8000000 in
theorem X3_allBehind_ca {S : Sc} {d : Nat} {a1 : Int32} {a2 : Int32} {mem : Mm} {rr : Int32} {mr : Mm} {Q : Po}  (h : X3_allBehind 0 a1 a2 mem = some (rr, mr)) (q : Q (some (.int rr)) mr) : Ca S (d + 6) 59 [.ref 0, .int a1, .int a2] mem Q := by
  unfold X3_allBehind at h
  refine ca_in (by decide) mt_X3_allBehind (Nat.le_of_ble_eq_true rfl) ?_
  show Ev S (d + 5) 3 cX3_allBehind (some .int) 0 [some (.ref 0), some (.int a1), some (.int a2), none] [] mem Q
  refine ev_iload_n dX3_allBehind_0 (pc' := 1) rfl rfl ?_
  refine ev_invS dX3_allBehind_1 (pc' := 4) rfl sq_3_118 mt_X3_yearsFault rfl ⟨_, rfl, Nat.le_of_ble_eq_true rfl, Nat.le_of_ble_eq_true rfl, rfl, rfl⟩ ?_
  refine X3_yearsFault_ca  rfl ?_
  refine ev_r1 ?_
  refine ev_iload_n dX3_allBehind_4 (pc' := 5) rfl rfl ?_
  refine ev_iconst dX3_allBehind_5 (pc' := 6) (v := 2) rfl (by decide) ?_
  refine ev_invS dX3_allBehind_6 (pc' := 9) rfl sq_3_69 mt_X3_whatFault rfl ⟨_, rfl, Nat.le_of_ble_eq_true rfl, Nat.le_of_ble_eq_true rfl, rfl, rfl⟩ ?_
  refine X3_whatFault_ca  rfl ?_
  refine ev_r1 ?_
  refine ev_iconst dX3_allBehind_9 (pc' := 10) (v := 0) rfl (by decide) ?_
  refine ev_invS dX3_allBehind_10 (pc' := 13) rfl sq_3_73 mt_X3_firstOf rfl ⟨_, rfl, Nat.le_of_ble_eq_true rfl, Nat.le_of_ble_eq_true rfl, rfl, rfl⟩ ?_
  refine X3_firstOf_ca  rfl ?_
  refine ev_r1 ?_
  refine ev_topi (fun v1 e_v1 => ?_)
  replace h := nm_at e_v1 h
  refine ev_istore_n dX3_allBehind_13 (pc' := 14) (ls' := [some (.ref 0), some (.int a1), some (.int a2), some (.int v1)]) rfl (Nat.le_of_ble_eq_true rfl) rfl ?_
  refine ev_iload_n dX3_allBehind_14 (pc' := 15) rfl rfl ?_
  refine ev_if_eq dX3_allBehind_15 (pc' := 18) rfl (t := 24) rfl (fun c2 => ?_) (fun c2 => ?_)
  · replace h := it_t c2 h
    refine ev_aload_n dX3_allBehind_24 (pc' := 25) rfl rfl ?_
    refine ev_iload_n dX3_allBehind_25 (pc' := 26) rfl rfl ?_
    obtain ⟨m3, x_m3, h⟩ := ob_of h
    refine ev_invV dX3_allBehind_26 (pc' := 29) rfl sq_3_121 mt_X3_thinkOn rfl (arecv_ob (x := 0) rfl rfl (by decide) kn_0) ⟨_, rfl, Nat.le_of_ble_eq_true rfl, Nat.le_of_ble_eq_true rfl, rfl, rfl⟩ ?_
    refine X3_thinkOn_ca  x_m3 ?_
    refine ev_r0 ?_
    refine ev_iload_n dX3_allBehind_29 (pc' := 30) rfl rfl ?_
    refine ev_if_ne dX3_allBehind_30 (pc' := 33) rfl (t := 43) rfl (fun c4 => ?_) (fun c4 => ?_)
    · replace h := it_f c4 h
      refine ev_iload_n dX3_allBehind_43 (pc' := 44) rfl rfl ?_
      refine ev_iconst dX3_allBehind_44 (pc' := 45) (v := 1) rfl (by decide) ?_
      refine ev_icmp_ne dX3_allBehind_45 (pc' := 48) rfl (t := 58) rfl (fun c6 => ?_) (fun c6 => ?_)
      · replace h := it_f c6 h
        refine ev_aload_n dX3_allBehind_58 (pc' := 59) rfl rfl ?_
        refine ev_getR (y := 11) dX3_allBehind_59 (pc' := 62) rfl fq_3_16 kn_0 rfl ?_
        obtain ⟨y8, x_y8, h⟩ := ob_of h
        refine ev_invV dX3_allBehind_62 (pc' := 65) rfl sq_3_131 mt_X2_fullest rfl (arecv_ob (x := 11) rfl rfl (by decide) kn_11) ⟨_, rfl, Nat.le_of_ble_eq_true rfl, Nat.le_of_ble_eq_true rfl, rfl, rfl⟩ ?_
        refine X2_fullest_ca kn_11 x_y8 ?_
        refine ev_r1 ?_
        obtain ⟨rfl, rfl⟩ := rt2 h
        exact ev_ireturn dX3_allBehind_65 rfl q
      · replace h := it_t c6 h
        refine ev_aload_n dX3_allBehind_48 (pc' := 49) rfl rfl ?_
        refine ev_getR (y := 11) dX3_allBehind_49 (pc' := 52) rfl fq_3_16 kn_0 rfl ?_
        obtain ⟨y7, x_y7, h⟩ := ob_of h
        refine ev_invV dX3_allBehind_52 (pc' := 55) rfl sq_3_128 mt_X2_allTaken rfl (arecv_ob (x := 11) rfl rfl (by decide) kn_11) ⟨_, rfl, Nat.le_of_ble_eq_true rfl, Nat.le_of_ble_eq_true rfl, rfl, rfl⟩ ?_
        refine X2_allTaken_ca kn_11 x_y7 ?_
        refine ev_r1 ?_
        refine ev_goto dX3_allBehind_55 (t := 65) rfl ?_
        obtain ⟨rfl, rfl⟩ := rt2 h
        exact ev_ireturn dX3_allBehind_65 rfl q
    · replace h := it_t c4 h
      refine ev_aload_n dX3_allBehind_33 (pc' := 34) rfl rfl ?_
      refine ev_getR (y := 11) dX3_allBehind_34 (pc' := 37) rfl fq_3_16 kn_0 rfl ?_
      obtain ⟨y5, x_y5, h⟩ := ob_of h
      refine ev_invV dX3_allBehind_37 (pc' := 40) rfl sq_3_125 mt_X2_allAmounts rfl (arecv_ob (x := 11) rfl rfl (by decide) kn_11) ⟨_, rfl, Nat.le_of_ble_eq_true rfl, Nat.le_of_ble_eq_true rfl, rfl, rfl⟩ ?_
      refine X2_allAmounts_ca kn_11 x_y5 ?_
      refine ev_r1 ?_
      refine ev_goto dX3_allBehind_40 (t := 65) rfl ?_
      obtain ⟨rfl, rfl⟩ := rt2 h
      exact ev_ireturn dX3_allBehind_65 rfl q
  · replace h := it_f c2 h
    refine ev_aload_n dX3_allBehind_18 (pc' := 19) rfl rfl ?_
    refine ev_iload_n dX3_allBehind_19 (pc' := 20) rfl rfl ?_
    obtain ⟨y9, m10, x_y9, h⟩ := ob2_of h
    refine ev_invV dX3_allBehind_20 (pc' := 23) rfl sq_3_56 mt_X3_refuse rfl (arecv_ob (x := 0) rfl rfl (by decide) kn_0) ⟨_, rfl, Nat.le_of_ble_eq_true rfl, Nat.le_of_ble_eq_true rfl, rfl, rfl⟩ ?_
    refine X3_refuse_ca  x_y9 ?_
    refine ev_r1 ?_
    obtain ⟨rfl, rfl⟩ := rt2 h
    exact ev_ireturn dX3_allBehind_23 rfl q
def X3_caskOrAllFault (_o : Nat) (a1 : Int32) (mem : Mm) : Int32 := if a1 = (-1) then (0) else ((X2_caskFault 1 a1 mem))
set_option maxRecDepth 100000 in
set_option maxHeartbeats 8000000 in
theorem X3_caskOrAllFault_ca {S : Sc} {d : Nat} {a1 : Int32} {mem : Mm} {rr : Int32} {Q : Po}  (h : X3_caskOrAllFault 0 a1 mem = rr) (q : Q (some (.int rr)) mem) : Ca S (d + 2) 89 [.ref 0, .int a1] mem Q := by
  unfold X3_caskOrAllFault at h
  refine ca_in (by decide) mt_X3_caskOrAllFault (Nat.le_of_ble_eq_true rfl) ?_
  show Ev S (d + 1) 3 cX3_caskOrAllFault (some .int) 0 [some (.ref 0), some (.int a1)] [] mem Q
  refine ev_iload_n dX3_caskOrAllFault_0 (pc' := 1) rfl rfl ?_
  refine ev_iconst dX3_caskOrAllFault_1 (pc' := 2) (v := (-1)) rfl (by decide) ?_
  refine ev_icmp_ne dX3_caskOrAllFault_2 (pc' := 5) rfl (t := 9) rfl (fun c1 => ?_) (fun c1 => ?_)
  · replace h := it_f c1 h
    refine ev_aload_n dX3_caskOrAllFault_9 (pc' := 10) rfl rfl ?_
    refine ev_getR (y := 1) dX3_caskOrAllFault_10 (pc' := 13) rfl fq_3_10 kn_0 rfl ?_
    refine ev_iload_n dX3_caskOrAllFault_13 (pc' := 14) rfl rfl ?_
    refine ev_invV dX3_caskOrAllFault_14 (pc' := 17) rfl sq_3_66 mt_X2_caskFault rfl (arecv_ob (x := 1) rfl rfl (by decide) kn_1) ⟨_, rfl, Nat.le_of_ble_eq_true rfl, Nat.le_of_ble_eq_true rfl, rfl, rfl⟩ ?_
    refine X2_caskFault_ca kn_1 rfl ?_
    refine ev_r1 ?_
    obtain rfl := h
    exact ev_ireturn dX3_caskOrAllFault_17 rfl q
  · replace h := it_t c1 h
    refine ev_iconst dX3_caskOrAllFault_5 (pc' := 6) (v := 0) rfl (by decide) ?_
    refine ev_goto dX3_caskOrAllFault_6 (t := 17) rfl ?_
    obtain rfl := h
    exact ev_ireturn dX3_caskOrAllFault_17 rfl q
def X3_refuseLong (_o : Nat) (a1 : Int32) (mem : Mm) : Option (Int64 × Mm) := ob2 (X3_refuse 0 a1 mem) (fun y1 m2 => some ((4000000000000000000 - (y1).toInt64), m2))
set_option maxRecDepth 100000 in
set_option maxHeartbeats 8000000 in
theorem X3_refuseLong_ca {S : Sc} {d : Nat} {a1 : Int32} {mem : Mm} {rr : Int64} {mr : Mm} {Q : Po}  (h : X3_refuseLong 0 a1 mem = some (rr, mr)) (q : Q (some (.long rr)) mr) : Ca S (d + 2) 83 [.ref 0, .int a1] mem Q := by
  unfold X3_refuseLong at h
  refine ca_in (by decide) mt_X3_refuseLong (Nat.le_of_ble_eq_true rfl) ?_
  show Ev S (d + 1) 3 cX3_refuseLong (some .long) 0 [some (.ref 0), some (.int a1)] [] mem Q
  refine ev_ldc2 dX3_refuseLong_0 (pc' := 3) rfl lq_3_246 ?_
  refine ev_aload_n dX3_refuseLong_3 (pc' := 4) rfl rfl ?_
  refine ev_iload_n dX3_refuseLong_4 (pc' := 5) rfl rfl ?_
  obtain ⟨y1, m2, x_y1, h⟩ := ob2_of h
  refine ev_invV dX3_refuseLong_5 (pc' := 8) rfl sq_3_56 mt_X3_refuse rfl (arecv_ob (x := 0) rfl rfl (by decide) kn_0) ⟨_, rfl, Nat.le_of_ble_eq_true rfl, Nat.le_of_ble_eq_true rfl, rfl, rfl⟩ ?_
  refine X3_refuse_ca  x_y1 ?_
  refine ev_r1 ?_
  refine ev_i2l dX3_refuseLong_8 (pc' := 9) rfl ?_
  refine ev_lsub dX3_refuseLong_9 (pc' := 10) rfl ?_
  obtain ⟨rfl, rfl⟩ := rt2 h
  exact ev_lreturn dX3_refuseLong_10 rfl q
def X3_commonDivisor_L9   : Nat → Int64 → Int64 → Int32 → Option Int64
  | 0, _, _, _ => none
  | n + 1, w1, w2, w3 => if 100 ≤ w3 then (some w1) else (if (lg_cmp w2 0) = 0 then (some w1) else (gd (¬ w2 = 0) (nm (airemL w1 w2) (fun v8 => nm (w3 + 1) (fun v9 => X3_commonDivisor_L9  n w2 v8 v9)))))
def X3_commonDivisor (a1 : Int64) (a2 : Int64) : Option Int64 := X3_commonDivisor_L9  LF a1 a2 0
set_option maxRecDepth 100000 in
set_option maxHeartbeats 8000000 in
theorem X3_commonDivisor_L9_ev {S : Sc} {d : Nat}   {m4 : Mm} {rr : Int64} {Q : Po}  (q : Q (some (.long rr)) m4) : ∀ (n : Nat) (w1 : Int64) (w2 : Int64) (w3 : Int32), X3_commonDivisor_L9  n w1 w2 w3 = some rr → Ev S (d + 0) 3 cX3_commonDivisor (some .long) 9 [none, none, none, none, some (.long w1), none, some (.long w2), none, some (.int w3), none, none] [] m4 Q := by
  intro n
  induction n with
  | zero => intro w1 w2 w3 h; cases h
  | succ n ih =>
    intro w1 w2 w3 h
    unfold X3_commonDivisor_L9 at h
    refine ev_iload dX3_commonDivisor_9 (pc' := 11) rfl rfl ?_
    refine ev_bipush dX3_commonDivisor_11 (pc' := 13) (v := 100) rfl (by decide) ?_
    refine ev_icmp_ge dX3_commonDivisor_13 (pc' := 16) rfl (t := 44) rfl (fun c5 => ?_) (fun c5 => ?_)
    · replace h := it_t c5 h
      refine ev_lload dX3_commonDivisor_44 (pc' := 46) rfl rfl ?_
      obtain rfl := rt1 h
      exact ev_lreturn dX3_commonDivisor_46 rfl q
    · replace h := it_f c5 h
      refine ev_lload dX3_commonDivisor_16 (pc' := 18) rfl rfl ?_
      refine ev_lconst dX3_commonDivisor_18 (pc' := 19) (v := 0) rfl (by decide) ?_
      refine ev_lcmp dX3_commonDivisor_19 (pc' := 20) rfl ?_
      refine ev_if_eq dX3_commonDivisor_20 (pc' := 23) rfl (t := 44) rfl (fun c6 => ?_) (fun c6 => ?_)
      · replace h := it_t c6 h
        refine ev_lload dX3_commonDivisor_44 (pc' := 46) rfl rfl ?_
        obtain rfl := rt1 h
        exact ev_lreturn dX3_commonDivisor_46 rfl q
      · replace h := it_f c6 h
        refine ev_lload dX3_commonDivisor_23 (pc' := 25) rfl rfl ?_
        refine ev_lload dX3_commonDivisor_25 (pc' := 27) rfl rfl ?_
        obtain ⟨g7, h⟩ := gd_of h
        refine ev_lrem dX3_commonDivisor_27 (pc' := 28) rfl g7 ?_
        refine ev_topl (fun v8 e_v8 => ?_)
        replace h := nm_at e_v8 h
        refine ev_lstore dX3_commonDivisor_28 (pc' := 30) (ls' := [none, none, none, none, some (.long w1), none, some (.long w2), none, some (.int w3), some (.long v8), none]) rfl (Nat.le_of_ble_eq_true rfl) rfl ?_
        refine ev_lload dX3_commonDivisor_30 (pc' := 32) rfl rfl ?_
        refine ev_lstore dX3_commonDivisor_32 (pc' := 34) (ls' := [none, none, none, none, some (.long w2), none, some (.long w2), none, some (.int w3), some (.long v8), none]) rfl (Nat.le_of_ble_eq_true rfl) rfl ?_
        refine ev_lload dX3_commonDivisor_34 (pc' := 36) rfl rfl ?_
        refine ev_lstore dX3_commonDivisor_36 (pc' := 38) (ls' := [none, none, none, none, some (.long w2), none, some (.long v8), none, some (.int w3), some (.long v8), none]) rfl (Nat.le_of_ble_eq_true rfl) rfl ?_
        obtain ⟨v9, e_v9⟩ : ∃ y : Int32, y = (w3 + 1) := ⟨_, rfl⟩
        replace h := nm_at e_v9 h
        refine ev_iinc dX3_commonDivisor_38 (pc' := 41) (v := v9) (ls' := [none, none, none, none, some (.long w2), none, some (.long v8), none, some (.int v9), some (.long v8), none]) rfl rfl (by rw [e_v9]; rfl) (Nat.le_of_ble_eq_true rfl) rfl ?_
        refine ev_goto dX3_commonDivisor_41 (t := 9) rfl ?_
        exact ev_sub (lsub_c (lsub_c (lsub_c (lsub_c (lsub_c (lsub_c (lsub_c (lsub_c (lsub_c (lsub_n (lsub_c lsub_nil))))))))))) (ih w2 v8 v9 h)
set_option maxRecDepth 100000 in
set_option maxHeartbeats 8000000 in
theorem X3_commonDivisor_ca {S : Sc} {d : Nat} {a1 : Int64} {a2 : Int64} {mem : Mm} {rr : Int64} {Q : Po}  (h : X3_commonDivisor a1 a2 = some rr) (q : Q (some (.long rr)) mem) : Ca S (d + 1) 109 [.long a1, .long a2] mem Q := by
  unfold X3_commonDivisor at h
  refine ca_in (by decide) mt_X3_commonDivisor (Nat.le_of_ble_eq_true rfl) ?_
  show Ev S (d + 0) 3 cX3_commonDivisor (some .long) 0 [some (.long a1), none, some (.long a2), none, none, none, none, none, none, none, none] [] mem Q
  refine ev_lload_n dX3_commonDivisor_0 (pc' := 1) rfl rfl ?_
  refine ev_lstore dX3_commonDivisor_1 (pc' := 3) (ls' := [some (.long a1), none, some (.long a2), none, some (.long a1), none, none, none, none, none, none]) rfl (Nat.le_of_ble_eq_true rfl) rfl ?_
  refine ev_lload_n dX3_commonDivisor_3 (pc' := 4) rfl rfl ?_
  refine ev_lstore dX3_commonDivisor_4 (pc' := 6) (ls' := [some (.long a1), none, some (.long a2), none, some (.long a1), none, some (.long a2), none, none, none, none]) rfl (Nat.le_of_ble_eq_true rfl) rfl ?_
  refine ev_iconst dX3_commonDivisor_6 (pc' := 7) (v := 0) rfl (by decide) ?_
  refine ev_istore dX3_commonDivisor_7 (pc' := 9) (ls' := [some (.long a1), none, some (.long a2), none, some (.long a1), none, some (.long a2), none, some (.int 0), none, none]) rfl (Nat.le_of_ble_eq_true rfl) rfl ?_
  exact ev_sub (lsub_n (lsub_c (lsub_n (lsub_c (lsub_c (lsub_c (lsub_c (lsub_c (lsub_c (lsub_c (lsub_c lsub_nil))))))))))) (X3_commonDivisor_L9_ev  q LF a1 a2 0 h)
def X3_partOf (a1 : Int64) (a2 : Int64) (a3 : Int32) : Option Int64 := if (lg_cmp a1 0) = 0 then (some (a3).toInt64) else (ob (X3_commonDivisor a1 a2) (fun y2 => if (lg_cmp y2 0) = 0 then (some 0) else (if a3 = 0 then (gd (¬ y2 = 0) (some (a1 / y2))) else (gd (¬ y2 = 0) (some (a2 / y2))))))
set_option maxRecDepth 100000 in
set_option maxHeartbeats 8000000 in
theorem X3_partOf_ca {S : Sc} {d : Nat} {a1 : Int64} {a2 : Int64} {a3 : Int32} {mem : Mm} {rr : Int64} {Q : Po}  (h : X3_partOf a1 a2 a3 = some rr) (q : Q (some (.long rr)) mem) : Ca S (d + 2) 108 [.long a1, .long a2, .int a3] mem Q := by
  unfold X3_partOf at h
  refine ca_in (by decide) mt_X3_partOf (Nat.le_of_ble_eq_true rfl) ?_
  show Ev S (d + 1) 3 cX3_partOf (some .long) 0 [some (.long a1), none, some (.long a2), none, some (.int a3), none, none] [] mem Q
  refine ev_lload_n dX3_partOf_0 (pc' := 1) rfl rfl ?_
  refine ev_lconst dX3_partOf_1 (pc' := 2) (v := 0) rfl (by decide) ?_
  refine ev_lcmp dX3_partOf_2 (pc' := 3) rfl ?_
  refine ev_if_ne dX3_partOf_3 (pc' := 6) rfl (t := 10) rfl (fun c1 => ?_) (fun c1 => ?_)
  · replace h := it_f c1 h
    refine ev_lload_n dX3_partOf_10 (pc' := 11) rfl rfl ?_
    refine ev_lload_n dX3_partOf_11 (pc' := 12) rfl rfl ?_
    obtain ⟨y2, x_y2, h⟩ := ob_of h
    refine ev_invS dX3_partOf_12 (pc' := 15) rfl sq_3_288 mt_X3_commonDivisor rfl ⟨_, rfl, Nat.le_of_ble_eq_true rfl, Nat.le_of_ble_eq_true rfl, rfl, rfl⟩ ?_
    refine X3_commonDivisor_ca  x_y2 ?_
    refine ev_r1 ?_
    refine ev_lstore dX3_partOf_15 (pc' := 17) (ls' := [some (.long a1), none, some (.long a2), none, some (.int a3), some (.long y2), none]) rfl (Nat.le_of_ble_eq_true rfl) rfl ?_
    refine ev_lload dX3_partOf_17 (pc' := 19) rfl rfl ?_
    refine ev_lconst dX3_partOf_19 (pc' := 20) (v := 0) rfl (by decide) ?_
    refine ev_lcmp dX3_partOf_20 (pc' := 21) rfl ?_
    refine ev_if_ne dX3_partOf_21 (pc' := 24) rfl (t := 28) rfl (fun c3 => ?_) (fun c3 => ?_)
    · replace h := it_f c3 h
      refine ev_iload dX3_partOf_28 (pc' := 30) rfl rfl ?_
      refine ev_if_ne dX3_partOf_30 (pc' := 33) rfl (t := 37) rfl (fun c4 => ?_) (fun c4 => ?_)
      · replace h := it_f c4 h
        refine ev_lload_n dX3_partOf_37 (pc' := 38) rfl rfl ?_
        refine ev_lload dX3_partOf_38 (pc' := 40) rfl rfl ?_
        obtain ⟨g6, h⟩ := gd_of h
        refine ev_ldiv dX3_partOf_40 (pc' := 41) rfl g6 ?_
        obtain rfl := rt1 h
        exact ev_lreturn dX3_partOf_41 rfl q
      · replace h := it_t c4 h
        refine ev_lload_n dX3_partOf_33 (pc' := 34) rfl rfl ?_
        refine ev_goto dX3_partOf_34 (t := 38) rfl ?_
        refine ev_lload dX3_partOf_38 (pc' := 40) rfl rfl ?_
        obtain ⟨g5, h⟩ := gd_of h
        refine ev_ldiv dX3_partOf_40 (pc' := 41) rfl g5 ?_
        obtain rfl := rt1 h
        exact ev_lreturn dX3_partOf_41 rfl q
    · replace h := it_t c3 h
      refine ev_lconst dX3_partOf_24 (pc' := 25) (v := 0) rfl (by decide) ?_
      refine ev_goto dX3_partOf_25 (t := 41) rfl ?_
      obtain rfl := rt1 h
      exact ev_lreturn dX3_partOf_41 rfl q
  · replace h := it_t c1 h
    refine ev_iload dX3_partOf_6 (pc' := 8) rfl rfl ?_
    refine ev_i2l dX3_partOf_8 (pc' := 9) rfl ?_
    obtain rfl := rt1 h
    exact ev_lreturn dX3_partOf_9 rfl q
def X3_theirs (_o : Nat) (a1 : Int32) (a2 : Int32) (a3 : Int32) (mem : Mm) : Option (Int64 × Mm) := nm (X3_firstOf (X3_caskOrAllFault 0 a1 mem) (X3_yearsFault a2) (X3_whatFault a3 1)) (fun v1 => if v1 = 0 then (ob (X3_thinkOn 0 a2 mem) (fun m3 => if 0 ≤ a1 then (ob (X2_at 11 a1) (fun y5 => nm ((m3 y5 2)).toInt64 (fun v6 => ob (X2_at 11 a1) (fun y7 => nm ((m3 y7 5)).toInt64 (fun v8 => ob (X3_partOf v8 (v6 + v8) a3) (fun y9 => some (y9, m3))))))) else (ob (X2_allAmounts 11 m3) (fun y10 => nm (y10).toInt64 (fun v11 => ob (X2_allTaken 11 m3) (fun y12 => nm (y12).toInt64 (fun v13 => ob (X3_partOf v13 (v11 + v13) a3) (fun y14 => some (y14, m3))))))))) else (ob2 (X3_refuseLong 0 v1 mem) (fun y15 m16 => some (y15, m16))))
set_option maxRecDepth 100000 in
set_option maxHeartbeats 8000000 in
theorem X3_theirs_ca {S : Sc} {d : Nat} {a1 : Int32} {a2 : Int32} {a3 : Int32} {mem : Mm} {rr : Int64} {mr : Mm} {Q : Po}  (h : X3_theirs 0 a1 a2 a3 mem = some (rr, mr)) (q : Q (some (.long rr)) mr) : Ca S (d + 6) 60 [.ref 0, .int a1, .int a2, .int a3] mem Q := by
  unfold X3_theirs at h
  refine ca_in (by decide) mt_X3_theirs (Nat.le_of_ble_eq_true rfl) ?_
  show Ev S (d + 5) 3 cX3_theirs (some .long) 0 [some (.ref 0), some (.int a1), some (.int a2), some (.int a3), none, none, none, none, none] [] mem Q
  refine ev_aload_n dX3_theirs_0 (pc' := 1) rfl rfl ?_
  refine ev_iload_n dX3_theirs_1 (pc' := 2) rfl rfl ?_
  refine ev_invV dX3_theirs_2 (pc' := 5) rfl sq_3_134 mt_X3_caskOrAllFault rfl (arecv_ob (x := 0) rfl rfl (by decide) kn_0) ⟨_, rfl, Nat.le_of_ble_eq_true rfl, Nat.le_of_ble_eq_true rfl, rfl, rfl⟩ ?_
  refine X3_caskOrAllFault_ca  rfl ?_
  refine ev_r1 ?_
  refine ev_iload_n dX3_theirs_5 (pc' := 6) rfl rfl ?_
  refine ev_invS dX3_theirs_6 (pc' := 9) rfl sq_3_118 mt_X3_yearsFault rfl ⟨_, rfl, Nat.le_of_ble_eq_true rfl, Nat.le_of_ble_eq_true rfl, rfl, rfl⟩ ?_
  refine X3_yearsFault_ca  rfl ?_
  refine ev_r1 ?_
  refine ev_iload_n dX3_theirs_9 (pc' := 10) rfl rfl ?_
  refine ev_iconst dX3_theirs_10 (pc' := 11) (v := 1) rfl (by decide) ?_
  refine ev_invS dX3_theirs_11 (pc' := 14) rfl sq_3_69 mt_X3_whatFault rfl ⟨_, rfl, Nat.le_of_ble_eq_true rfl, Nat.le_of_ble_eq_true rfl, rfl, rfl⟩ ?_
  refine X3_whatFault_ca  rfl ?_
  refine ev_r1 ?_
  refine ev_invS dX3_theirs_14 (pc' := 17) rfl sq_3_73 mt_X3_firstOf rfl ⟨_, rfl, Nat.le_of_ble_eq_true rfl, Nat.le_of_ble_eq_true rfl, rfl, rfl⟩ ?_
  refine X3_firstOf_ca  rfl ?_
  refine ev_r1 ?_
  refine ev_topi (fun v1 e_v1 => ?_)
  replace h := nm_at e_v1 h
  refine ev_istore dX3_theirs_17 (pc' := 19) (ls' := [some (.ref 0), some (.int a1), some (.int a2), some (.int a3), some (.int v1), none, none, none, none]) rfl (Nat.le_of_ble_eq_true rfl) rfl ?_
  refine ev_iload dX3_theirs_19 (pc' := 21) rfl rfl ?_
  refine ev_if_eq dX3_theirs_21 (pc' := 24) rfl (t := 31) rfl (fun c2 => ?_) (fun c2 => ?_)
  · replace h := it_t c2 h
    refine ev_aload_n dX3_theirs_31 (pc' := 32) rfl rfl ?_
    refine ev_iload_n dX3_theirs_32 (pc' := 33) rfl rfl ?_
    obtain ⟨m3, x_m3, h⟩ := ob_of h
    refine ev_invV dX3_theirs_33 (pc' := 36) rfl sq_3_121 mt_X3_thinkOn rfl (arecv_ob (x := 0) rfl rfl (by decide) kn_0) ⟨_, rfl, Nat.le_of_ble_eq_true rfl, Nat.le_of_ble_eq_true rfl, rfl, rfl⟩ ?_
    refine X3_thinkOn_ca  x_m3 ?_
    refine ev_r0 ?_
    refine ev_iload_n dX3_theirs_36 (pc' := 37) rfl rfl ?_
    refine ev_if_ge dX3_theirs_37 (pc' := 40) rfl (t := 51) rfl (fun c4 => ?_) (fun c4 => ?_)
    · replace h := it_t c4 h
      refine ev_aload_n dX3_theirs_51 (pc' := 52) rfl rfl ?_
      refine ev_getR (y := 11) dX3_theirs_52 (pc' := 55) rfl fq_3_16 kn_0 rfl ?_
      refine ev_iload_n dX3_theirs_55 (pc' := 56) rfl rfl ?_
      obtain ⟨y5, x_y5, h⟩ := ob_of h
      refine ev_invV dX3_theirs_56 (pc' := 59) rfl sq_3_76 mt_X2_at rfl (arecv_ob (x := 11) rfl rfl (by decide) kn_11) ⟨_, rfl, Nat.le_of_ble_eq_true rfl, Nat.le_of_ble_eq_true rfl, rfl, rfl⟩ ?_
      refine X2_at_ca kn_11 x_y5 ?_
      refine ev_r1 ?_
      refine ev_get dX3_theirs_59 (pc' := 62) rfl fq_3_88 (X2_at_kd kn_11 x_y5) rfl ?_
      refine ev_i2l dX3_theirs_62 (pc' := 63) rfl ?_
      refine ev_topl (fun v6 e_v6 => ?_)
      replace h := nm_at e_v6 h
      refine ev_lstore dX3_theirs_63 (pc' := 65) (ls' := [some (.ref 0), some (.int a1), some (.int a2), some (.int a3), some (.int v1), some (.long v6), none, none, none]) rfl (Nat.le_of_ble_eq_true rfl) rfl ?_
      refine ev_iload_n dX3_theirs_65 (pc' := 66) rfl rfl ?_
      refine ev_if_ge dX3_theirs_66 (pc' := 69) rfl (t := 80) rfl (fun _ => ?_) (fun q => absurd c4 q)
      refine ev_aload_n dX3_theirs_80 (pc' := 81) rfl rfl ?_
      refine ev_getR (y := 11) dX3_theirs_81 (pc' := 84) rfl fq_3_16 kn_0 rfl ?_
      refine ev_iload_n dX3_theirs_84 (pc' := 85) rfl rfl ?_
      obtain ⟨y7, x_y7, h⟩ := ob_of h
      refine ev_invV dX3_theirs_85 (pc' := 88) rfl sq_3_76 mt_X2_at rfl (arecv_ob (x := 11) rfl rfl (by decide) kn_11) ⟨_, rfl, Nat.le_of_ble_eq_true rfl, Nat.le_of_ble_eq_true rfl, rfl, rfl⟩ ?_
      refine X2_at_ca kn_11 x_y7 ?_
      refine ev_r1 ?_
      refine ev_get dX3_theirs_88 (pc' := 91) rfl fq_3_97 (X2_at_kd kn_11 x_y7) rfl ?_
      refine ev_i2l dX3_theirs_91 (pc' := 92) rfl ?_
      refine ev_topl (fun v8 e_v8 => ?_)
      replace h := nm_at e_v8 h
      refine ev_lstore dX3_theirs_92 (pc' := 94) (ls' := [some (.ref 0), some (.int a1), some (.int a2), some (.int a3), some (.int v1), some (.long v6), none, some (.long v8), none]) rfl (Nat.le_of_ble_eq_true rfl) rfl ?_
      refine ev_lload dX3_theirs_94 (pc' := 96) rfl rfl ?_
      refine ev_lload dX3_theirs_96 (pc' := 98) rfl rfl ?_
      refine ev_lload dX3_theirs_98 (pc' := 100) rfl rfl ?_
      refine ev_ladd dX3_theirs_100 (pc' := 101) rfl ?_
      refine ev_iload_n dX3_theirs_101 (pc' := 102) rfl rfl ?_
      obtain ⟨y9, x_y9, h⟩ := ob_of h
      refine ev_invS dX3_theirs_102 (pc' := 105) rfl sq_3_141 mt_X3_partOf rfl ⟨_, rfl, Nat.le_of_ble_eq_true rfl, Nat.le_of_ble_eq_true rfl, rfl, rfl⟩ ?_
      refine X3_partOf_ca  x_y9 ?_
      refine ev_r1 ?_
      obtain ⟨rfl, rfl⟩ := rt2 h
      exact ev_lreturn dX3_theirs_105 rfl q
    · replace h := it_f c4 h
      refine ev_aload_n dX3_theirs_40 (pc' := 41) rfl rfl ?_
      refine ev_getR (y := 11) dX3_theirs_41 (pc' := 44) rfl fq_3_16 kn_0 rfl ?_
      obtain ⟨y10, x_y10, h⟩ := ob_of h
      refine ev_invV dX3_theirs_44 (pc' := 47) rfl sq_3_125 mt_X2_allAmounts rfl (arecv_ob (x := 11) rfl rfl (by decide) kn_11) ⟨_, rfl, Nat.le_of_ble_eq_true rfl, Nat.le_of_ble_eq_true rfl, rfl, rfl⟩ ?_
      refine X2_allAmounts_ca kn_11 x_y10 ?_
      refine ev_r1 ?_
      refine ev_i2l dX3_theirs_47 (pc' := 48) rfl ?_
      refine ev_goto dX3_theirs_48 (t := 63) rfl ?_
      refine ev_topl (fun v11 e_v11 => ?_)
      replace h := nm_at e_v11 h
      refine ev_lstore dX3_theirs_63 (pc' := 65) (ls' := [some (.ref 0), some (.int a1), some (.int a2), some (.int a3), some (.int v1), some (.long v11), none, none, none]) rfl (Nat.le_of_ble_eq_true rfl) rfl ?_
      refine ev_iload_n dX3_theirs_65 (pc' := 66) rfl rfl ?_
      refine ev_if_ge dX3_theirs_66 (pc' := 69) rfl (t := 80) rfl (fun q => absurd q c4) (fun _ => ?_)
      refine ev_aload_n dX3_theirs_69 (pc' := 70) rfl rfl ?_
      refine ev_getR (y := 11) dX3_theirs_70 (pc' := 73) rfl fq_3_16 kn_0 rfl ?_
      obtain ⟨y12, x_y12, h⟩ := ob_of h
      refine ev_invV dX3_theirs_73 (pc' := 76) rfl sq_3_128 mt_X2_allTaken rfl (arecv_ob (x := 11) rfl rfl (by decide) kn_11) ⟨_, rfl, Nat.le_of_ble_eq_true rfl, Nat.le_of_ble_eq_true rfl, rfl, rfl⟩ ?_
      refine X2_allTaken_ca kn_11 x_y12 ?_
      refine ev_r1 ?_
      refine ev_i2l dX3_theirs_76 (pc' := 77) rfl ?_
      refine ev_goto dX3_theirs_77 (t := 92) rfl ?_
      refine ev_topl (fun v13 e_v13 => ?_)
      replace h := nm_at e_v13 h
      refine ev_lstore dX3_theirs_92 (pc' := 94) (ls' := [some (.ref 0), some (.int a1), some (.int a2), some (.int a3), some (.int v1), some (.long v11), none, some (.long v13), none]) rfl (Nat.le_of_ble_eq_true rfl) rfl ?_
      refine ev_lload dX3_theirs_94 (pc' := 96) rfl rfl ?_
      refine ev_lload dX3_theirs_96 (pc' := 98) rfl rfl ?_
      refine ev_lload dX3_theirs_98 (pc' := 100) rfl rfl ?_
      refine ev_ladd dX3_theirs_100 (pc' := 101) rfl ?_
      refine ev_iload_n dX3_theirs_101 (pc' := 102) rfl rfl ?_
      obtain ⟨y14, x_y14, h⟩ := ob_of h
      refine ev_invS dX3_theirs_102 (pc' := 105) rfl sq_3_141 mt_X3_partOf rfl ⟨_, rfl, Nat.le_of_ble_eq_true rfl, Nat.le_of_ble_eq_true rfl, rfl, rfl⟩ ?_
      refine X3_partOf_ca  x_y14 ?_
      refine ev_r1 ?_
      obtain ⟨rfl, rfl⟩ := rt2 h
      exact ev_lreturn dX3_theirs_105 rfl q
  · replace h := it_f c2 h
    refine ev_aload_n dX3_theirs_24 (pc' := 25) rfl rfl ?_
    refine ev_iload dX3_theirs_25 (pc' := 27) rfl rfl ?_
    obtain ⟨y15, m16, x_y15, h⟩ := ob2_of h
    refine ev_invV dX3_theirs_27 (pc' := 30) rfl sq_3_137 mt_X3_refuseLong rfl (arecv_ob (x := 0) rfl rfl (by decide) kn_0) ⟨_, rfl, Nat.le_of_ble_eq_true rfl, Nat.le_of_ble_eq_true rfl, rfl, rfl⟩ ?_
    refine X3_refuseLong_ca  x_y15 ?_
    refine ev_r1 ?_
    obtain ⟨rfl, rfl⟩ := rt2 h
    exact ev_lreturn dX3_theirs_30 rfl q
def X3_excise (_o : Nat) (a1 : Int32) (mem : Mm) : Option (Int32 × Mm) := nm (X3_caskOrAllFault 0 a1 mem) (fun v1 => if v1 = 0 then (if 0 ≤ a1 then (ob (X2_dutyOf 1 a1 mem) (fun y4 => some (y4, mem))) else (ob (X2_dutyOfAll 1 mem) (fun y5 => some (y5, mem)))) else (ob2 (X3_refuse 0 v1 mem) (fun y6 m7 => some (y6, m7))))
set_option maxRecDepth 100000 in
set_option maxHeartbeats 8000000 in
theorem X3_excise_ca {S : Sc} {d : Nat} {a1 : Int32} {mem : Mm} {rr : Int32} {mr : Mm} {Q : Po}  (h : X3_excise 0 a1 mem = some (rr, mr)) (q : Q (some (.int rr)) mr) : Ca S (d + 4) 61 [.ref 0, .int a1] mem Q := by
  unfold X3_excise at h
  refine ca_in (by decide) mt_X3_excise (Nat.le_of_ble_eq_true rfl) ?_
  show Ev S (d + 3) 3 cX3_excise (some .int) 0 [some (.ref 0), some (.int a1), none] [] mem Q
  refine ev_aload_n dX3_excise_0 (pc' := 1) rfl rfl ?_
  refine ev_iload_n dX3_excise_1 (pc' := 2) rfl rfl ?_
  refine ev_invV dX3_excise_2 (pc' := 5) rfl sq_3_134 mt_X3_caskOrAllFault rfl (arecv_ob (x := 0) rfl rfl (by decide) kn_0) ⟨_, rfl, Nat.le_of_ble_eq_true rfl, Nat.le_of_ble_eq_true rfl, rfl, rfl⟩ ?_
  refine X3_caskOrAllFault_ca  rfl ?_
  refine ev_r1 ?_
  refine ev_topi (fun v1 e_v1 => ?_)
  replace h := nm_at e_v1 h
  refine ev_istore_n dX3_excise_5 (pc' := 6) (ls' := [some (.ref 0), some (.int a1), some (.int v1)]) rfl (Nat.le_of_ble_eq_true rfl) rfl ?_
  refine ev_iload_n dX3_excise_6 (pc' := 7) rfl rfl ?_
  refine ev_if_eq dX3_excise_7 (pc' := 10) rfl (t := 16) rfl (fun c2 => ?_) (fun c2 => ?_)
  · replace h := it_t c2 h
    refine ev_iload_n dX3_excise_16 (pc' := 17) rfl rfl ?_
    refine ev_if_ge dX3_excise_17 (pc' := 20) rfl (t := 30) rfl (fun c3 => ?_) (fun c3 => ?_)
    · replace h := it_t c3 h
      refine ev_aload_n dX3_excise_30 (pc' := 31) rfl rfl ?_
      refine ev_getR (y := 1) dX3_excise_31 (pc' := 34) rfl fq_3_10 kn_0 rfl ?_
      refine ev_iload_n dX3_excise_34 (pc' := 35) rfl rfl ?_
      obtain ⟨y4, x_y4, h⟩ := ob_of h
      refine ev_invV dX3_excise_35 (pc' := 38) rfl sq_3_148 mt_X2_dutyOf rfl (arecv_ob (x := 1) rfl rfl (by decide) kn_1) ⟨_, rfl, Nat.le_of_ble_eq_true rfl, Nat.le_of_ble_eq_true rfl, rfl, rfl⟩ ?_
      refine X2_dutyOf_ca kn_1 x_y4 ?_
      refine ev_r1 ?_
      obtain ⟨rfl, rfl⟩ := rt2 h
      exact ev_ireturn dX3_excise_38 rfl q
    · replace h := it_f c3 h
      refine ev_aload_n dX3_excise_20 (pc' := 21) rfl rfl ?_
      refine ev_getR (y := 1) dX3_excise_21 (pc' := 24) rfl fq_3_10 kn_0 rfl ?_
      obtain ⟨y5, x_y5, h⟩ := ob_of h
      refine ev_invV dX3_excise_24 (pc' := 27) rfl sq_3_145 mt_X2_dutyOfAll rfl (arecv_ob (x := 1) rfl rfl (by decide) kn_1) ⟨_, rfl, Nat.le_of_ble_eq_true rfl, Nat.le_of_ble_eq_true rfl, rfl, rfl⟩ ?_
      refine X2_dutyOfAll_ca kn_1 x_y5 ?_
      refine ev_r1 ?_
      refine ev_goto dX3_excise_27 (t := 38) rfl ?_
      obtain ⟨rfl, rfl⟩ := rt2 h
      exact ev_ireturn dX3_excise_38 rfl q
  · replace h := it_f c2 h
    refine ev_aload_n dX3_excise_10 (pc' := 11) rfl rfl ?_
    refine ev_iload_n dX3_excise_11 (pc' := 12) rfl rfl ?_
    obtain ⟨y6, m7, x_y6, h⟩ := ob2_of h
    refine ev_invV dX3_excise_12 (pc' := 15) rfl sq_3_56 mt_X3_refuse rfl (arecv_ob (x := 0) rfl rfl (by decide) kn_0) ⟨_, rfl, Nat.le_of_ble_eq_true rfl, Nat.le_of_ble_eq_true rfl, rfl, rfl⟩ ?_
    refine X3_refuse_ca  x_y6 ?_
    refine ev_r1 ?_
    obtain ⟨rfl, rfl⟩ := rt2 h
    exact ev_ireturn dX3_excise_15 rfl q
def X3_exciseIn_L31  (a4 : Int32) : Nat → Int32 → Int32 → Mm → Option (Int32 × Mm)
  | 0, _, _, _ => none
  | n + 1, w5, w6, m7 => if a4 ≤ w6 then (some (w5, m7)) else (ob (X2_goOn 11 1 m7) (fun m9 => ob (X2_dutyOfAll 11 m9) (fun y10 => nm (w5 + y10) (fun v11 => nm (w6 + 1) (fun v12 => X3_exciseIn_L31 a4 n v11 v12 m9)))))
def X3_exciseIn (_o : Nat) (a1 : Int32) (mem : Mm) : Option (Int32 × Mm) := nm (X3_yearsFault a1) (fun v1 => if v1 = 0 then (ob (X2_become 11 1 mem) (fun m3 => X3_exciseIn_L31 a1 LF 0 0 m3)) else (ob2 (X3_refuse 0 v1 mem) (fun y13 m14 => some (y13, m14))))
set_option maxRecDepth 100000 in
set_option maxHeartbeats 8000000 in
theorem X3_exciseIn_L31_ev {S : Sc} {d : Nat}  {a4 : Int32} {rr : Int32} {mr : Mm} {Q : Po}  (q : Q (some (.int rr)) mr) : ∀ (n : Nat) (w5 : Int32) (w6 : Int32) (m7 : Mm), X3_exciseIn_L31 a4 n w5 w6 m7 = some (rr, mr) → Ev S (d + 4) 3 cX3_exciseIn (some .int) 31 [some (.ref 0), some (.int a4), none, some (.int w5), some (.int w6)] [] m7 Q := by
  intro n
  induction n with
  | zero => intro w5 w6 m7 h; cases h
  | succ n ih =>
    intro w5 w6 m7 h
    unfold X3_exciseIn_L31 at h
    refine ev_iload dX3_exciseIn_31 (pc' := 33) rfl rfl ?_
    refine ev_iload_n dX3_exciseIn_33 (pc' := 34) rfl rfl ?_
    refine ev_icmp_ge dX3_exciseIn_34 (pc' := 37) rfl (t := 61) rfl (fun c8 => ?_) (fun c8 => ?_)
    · replace h := it_t c8 h
      refine ev_iload_n dX3_exciseIn_61 (pc' := 62) rfl rfl ?_
      obtain ⟨rfl, rfl⟩ := rt2 h
      exact ev_ireturn dX3_exciseIn_62 rfl q
    · replace h := it_f c8 h
      refine ev_aload_n dX3_exciseIn_37 (pc' := 38) rfl rfl ?_
      refine ev_getR (y := 11) dX3_exciseIn_38 (pc' := 41) rfl fq_3_16 kn_0 rfl ?_
      refine ev_iconst dX3_exciseIn_41 (pc' := 42) (v := 1) rfl (by decide) ?_
      obtain ⟨m9, x_m9, h⟩ := ob_of h
      refine ev_invV dX3_exciseIn_42 (pc' := 45) rfl sq_3_155 mt_X2_goOn rfl (arecv_ob (x := 11) rfl rfl (by decide) kn_11) ⟨_, rfl, Nat.le_of_ble_eq_true rfl, Nat.le_of_ble_eq_true rfl, rfl, rfl⟩ ?_
      refine X2_goOn_ca kn_11 x_m9 ?_
      refine ev_r0 ?_
      refine ev_iload_n dX3_exciseIn_45 (pc' := 46) rfl rfl ?_
      refine ev_aload_n dX3_exciseIn_46 (pc' := 47) rfl rfl ?_
      refine ev_getR (y := 11) dX3_exciseIn_47 (pc' := 50) rfl fq_3_16 kn_0 rfl ?_
      obtain ⟨y10, x_y10, h⟩ := ob_of h
      refine ev_invV dX3_exciseIn_50 (pc' := 53) rfl sq_3_145 mt_X2_dutyOfAll rfl (arecv_ob (x := 11) rfl rfl (by decide) kn_11) ⟨_, rfl, Nat.le_of_ble_eq_true rfl, Nat.le_of_ble_eq_true rfl, rfl, rfl⟩ ?_
      refine X2_dutyOfAll_ca kn_11 x_y10 ?_
      refine ev_r1 ?_
      refine ev_iadd dX3_exciseIn_53 (pc' := 54) rfl ?_
      refine ev_topi (fun v11 e_v11 => ?_)
      replace h := nm_at e_v11 h
      refine ev_istore_n dX3_exciseIn_54 (pc' := 55) (ls' := [some (.ref 0), some (.int a4), none, some (.int v11), some (.int w6)]) rfl (Nat.le_of_ble_eq_true rfl) rfl ?_
      obtain ⟨v12, e_v12⟩ : ∃ y : Int32, y = (w6 + 1) := ⟨_, rfl⟩
      replace h := nm_at e_v12 h
      refine ev_iinc dX3_exciseIn_55 (pc' := 58) (v := v12) (ls' := [some (.ref 0), some (.int a4), none, some (.int v11), some (.int v12)]) rfl rfl (by rw [e_v12]; rfl) (Nat.le_of_ble_eq_true rfl) rfl ?_
      refine ev_goto dX3_exciseIn_58 (t := 31) rfl ?_
      exact ev_sub (lsub_c (lsub_c (lsub_c (lsub_c (lsub_c lsub_nil))))) (ih v11 v12 m9 h)
set_option maxRecDepth 100000 in
set_option maxHeartbeats 8000000 in
theorem X3_exciseIn_ca {S : Sc} {d : Nat} {a1 : Int32} {mem : Mm} {rr : Int32} {mr : Mm} {Q : Po}  (h : X3_exciseIn 0 a1 mem = some (rr, mr)) (q : Q (some (.int rr)) mr) : Ca S (d + 5) 62 [.ref 0, .int a1] mem Q := by
  unfold X3_exciseIn at h
  refine ca_in (by decide) mt_X3_exciseIn (Nat.le_of_ble_eq_true rfl) ?_
  show Ev S (d + 4) 3 cX3_exciseIn (some .int) 0 [some (.ref 0), some (.int a1), none, none, none] [] mem Q
  refine ev_iload_n dX3_exciseIn_0 (pc' := 1) rfl rfl ?_
  refine ev_invS dX3_exciseIn_1 (pc' := 4) rfl sq_3_118 mt_X3_yearsFault rfl ⟨_, rfl, Nat.le_of_ble_eq_true rfl, Nat.le_of_ble_eq_true rfl, rfl, rfl⟩ ?_
  refine X3_yearsFault_ca  rfl ?_
  refine ev_r1 ?_
  refine ev_topi (fun v1 e_v1 => ?_)
  replace h := nm_at e_v1 h
  refine ev_istore_n dX3_exciseIn_4 (pc' := 5) (ls' := [some (.ref 0), some (.int a1), some (.int v1), none, none]) rfl (Nat.le_of_ble_eq_true rfl) rfl ?_
  refine ev_iload_n dX3_exciseIn_5 (pc' := 6) rfl rfl ?_
  refine ev_if_eq dX3_exciseIn_6 (pc' := 9) rfl (t := 15) rfl (fun c2 => ?_) (fun c2 => ?_)
  · replace h := it_t c2 h
    refine ev_iconst dX3_exciseIn_15 (pc' := 16) (v := 0) rfl (by decide) ?_
    refine ev_istore_n dX3_exciseIn_16 (pc' := 17) (ls' := [some (.ref 0), some (.int a1), some (.int v1), some (.int 0), none]) rfl (Nat.le_of_ble_eq_true rfl) rfl ?_
    refine ev_aload_n dX3_exciseIn_17 (pc' := 18) rfl rfl ?_
    refine ev_getR (y := 11) dX3_exciseIn_18 (pc' := 21) rfl fq_3_16 kn_0 rfl ?_
    refine ev_aload_n dX3_exciseIn_21 (pc' := 22) rfl rfl ?_
    refine ev_getR (y := 1) dX3_exciseIn_22 (pc' := 25) rfl fq_3_10 kn_0 rfl ?_
    obtain ⟨m3, x_m3, h⟩ := ob_of h
    refine ev_invV dX3_exciseIn_25 (pc' := 28) rfl sq_3_151 mt_X2_become rfl (arecv_ob (x := 11) rfl rfl (by decide) kn_11) ⟨_, rfl, Nat.le_of_ble_eq_true rfl, Nat.le_of_ble_eq_true rfl, rfl, rfl⟩ ?_
    refine X2_become_ca kn_11 kn_1 x_m3 ?_
    refine ev_r0 ?_
    refine ev_iconst dX3_exciseIn_28 (pc' := 29) (v := 0) rfl (by decide) ?_
    refine ev_istore dX3_exciseIn_29 (pc' := 31) (ls' := [some (.ref 0), some (.int a1), some (.int v1), some (.int 0), some (.int 0)]) rfl (Nat.le_of_ble_eq_true rfl) rfl ?_
    exact ev_sub (lsub_c (lsub_c (lsub_n (lsub_c (lsub_c lsub_nil))))) (X3_exciseIn_L31_ev  q LF 0 0 m3 h)
  · replace h := it_f c2 h
    refine ev_aload_n dX3_exciseIn_9 (pc' := 10) rfl rfl ?_
    refine ev_iload_n dX3_exciseIn_10 (pc' := 11) rfl rfl ?_
    obtain ⟨y13, m14, x_y13, h⟩ := ob2_of h
    refine ev_invV dX3_exciseIn_11 (pc' := 14) rfl sq_3_56 mt_X3_refuse rfl (arecv_ob (x := 0) rfl rfl (by decide) kn_0) ⟨_, rfl, Nat.le_of_ble_eq_true rfl, Nat.le_of_ble_eq_true rfl, rfl, rfl⟩ ?_
    refine X3_refuse_ca  x_y13 ?_
    refine ev_r1 ?_
    obtain ⟨rfl, rfl⟩ := rt2 h
    exact ev_ireturn dX3_exciseIn_14 rfl q
