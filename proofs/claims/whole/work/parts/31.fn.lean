def X1_fits (o : Nat) (a1 : Int32) (a2 : Int32) (mem : Mm) : Option Int32 := ob (X1_at o a1 mem) (fun y1 => if a2 = 57 then (if y1 < 48 then (some 0) else (if 57 < y1 then (some 0) else (some 1))) else (if a2 = 107 then (ob (X1_kind o a1 mem) (fun y6 => if y6 < 0 then (some 0) else (some 1))) else (if y1 = a2 then (some 1) else (some 0))))
set_option maxRecDepth 100000 in
set_option maxHeartbeats 8000000 in
theorem X1_fits_ca {S : Sc} {d : Nat} {o : Nat} {a1 : Int32} {a2 : Int32} {mem : Mm} {rr : Int32} {Q : Po} (h_o : kdp o 1) (h : X1_fits o a1 a2 mem = some rr) (q : Q (some (.int rr)) mem) : Ca S (d + 6) 30 [.ref o, .int a1, .int a2] mem Q := by
  unfold X1_fits at h
  refine ca_in (by decide) mt_X1_fits (Nat.le_of_ble_eq_true rfl) ?_
  show Ev S (d + 5) 1 cX1_fits (some .boolean) 0 [some (.ref o), some (.int a1), some (.int a2), none] [] mem Q
  refine ev_aload_n dX1_fits_0 (pc' := 1) rfl rfl ?_
  refine ev_iload_n dX1_fits_1 (pc' := 2) rfl rfl ?_
  obtain ⟨y1, x_y1, h⟩ := ob_of h
  refine ev_invV dX1_fits_2 (pc' := 5) rfl sq_1_19 mt_X1_at rfl (arecv_ob (x := o) rfl rfl (by decide) h_o) ⟨_, rfl, Nat.le_of_ble_eq_true rfl, Nat.le_of_ble_eq_true rfl, rfl, rfl⟩ ?_
  refine X1_at_ca h_o x_y1 ?_
  refine ev_r1 ?_
  refine ev_istore_n dX1_fits_5 (pc' := 6) (ls' := [some (.ref o), some (.int a1), some (.int a2), some (.int y1)]) rfl (Nat.le_of_ble_eq_true rfl) rfl ?_
  refine ev_iload_n dX1_fits_6 (pc' := 7) rfl rfl ?_
  by_cases c2 : a2 = 57
  · replace h := it_t c2 h
    refine ev_lookupIn dX1_fits_7 rfl c2 rfl (t := 32) rfl ?_
    refine ev_iload_n dX1_fits_32 (pc' := 33) rfl rfl ?_
    refine ev_bipush dX1_fits_33 (pc' := 35) (v := 48) rfl (by decide) ?_
    refine ev_icmp_lt dX1_fits_35 (pc' := 38) rfl (t := 48) rfl (fun c3 => ?_) (fun c3 => ?_)
    · replace h := it_t c3 h
      refine ev_iconst dX1_fits_48 (pc' := 49) (v := 0) rfl (by decide) ?_
      obtain rfl := rt1 h
      exact ev_ireturn dX1_fits_49 (aret_z (by decide)) q
    · replace h := it_f c3 h
      refine ev_iload_n dX1_fits_38 (pc' := 39) rfl rfl ?_
      refine ev_bipush dX1_fits_39 (pc' := 41) (v := 57) rfl (by decide) ?_
      refine ev_icmp_gt dX1_fits_41 (pc' := 44) rfl (t := 48) rfl (fun c4 => ?_) (fun c4 => ?_)
      · replace h := it_t c4 h
        refine ev_iconst dX1_fits_48 (pc' := 49) (v := 0) rfl (by decide) ?_
        obtain rfl := rt1 h
        exact ev_ireturn dX1_fits_49 (aret_z (by decide)) q
      · replace h := it_f c4 h
        refine ev_iconst dX1_fits_44 (pc' := 45) (v := 1) rfl (by decide) ?_
        refine ev_goto dX1_fits_45 (t := 49) rfl ?_
        obtain rfl := rt1 h
        exact ev_ireturn dX1_fits_49 (aret_z (by decide)) q
  · replace h := it_f c2 h
    by_cases c5 : a2 = 107
    · replace h := it_t c5 h
      refine ev_lookupIn dX1_fits_7 rfl c5 rfl (t := 50) rfl ?_
      refine ev_aload_n dX1_fits_50 (pc' := 51) rfl rfl ?_
      refine ev_iload_n dX1_fits_51 (pc' := 52) rfl rfl ?_
      obtain ⟨y6, x_y6, h⟩ := ob_of h
      refine ev_invV dX1_fits_52 (pc' := 55) rfl sq_1_47 mt_X1_kind rfl (arecv_ob (x := o) rfl rfl (by decide) h_o) ⟨_, rfl, Nat.le_of_ble_eq_true rfl, Nat.le_of_ble_eq_true rfl, rfl, rfl⟩ ?_
      refine X1_kind_ca h_o x_y6 ?_
      refine ev_r1 ?_
      refine ev_if_lt dX1_fits_55 (pc' := 58) rfl (t := 62) rfl (fun c7 => ?_) (fun c7 => ?_)
      · replace h := it_t c7 h
        refine ev_iconst dX1_fits_62 (pc' := 63) (v := 0) rfl (by decide) ?_
        obtain rfl := rt1 h
        exact ev_ireturn dX1_fits_63 (aret_z (by decide)) q
      · replace h := it_f c7 h
        refine ev_iconst dX1_fits_58 (pc' := 59) (v := 1) rfl (by decide) ?_
        refine ev_goto dX1_fits_59 (t := 63) rfl ?_
        obtain rfl := rt1 h
        exact ev_ireturn dX1_fits_63 (aret_z (by decide)) q
    · replace h := it_f c5 h
      refine ev_lookupDef dX1_fits_7 rfl [57, 107] (by decide) (List.forall_mem_cons.mpr ⟨c2, List.forall_mem_cons.mpr ⟨c5, fun _ h => absurd h List.not_mem_nil⟩⟩) (t := 64) rfl ?_
      refine ev_iload_n dX1_fits_64 (pc' := 65) rfl rfl ?_
      refine ev_iload_n dX1_fits_65 (pc' := 66) rfl rfl ?_
      refine ev_icmp_ne dX1_fits_66 (pc' := 69) rfl (t := 73) rfl (fun c8 => ?_) (fun c8 => ?_)
      · replace h := it_f c8 h
        refine ev_iconst dX1_fits_73 (pc' := 74) (v := 0) rfl (by decide) ?_
        obtain rfl := rt1 h
        exact ev_ireturn dX1_fits_74 (aret_z (by decide)) q
      · replace h := it_t c8 h
        refine ev_iconst dX1_fits_69 (pc' := 70) (v := 1) rfl (by decide) ?_
        refine ev_goto dX1_fits_70 (t := 74) rfl ?_
        obtain rfl := rt1 h
        exact ev_ireturn dX1_fits_74 (aret_z (by decide)) q
def X1_firstWrong_L7 (o : Nat)  (m4 : Mm) : Nat → Nat → Int32 → Int32 → Option Int32
  | 0, _, _, _ => none
  | n + 1, w1, w2, w3 => if (m4 o 1) ≤ w3 then (if (m4 o 1) ≤ 0 then (some (m4 o 1)) else (if w2 = (J0_length_8abf5 w1) then (some (-9)) else (some (m4 o 1)))) else (if w2 = (J0_length_8abf5 w1) then (ob (X1_at o w3 m4) (fun y9 => if (J0_length_8abf5 (X1_shapeOf y9)) ≤ 0 then (some w3) else (ob (J0_charAt_5068e (X1_shapeOf y9) 0) (fun y11 => ob (X1_fits o w3 y11 m4) (fun y12 => if y12 = 0 then (some w3) else (nm (w3 + 1) (fun v14 => X1_firstWrong_L7 o m4 n (X1_shapeOf y9) 1 v14))))))) else (if (J0_length_8abf5 w1) ≤ w2 then (some w3) else (ob (J0_charAt_5068e w1 w2) (fun y16 => ob (X1_fits o w3 y16 m4) (fun y17 => if y17 = 0 then (some w3) else (nm (w2 + 1) (fun v19 => nm (w3 + 1) (fun v20 => X1_firstWrong_L7 o m4 n w1 v19 v20))))))))
def X1_firstWrong (o : Nat) (mem : Mm) : Option Int32 := X1_firstWrong_L7 o mem LF 51 0 0
set_option maxRecDepth 100000 in
set_option maxHeartbeats 8000000 in
theorem X1_firstWrong_L7_ev {S : Sc} {d : Nat} {o : Nat}  {m4 : Mm} {rr : Int32} {Q : Po} (h_o : kdp o 1) (q : Q (some (.int rr)) m4) : ∀ (n : Nat) (w1 : Nat) (w2 : Int32) (w3 : Int32) (h_w1 : kd w1 = 7), X1_firstWrong_L7 o m4 n w1 w2 w3 = some rr → Ev S (d + 6) 1 cX1_firstWrong (some .int) 7 [some (.ref o), some (.ref w1), some (.int w2), some (.int w3)] [] m4 Q := by
  intro n
  induction n with
  | zero => intro w1 w2 w3 h_w1 h; cases h
  | succ n ih =>
    intro w1 w2 w3 h_w1 h
    unfold X1_firstWrong_L7 at h
    refine ev_iload_n dX1_firstWrong_7 (pc' := 8) rfl rfl ?_
    refine ev_aload_n dX1_firstWrong_8 (pc' := 9) rfl rfl ?_
    refine ev_get dX1_firstWrong_9 (pc' := 12) rfl fq_1_15 h_o rfl ?_
    refine ev_icmp_ge dX1_firstWrong_12 (pc' := 15) rfl (t := 66) rfl (fun c5 => ?_) (fun c5 => ?_)
    · replace h := it_t c5 h
      refine ev_aload_n dX1_firstWrong_66 (pc' := 67) rfl rfl ?_
      refine ev_get dX1_firstWrong_67 (pc' := 70) rfl fq_1_15 h_o rfl ?_
      refine ev_if_le dX1_firstWrong_70 (pc' := 73) rfl (t := 86) rfl (fun c6 => ?_) (fun c6 => ?_)
      · replace h := it_t c6 h
        refine ev_aload_n dX1_firstWrong_86 (pc' := 87) rfl rfl ?_
        refine ev_get dX1_firstWrong_87 (pc' := 90) rfl fq_1_15 h_o rfl ?_
        obtain rfl := rt1 h
        exact ev_ireturn dX1_firstWrong_90 rfl q
      · replace h := it_f c6 h
        refine ev_iload_n dX1_firstWrong_73 (pc' := 74) rfl rfl ?_
        refine ev_aload_n dX1_firstWrong_74 (pc' := 75) rfl rfl ?_
        refine ev_invV dX1_firstWrong_75 (pc' := 78) rfl sq_1_32 mt_J0_length_8abf5 rfl (arecv_tx (x := w1) rfl rfl h_w1) ⟨_, rfl, Nat.le_of_ble_eq_true rfl, Nat.le_of_ble_eq_true rfl, rfl, rfl⟩ ?_
        refine J0_length_8abf5_ca h_w1 rfl ?_
        refine ev_r1 ?_
        refine ev_icmp_ne dX1_firstWrong_78 (pc' := 81) rfl (t := 86) rfl (fun c7 => ?_) (fun c7 => ?_)
        · replace h := it_f c7 h
          refine ev_aload_n dX1_firstWrong_86 (pc' := 87) rfl rfl ?_
          refine ev_get dX1_firstWrong_87 (pc' := 90) rfl fq_1_15 h_o rfl ?_
          obtain rfl := rt1 h
          exact ev_ireturn dX1_firstWrong_90 rfl q
        · replace h := it_t c7 h
          refine ev_bipush dX1_firstWrong_81 (pc' := 83) (v := (-9)) rfl (by decide) ?_
          refine ev_goto dX1_firstWrong_83 (t := 90) rfl ?_
          obtain rfl := rt1 h
          exact ev_ireturn dX1_firstWrong_90 rfl q
    · replace h := it_f c5 h
      refine ev_iload_n dX1_firstWrong_15 (pc' := 16) rfl rfl ?_
      refine ev_aload_n dX1_firstWrong_16 (pc' := 17) rfl rfl ?_
      refine ev_invV dX1_firstWrong_17 (pc' := 20) rfl sq_1_32 mt_J0_length_8abf5 rfl (arecv_tx (x := w1) rfl rfl h_w1) ⟨_, rfl, Nat.le_of_ble_eq_true rfl, Nat.le_of_ble_eq_true rfl, rfl, rfl⟩ ?_
      refine J0_length_8abf5_ca h_w1 rfl ?_
      refine ev_r1 ?_
      refine ev_icmp_ne dX1_firstWrong_20 (pc' := 23) rfl (t := 34) rfl (fun c8 => ?_) (fun c8 => ?_)
      · replace h := it_f c8 h
        refine ev_iload_n dX1_firstWrong_34 (pc' := 35) rfl rfl ?_
        refine ev_aload_n dX1_firstWrong_35 (pc' := 36) rfl rfl ?_
        refine ev_invV dX1_firstWrong_36 (pc' := 39) rfl sq_1_32 mt_J0_length_8abf5 rfl (arecv_tx (x := w1) rfl rfl h_w1) ⟨_, rfl, Nat.le_of_ble_eq_true rfl, Nat.le_of_ble_eq_true rfl, rfl, rfl⟩ ?_
        refine J0_length_8abf5_ca h_w1 rfl ?_
        refine ev_r1 ?_
        refine ev_icmp_ge dX1_firstWrong_39 (pc' := 42) rfl (t := 55) rfl (fun c15 => ?_) (fun c15 => ?_)
        · replace h := it_t c15 h
          refine ev_iload_n dX1_firstWrong_55 (pc' := 56) rfl rfl ?_
          obtain rfl := rt1 h
          exact ev_ireturn dX1_firstWrong_56 rfl q
        · replace h := it_f c15 h
          refine ev_aload_n dX1_firstWrong_42 (pc' := 43) rfl rfl ?_
          refine ev_iload_n dX1_firstWrong_43 (pc' := 44) rfl rfl ?_
          refine ev_aload_n dX1_firstWrong_44 (pc' := 45) rfl rfl ?_
          refine ev_iload_n dX1_firstWrong_45 (pc' := 46) rfl rfl ?_
          obtain ⟨y16, x_y16, h⟩ := ob_of h
          refine ev_invV dX1_firstWrong_46 (pc' := 49) rfl sq_1_39 mt_J0_charAt_5068e rfl (arecv_tx (x := w1) rfl rfl h_w1) ⟨_, rfl, Nat.le_of_ble_eq_true rfl, Nat.le_of_ble_eq_true rfl, rfl, rfl⟩ ?_
          refine J0_charAt_5068e_ca h_w1 x_y16 ?_
          refine ev_r1 ?_
          obtain ⟨y17, x_y17, h⟩ := ob_of h
          refine ev_invV dX1_firstWrong_49 (pc' := 52) rfl sq_1_43 mt_X1_fits rfl (arecv_ob (x := o) rfl rfl (by decide) h_o) ⟨_, rfl, Nat.le_of_ble_eq_true rfl, Nat.le_of_ble_eq_true rfl, rfl, rfl⟩ ?_
          refine X1_fits_ca h_o x_y17 ?_
          refine ev_r1 ?_
          refine ev_if_ne dX1_firstWrong_52 (pc' := 55) rfl (t := 57) rfl (fun c18 => ?_) (fun c18 => ?_)
          · replace h := it_f c18 h
            obtain ⟨v19, e_v19⟩ : ∃ y : Int32, y = (w2 + 1) := ⟨_, rfl⟩
            replace h := nm_at e_v19 h
            refine ev_iinc dX1_firstWrong_57 (pc' := 60) (v := v19) (ls' := [some (.ref o), some (.ref w1), some (.int v19), some (.int w3)]) rfl rfl (by rw [e_v19]; rfl) (Nat.le_of_ble_eq_true rfl) rfl ?_
            obtain ⟨v20, e_v20⟩ : ∃ y : Int32, y = (w3 + 1) := ⟨_, rfl⟩
            replace h := nm_at e_v20 h
            refine ev_iinc dX1_firstWrong_60 (pc' := 63) (v := v20) (ls' := [some (.ref o), some (.ref w1), some (.int v19), some (.int v20)]) rfl rfl (by rw [e_v20]; rfl) (Nat.le_of_ble_eq_true rfl) rfl ?_
            refine ev_goto dX1_firstWrong_63 (t := 7) rfl ?_
            exact ev_sub (lsub_c (lsub_c (lsub_c (lsub_c lsub_nil)))) (ih w1 v19 v20 h_w1 h)
          · replace h := it_t c18 h
            refine ev_iload_n dX1_firstWrong_55 (pc' := 56) rfl rfl ?_
            obtain rfl := rt1 h
            exact ev_ireturn dX1_firstWrong_56 rfl q
      · replace h := it_t c8 h
        refine ev_aload_n dX1_firstWrong_23 (pc' := 24) rfl rfl ?_
        refine ev_iload_n dX1_firstWrong_24 (pc' := 25) rfl rfl ?_
        obtain ⟨y9, x_y9, h⟩ := ob_of h
        refine ev_invV dX1_firstWrong_25 (pc' := 28) rfl sq_1_19 mt_X1_at rfl (arecv_ob (x := o) rfl rfl (by decide) h_o) ⟨_, rfl, Nat.le_of_ble_eq_true rfl, Nat.le_of_ble_eq_true rfl, rfl, rfl⟩ ?_
        refine X1_at_ca h_o x_y9 ?_
        refine ev_r1 ?_
        refine ev_invS dX1_firstWrong_28 (pc' := 31) rfl sq_1_35 mt_X1_shapeOf rfl ⟨_, rfl, Nat.le_of_ble_eq_true rfl, Nat.le_of_ble_eq_true rfl, rfl, rfl⟩ ?_
        refine X1_shapeOf_ca  rfl ?_
        refine ev_r1 ?_
        refine ev_astore_n dX1_firstWrong_31 (pc' := 32) (ls' := [some (.ref o), some (.ref (X1_shapeOf y9)), some (.int w2), some (.int w3)]) rfl (Nat.le_of_ble_eq_true rfl) rfl ?_
        refine ev_iconst dX1_firstWrong_32 (pc' := 33) (v := 0) rfl (by decide) ?_
        refine ev_istore_n dX1_firstWrong_33 (pc' := 34) (ls' := [some (.ref o), some (.ref (X1_shapeOf y9)), some (.int 0), some (.int w3)]) rfl (Nat.le_of_ble_eq_true rfl) rfl ?_
        refine ev_iload_n dX1_firstWrong_34 (pc' := 35) rfl rfl ?_
        refine ev_aload_n dX1_firstWrong_35 (pc' := 36) rfl rfl ?_
        refine ev_invV dX1_firstWrong_36 (pc' := 39) rfl sq_1_32 mt_J0_length_8abf5 rfl (arecv_tx (x := (X1_shapeOf y9)) rfl rfl (X1_shapeOf_kd y9 )) ⟨_, rfl, Nat.le_of_ble_eq_true rfl, Nat.le_of_ble_eq_true rfl, rfl, rfl⟩ ?_
        refine J0_length_8abf5_ca (X1_shapeOf_kd y9 ) rfl ?_
        refine ev_r1 ?_
        refine ev_icmp_ge dX1_firstWrong_39 (pc' := 42) rfl (t := 55) rfl (fun c10 => ?_) (fun c10 => ?_)
        · replace h := it_t c10 h
          refine ev_iload_n dX1_firstWrong_55 (pc' := 56) rfl rfl ?_
          obtain rfl := rt1 h
          exact ev_ireturn dX1_firstWrong_56 rfl q
        · replace h := it_f c10 h
          refine ev_aload_n dX1_firstWrong_42 (pc' := 43) rfl rfl ?_
          refine ev_iload_n dX1_firstWrong_43 (pc' := 44) rfl rfl ?_
          refine ev_aload_n dX1_firstWrong_44 (pc' := 45) rfl rfl ?_
          refine ev_iload_n dX1_firstWrong_45 (pc' := 46) rfl rfl ?_
          obtain ⟨y11, x_y11, h⟩ := ob_of h
          refine ev_invV dX1_firstWrong_46 (pc' := 49) rfl sq_1_39 mt_J0_charAt_5068e rfl (arecv_tx (x := (X1_shapeOf y9)) rfl rfl (X1_shapeOf_kd y9 )) ⟨_, rfl, Nat.le_of_ble_eq_true rfl, Nat.le_of_ble_eq_true rfl, rfl, rfl⟩ ?_
          refine J0_charAt_5068e_ca (X1_shapeOf_kd y9 ) x_y11 ?_
          refine ev_r1 ?_
          obtain ⟨y12, x_y12, h⟩ := ob_of h
          refine ev_invV dX1_firstWrong_49 (pc' := 52) rfl sq_1_43 mt_X1_fits rfl (arecv_ob (x := o) rfl rfl (by decide) h_o) ⟨_, rfl, Nat.le_of_ble_eq_true rfl, Nat.le_of_ble_eq_true rfl, rfl, rfl⟩ ?_
          refine X1_fits_ca h_o x_y12 ?_
          refine ev_r1 ?_
          refine ev_if_ne dX1_firstWrong_52 (pc' := 55) rfl (t := 57) rfl (fun c13 => ?_) (fun c13 => ?_)
          · replace h := it_f c13 h
            refine ev_iinc dX1_firstWrong_57 (pc' := 60) (v := 1) (ls' := [some (.ref o), some (.ref (X1_shapeOf y9)), some (.int 1), some (.int w3)]) rfl rfl (by decide) (Nat.le_of_ble_eq_true rfl) rfl ?_
            obtain ⟨v14, e_v14⟩ : ∃ y : Int32, y = (w3 + 1) := ⟨_, rfl⟩
            replace h := nm_at e_v14 h
            refine ev_iinc dX1_firstWrong_60 (pc' := 63) (v := v14) (ls' := [some (.ref o), some (.ref (X1_shapeOf y9)), some (.int 1), some (.int v14)]) rfl rfl (by rw [e_v14]; rfl) (Nat.le_of_ble_eq_true rfl) rfl ?_
            refine ev_goto dX1_firstWrong_63 (t := 7) rfl ?_
            exact ev_sub (lsub_c (lsub_c (lsub_c (lsub_c lsub_nil)))) (ih (X1_shapeOf y9) 1 v14 (X1_shapeOf_kd y9 ) h)
          · replace h := it_t c13 h
            refine ev_iload_n dX1_firstWrong_55 (pc' := 56) rfl rfl ?_
            obtain rfl := rt1 h
            exact ev_ireturn dX1_firstWrong_56 rfl q
set_option maxRecDepth 100000 in
set_option maxHeartbeats 8000000 in
theorem X1_firstWrong_ca {S : Sc} {d : Nat} {o : Nat} {mem : Mm} {rr : Int32} {Q : Po} (h_o : kdp o 1) (h : X1_firstWrong o mem = some rr) (q : Q (some (.int rr)) mem) : Ca S (d + 7) 29 [.ref o] mem Q := by
  unfold X1_firstWrong at h
  refine ca_in (by decide) mt_X1_firstWrong (Nat.le_of_ble_eq_true rfl) ?_
  show Ev S (d + 6) 1 cX1_firstWrong (some .int) 0 [some (.ref o), none, none, none] [] mem Q
  refine ev_ldcS dX1_firstWrong_0 (pc' := 2) rfl (by decide +kernel) xq_1_30 ?_
  refine ev_astore_n dX1_firstWrong_2 (pc' := 3) (ls' := [some (.ref o), some (.ref 51), none, none]) rfl (Nat.le_of_ble_eq_true rfl) rfl ?_
  refine ev_iconst dX1_firstWrong_3 (pc' := 4) (v := 0) rfl (by decide) ?_
  refine ev_istore_n dX1_firstWrong_4 (pc' := 5) (ls' := [some (.ref o), some (.ref 51), some (.int 0), none]) rfl (Nat.le_of_ble_eq_true rfl) rfl ?_
  refine ev_iconst dX1_firstWrong_5 (pc' := 6) (v := 0) rfl (by decide) ?_
  refine ev_istore_n dX1_firstWrong_6 (pc' := 7) (ls' := [some (.ref o), some (.ref 51), some (.int 0), some (.int 0)]) rfl (Nat.le_of_ble_eq_true rfl) rfl ?_
  exact ev_sub (lsub_c (lsub_c (lsub_c (lsub_c lsub_nil)))) (X1_firstWrong_L7_ev h_o q LF 51 0 0 (by decide) h)
def X2_at (o : Nat) (a1 : Int32) : Option Nat := if a1 < 0 then (some (o + 9)) else (if 7 ≤ a1 then (some (o + 9)) else (gd (vin a1 7) (some ((o + 1) + 1 + (a1).toNatClampNeg))))
set_option maxRecDepth 100000 in
set_option maxHeartbeats 8000000 in
theorem X2_at_ca {S : Sc} {d : Nat} {o : Nat} {a1 : Int32} {mem : Mm} {rr : Nat} {Q : Po} (h_o : kdp o 2) (h : X2_at o a1 = some rr) (q : Q (some (.ref rr)) mem) : Ca S (d + 1) 32 [.ref o, .int a1] mem Q := by
  unfold X2_at at h
  refine ca_in (by decide) mt_X2_at (Nat.le_of_ble_eq_true rfl) ?_
  show Ev S (d + 0) 2 cX2_at (some (.object "TheAngelsWantMore$Cask")) 0 [some (.ref o), some (.int a1), none] [] mem Q
  refine ev_iload_n dX2_at_0 (pc' := 1) rfl rfl ?_
  refine ev_if_lt dX2_at_1 (pc' := 4) rfl (t := 22) rfl (fun c1 => ?_) (fun c1 => ?_)
  · replace h := it_t c1 h
    refine ev_aload_n dX2_at_22 (pc' := 23) rfl rfl ?_
    refine ev_getR (y := (o + 9)) dX2_at_23 (pc' := 26) rfl fq_2_18 h_o rfl ?_
    refine ev_astore_n dX2_at_26 (pc' := 27) (ls' := [some (.ref o), some (.int a1), some (.ref (o + 9))]) rfl (Nat.le_of_ble_eq_true rfl) rfl ?_
    refine ev_aload_n dX2_at_27 (pc' := 28) rfl rfl ?_
    refine ev_ifnonnull dX2_at_28 (n44 (kd_town h_o).2.1.2) (t := 38) rfl ?_
    refine ev_aload_n dX2_at_38 (pc' := 39) rfl rfl ?_
    obtain rfl := rt1 h
    exact ev_areturn dX2_at_39 rfl (n44 (kd_town h_o).2.1.2) q
  · replace h := it_f c1 h
    refine ev_iload_n dX2_at_4 (pc' := 5) rfl rfl ?_
    refine ev_aload_n dX2_at_5 (pc' := 6) rfl rfl ?_
    refine ev_getR (y := (o + 1)) dX2_at_6 (pc' := 9) rfl fq_2_11 h_o rfl ?_
    refine ev_alenC dX2_at_9 (pc' := 10) rfl (kd_town h_o).1 ?_
    refine ev_icmp_ge dX2_at_10 (pc' := 13) rfl (t := 22) rfl (fun c2 => ?_) (fun c2 => ?_)
    · replace h := it_t c2 h
      refine ev_aload_n dX2_at_22 (pc' := 23) rfl rfl ?_
      refine ev_getR (y := (o + 9)) dX2_at_23 (pc' := 26) rfl fq_2_18 h_o rfl ?_
      refine ev_astore_n dX2_at_26 (pc' := 27) (ls' := [some (.ref o), some (.int a1), some (.ref (o + 9))]) rfl (Nat.le_of_ble_eq_true rfl) rfl ?_
      refine ev_aload_n dX2_at_27 (pc' := 28) rfl rfl ?_
      refine ev_ifnonnull dX2_at_28 (n44 (kd_town h_o).2.1.2) (t := 38) rfl ?_
      refine ev_aload_n dX2_at_38 (pc' := 39) rfl rfl ?_
      obtain rfl := rt1 h
      exact ev_areturn dX2_at_39 rfl (n44 (kd_town h_o).2.1.2) q
    · replace h := it_f c2 h
      refine ev_aload_n dX2_at_13 (pc' := 14) rfl rfl ?_
      refine ev_getR (y := (o + 1)) dX2_at_14 (pc' := 17) rfl fq_2_11 h_o rfl ?_
      refine ev_iload_n dX2_at_17 (pc' := 18) rfl rfl ?_
      obtain ⟨g3, h⟩ := gd_of h
      refine ev_aald dX2_at_18 (pc' := 19) rfl (kd_town h_o).1 g3 ?_
      refine ev_goto dX2_at_19 (t := 26) rfl ?_
      refine ev_astore_n dX2_at_26 (pc' := 27) (ls' := [some (.ref o), some (.int a1), some (.ref ((o + 1) + 1 + (a1).toNatClampNeg))]) rfl (Nat.le_of_ble_eq_true rfl) rfl ?_
      refine ev_aload_n dX2_at_27 (pc' := 28) rfl rfl ?_
      refine ev_ifnonnull dX2_at_28 (n44 ((kd_town h_o).2.2 _ (Nat.not_le.mp (fun q => g3 (Or.inr q)))).2) (t := 38) rfl ?_
      refine ev_aload_n dX2_at_38 (pc' := 39) rfl rfl ?_
      obtain rfl := rt1 h
      exact ev_areturn dX2_at_39 rfl (n44 ((kd_town h_o).2.2 _ (Nat.not_le.mp (fun q => g3 (Or.inr q)))).2) q
theorem X2_at_kd {o : Nat} {a1 : Int32} {rr : Nat} (h_o : kdp o 2) (h : X2_at o a1 = some rr) : kdp rr 0 := by
  unfold X2_at at h
  have key : ∀ i, i < 7 → kdp (o + 1 + 1 + i) 0 := (kd_town h_o).2.2
  have k9 := (kd_town h_o).2.1
  revert h
  repeat' split
  all_goals intro h
  all_goals first | (cases h; exact k9) | (obtain ⟨g, h⟩ := gd_of h; cases h; exact key _ (Nat.not_le.mp (fun q => g (Or.inr q))))
def X2_become_L42 (o : Nat) (p1 : Nat)  : Nat → Int32 → Mm → Option Mm
  | 0, _, _ => none
  | n + 1, w6, m7 => if (m7 o 2) ≤ w6 then (some m7) else (ob (X2_at o w6) (fun y9 => ob (X2_at p1 w6) (fun y10 => nm (X0_become y9 y10 m7) (fun m11 => nm (w6 + 1) (fun v12 => X2_become_L42 o p1 n v12 m11)))))
def X2_become (o : Nat) (p1 : Nat) (mem : Mm) : Option Mm := nm (mset mem o 2 (mem p1 2)) (fun m1 => nm (mset m1 o 3 (m1 p1 3)) (fun m2 => nm (mset m2 o 4 (m2 p1 4)) (fun m3 => nm (mset m3 o 5 (m3 p1 5)) (fun m4 => nm (mset m4 o 6 (m4 p1 6)) (fun m5 => X2_become_L42 o p1 LF 0 m5)))))
set_option maxRecDepth 100000 in
set_option maxHeartbeats 8000000 in
theorem X2_become_L42_ev {S : Sc} {d : Nat} {o : Nat} {p1 : Nat}  {mr : Mm} {Q : Po} (h_o : kdp o 2) (h_p1 : kdp p1 2) (q : Q none mr) : ∀ (n : Nat) (w6 : Int32) (m7 : Mm), X2_become_L42 o p1 n w6 m7 = some mr → Ev S (d + 1) 2 cX2_become none 42 [some (.ref o), some (.ref p1), some (.int w6)] [] m7 Q := by
  intro n
  induction n with
  | zero => intro w6 m7 h; cases h
  | succ n ih =>
    intro w6 m7 h
    unfold X2_become_L42 at h
    refine ev_iload_n dX2_become_42 (pc' := 43) rfl rfl ?_
    refine ev_aload_n dX2_become_43 (pc' := 44) rfl rfl ?_
    refine ev_get dX2_become_44 (pc' := 47) rfl fq_2_22 h_o rfl ?_
    refine ev_icmp_ge dX2_become_47 (pc' := 50) rfl (t := 69) rfl (fun c8 => ?_) (fun c8 => ?_)
    · replace h := it_t c8 h
      obtain rfl := rt1 h
      exact ev_return dX2_become_69 rfl q
    · replace h := it_f c8 h
      refine ev_aload_n dX2_become_50 (pc' := 51) rfl rfl ?_
      refine ev_iload_n dX2_become_51 (pc' := 52) rfl rfl ?_
      obtain ⟨y9, x_y9, h⟩ := ob_of h
      refine ev_invV dX2_become_52 (pc' := 55) rfl sq_2_38 mt_X2_at rfl (arecv_ob (x := o) rfl rfl (by decide) h_o) ⟨_, rfl, Nat.le_of_ble_eq_true rfl, Nat.le_of_ble_eq_true rfl, rfl, rfl⟩ ?_
      refine X2_at_ca h_o x_y9 ?_
      refine ev_r1 ?_
      refine ev_aload_n dX2_become_55 (pc' := 56) rfl rfl ?_
      refine ev_iload_n dX2_become_56 (pc' := 57) rfl rfl ?_
      obtain ⟨y10, x_y10, h⟩ := ob_of h
      refine ev_invV dX2_become_57 (pc' := 60) rfl sq_2_38 mt_X2_at rfl (arecv_ob (x := p1) rfl rfl (by decide) h_p1) ⟨_, rfl, Nat.le_of_ble_eq_true rfl, Nat.le_of_ble_eq_true rfl, rfl, rfl⟩ ?_
      refine X2_at_ca h_p1 x_y10 ?_
      refine ev_r1 ?_
      refine ev_invV dX2_become_60 (pc' := 63) rfl sq_2_42 mt_X0_become rfl (arecv_ob (x := y9) rfl rfl (by decide) (X2_at_kd h_o x_y9)) ⟨_, rfl, Nat.le_of_ble_eq_true rfl, Nat.le_of_ble_eq_true rfl, rfl, rfl⟩ ?_
      refine X0_become_ca (X2_at_kd h_o x_y9) (X2_at_kd h_p1 x_y10) rfl ?_
      refine ev_r0 ?_
      refine ev_topm (fun m11 e_m11 => ?_)
      replace h := nm_at e_m11 h
      obtain ⟨v12, e_v12⟩ : ∃ y : Int32, y = (w6 + 1) := ⟨_, rfl⟩
      replace h := nm_at e_v12 h
      refine ev_iinc dX2_become_63 (pc' := 66) (v := v12) (ls' := [some (.ref o), some (.ref p1), some (.int v12)]) rfl rfl (by rw [e_v12]; rfl) (Nat.le_of_ble_eq_true rfl) rfl ?_
      refine ev_goto dX2_become_66 (t := 42) rfl ?_
      exact ev_sub (lsub_c (lsub_c (lsub_c lsub_nil))) (ih v12 m11 h)
set_option maxRecDepth 100000 in
set_option maxHeartbeats 8000000 in
theorem X2_become_ca {S : Sc} {d : Nat} {o : Nat} {p1 : Nat} {mem : Mm} {mr : Mm} {Q : Po} (h_o : kdp o 2) (h_p1 : kdp p1 2) (h : X2_become o p1 mem = some mr) (q : Q none mr) : Ca S (d + 2) 33 [.ref o, .ref p1] mem Q := by
  unfold X2_become at h
  refine ca_in (by decide) mt_X2_become (Nat.le_of_ble_eq_true rfl) ?_
  show Ev S (d + 1) 2 cX2_become none 0 [some (.ref o), some (.ref p1), none] [] mem Q
  refine ev_aload_n dX2_become_0 (pc' := 1) rfl rfl ?_
  refine ev_aload_n dX2_become_1 (pc' := 2) rfl rfl ?_
  refine ev_get dX2_become_2 (pc' := 5) rfl fq_2_22 h_p1 rfl ?_
  refine ev_put dX2_become_5 (pc' := 8) rfl fq_2_22 h_o rfl (Or.inl (by decide)) ?_
  refine ev_topm (fun m1 e_m1 => ?_)
  replace h := nm_at e_m1 h
  refine ev_aload_n dX2_become_8 (pc' := 9) rfl rfl ?_
  refine ev_aload_n dX2_become_9 (pc' := 10) rfl rfl ?_
  refine ev_get dX2_become_10 (pc' := 13) rfl fq_2_26 h_p1 rfl ?_
  refine ev_put dX2_become_13 (pc' := 16) rfl fq_2_26 h_o rfl (Or.inl (by decide)) ?_
  refine ev_topm (fun m2 e_m2 => ?_)
  replace h := nm_at e_m2 h
  refine ev_aload_n dX2_become_16 (pc' := 17) rfl rfl ?_
  refine ev_aload_n dX2_become_17 (pc' := 18) rfl rfl ?_
  refine ev_get dX2_become_18 (pc' := 21) rfl fq_2_29 h_p1 rfl ?_
  refine ev_put dX2_become_21 (pc' := 24) rfl fq_2_29 h_o rfl (Or.inl (by decide)) ?_
  refine ev_topm (fun m3 e_m3 => ?_)
  replace h := nm_at e_m3 h
  refine ev_aload_n dX2_become_24 (pc' := 25) rfl rfl ?_
  refine ev_aload_n dX2_become_25 (pc' := 26) rfl rfl ?_
  refine ev_get dX2_become_26 (pc' := 29) rfl fq_2_32 h_p1 rfl ?_
  refine ev_put dX2_become_29 (pc' := 32) rfl fq_2_32 h_o rfl (Or.inl (by decide)) ?_
  refine ev_topm (fun m4 e_m4 => ?_)
  replace h := nm_at e_m4 h
  refine ev_aload_n dX2_become_32 (pc' := 33) rfl rfl ?_
  refine ev_aload_n dX2_become_33 (pc' := 34) rfl rfl ?_
  refine ev_get dX2_become_34 (pc' := 37) rfl fq_2_35 h_p1 rfl ?_
  refine ev_put dX2_become_37 (pc' := 40) rfl fq_2_35 h_o rfl (Or.inl (by decide)) ?_
  refine ev_topm (fun m5 e_m5 => ?_)
  replace h := nm_at e_m5 h
  refine ev_iconst dX2_become_40 (pc' := 41) (v := 0) rfl (by decide) ?_
  refine ev_istore_n dX2_become_41 (pc' := 42) (ls' := [some (.ref o), some (.ref p1), some (.int 0)]) rfl (Nat.le_of_ble_eq_true rfl) rfl ?_
  exact ev_sub (lsub_c (lsub_c (lsub_c lsub_nil))) (X2_become_L42_ev h_o h_p1 q LF 0 m5 h)
def X2_caskFault (o : Nat) (a1 : Int32) (mem : Mm) : Int32 := if a1 < 0 then ((-1)) else (if a1 < (mem o 2) then (0) else ((-1)))
set_option maxRecDepth 100000 in
set_option maxHeartbeats 8000000 in
theorem X2_caskFault_ca {S : Sc} {d : Nat} {o : Nat} {a1 : Int32} {mem : Mm} {rr : Int32} {Q : Po} (h_o : kdp o 2) (h : X2_caskFault o a1 mem = rr) (q : Q (some (.int rr)) mem) : Ca S (d + 1) 34 [.ref o, .int a1] mem Q := by
  unfold X2_caskFault at h
  refine ca_in (by decide) mt_X2_caskFault (Nat.le_of_ble_eq_true rfl) ?_
  show Ev S (d + 0) 2 cX2_caskFault (some .int) 0 [some (.ref o), some (.int a1)] [] mem Q
  refine ev_iload_n dX2_caskFault_0 (pc' := 1) rfl rfl ?_
  refine ev_if_lt dX2_caskFault_1 (pc' := 4) rfl (t := 12) rfl (fun c1 => ?_) (fun c1 => ?_)
  · replace h := it_t c1 h
    refine ev_iconst dX2_caskFault_12 (pc' := 13) (v := (-1)) rfl (by decide) ?_
    refine ev_goto dX2_caskFault_13 (t := 17) rfl ?_
    obtain rfl := h
    exact ev_ireturn dX2_caskFault_17 rfl q
  · replace h := it_f c1 h
    refine ev_iload_n dX2_caskFault_4 (pc' := 5) rfl rfl ?_
    refine ev_aload_n dX2_caskFault_5 (pc' := 6) rfl rfl ?_
    refine ev_get dX2_caskFault_6 (pc' := 9) rfl fq_2_22 h_o rfl ?_
    refine ev_icmp_lt dX2_caskFault_9 (pc' := 12) rfl (t := 16) rfl (fun c2 => ?_) (fun c2 => ?_)
    · replace h := it_t c2 h
      refine ev_iconst dX2_caskFault_16 (pc' := 17) (v := 0) rfl (by decide) ?_
      obtain rfl := h
      exact ev_ireturn dX2_caskFault_17 rfl q
    · replace h := it_f c2 h
      refine ev_iconst dX2_caskFault_12 (pc' := 13) (v := (-1)) rfl (by decide) ?_
      refine ev_goto dX2_caskFault_13 (t := 17) rfl ?_
      obtain rfl := h
      exact ev_ireturn dX2_caskFault_17 rfl q
def X3_rangeFault (a1 : Int32) (a2 : Int32) (a3 : Int32) : Int32 := if a2 ≤ a1 then (if a1 ≤ a3 then (0) else ((-6))) else ((-4))
set_option maxRecDepth 100000 in
set_option maxHeartbeats 8000000 in
theorem X3_rangeFault_ca {S : Sc} {d : Nat} {a1 : Int32} {a2 : Int32} {a3 : Int32} {mem : Mm} {rr : Int32} {Q : Po}  (h : X3_rangeFault a1 a2 a3 = rr) (q : Q (some (.int rr)) mem) : Ca S (d + 1) 86 [.int a1, .int a2, .int a3] mem Q := by
  unfold X3_rangeFault at h
  refine ca_in (by decide) mt_X3_rangeFault (Nat.le_of_ble_eq_true rfl) ?_
  show Ev S (d + 0) 3 cX3_rangeFault (some .int) 0 [some (.int a1), some (.int a2), some (.int a3)] [] mem Q
  refine ev_iload_n dX3_rangeFault_0 (pc' := 1) rfl rfl ?_
  refine ev_iload_n dX3_rangeFault_1 (pc' := 2) rfl rfl ?_
  refine ev_icmp_ge dX3_rangeFault_2 (pc' := 5) rfl (t := 10) rfl (fun c1 => ?_) (fun c1 => ?_)
  · replace h := it_t c1 h
    refine ev_iload_n dX3_rangeFault_10 (pc' := 11) rfl rfl ?_
    refine ev_iload_n dX3_rangeFault_11 (pc' := 12) rfl rfl ?_
    refine ev_icmp_le dX3_rangeFault_12 (pc' := 15) rfl (t := 20) rfl (fun c2 => ?_) (fun c2 => ?_)
    · replace h := it_t c2 h
      refine ev_iconst dX3_rangeFault_20 (pc' := 21) (v := 0) rfl (by decide) ?_
      obtain rfl := h
      exact ev_ireturn dX3_rangeFault_21 rfl q
    · replace h := it_f c2 h
      refine ev_bipush dX3_rangeFault_15 (pc' := 17) (v := (-6)) rfl (by decide) ?_
      refine ev_goto dX3_rangeFault_17 (t := 21) rfl ?_
      obtain rfl := h
      exact ev_ireturn dX3_rangeFault_21 rfl q
  · replace h := it_f c1 h
    refine ev_bipush dX3_rangeFault_5 (pc' := 7) (v := (-4)) rfl (by decide) ?_
    refine ev_goto dX3_rangeFault_7 (t := 21) rfl ?_
    obtain rfl := h
    exact ev_ireturn dX3_rangeFault_21 rfl q
def X3_firstOf (a1 : Int32) (a2 : Int32) (a3 : Int32) : Int32 := if a1 = 0 then (if a2 = 0 then (a3) else (a2)) else (a1)
set_option maxRecDepth 100000 in
set_option maxHeartbeats 8000000 in
theorem X3_firstOf_ca {S : Sc} {d : Nat} {a1 : Int32} {a2 : Int32} {a3 : Int32} {mem : Mm} {rr : Int32} {Q : Po}  (h : X3_firstOf a1 a2 a3 = rr) (q : Q (some (.int rr)) mem) : Ca S (d + 1) 85 [.int a1, .int a2, .int a3] mem Q := by
  unfold X3_firstOf at h
  refine ca_in (by decide) mt_X3_firstOf (Nat.le_of_ble_eq_true rfl) ?_
  show Ev S (d + 0) 3 cX3_firstOf (some .int) 0 [some (.int a1), some (.int a2), some (.int a3)] [] mem Q
  refine ev_iload_n dX3_firstOf_0 (pc' := 1) rfl rfl ?_
  refine ev_if_eq dX3_firstOf_1 (pc' := 4) rfl (t := 8) rfl (fun c1 => ?_) (fun c1 => ?_)
  · replace h := it_t c1 h
    refine ev_iload_n dX3_firstOf_8 (pc' := 9) rfl rfl ?_
    refine ev_if_eq dX3_firstOf_9 (pc' := 12) rfl (t := 16) rfl (fun c2 => ?_) (fun c2 => ?_)
    · replace h := it_t c2 h
      refine ev_iload_n dX3_firstOf_16 (pc' := 17) rfl rfl ?_
      obtain rfl := h
      exact ev_ireturn dX3_firstOf_17 rfl q
    · replace h := it_f c2 h
      refine ev_iload_n dX3_firstOf_12 (pc' := 13) rfl rfl ?_
      refine ev_goto dX3_firstOf_13 (t := 17) rfl ?_
      obtain rfl := h
      exact ev_ireturn dX3_firstOf_17 rfl q
  · replace h := it_f c1 h
    refine ev_iload_n dX3_firstOf_4 (pc' := 5) rfl rfl ?_
    refine ev_goto dX3_firstOf_5 (t := 17) rfl ?_
    obtain rfl := h
    exact ev_ireturn dX3_firstOf_17 rfl q
def X2_addCask (o : Nat) (a1 : Int32) (a2 : Int32) (a3 : Int32) (a4 : Int32) (a5 : Int32) (mem : Mm) : Option (Int32 × Mm) := if (mem o 2) < 7 then (nm (X3_firstOf (X3_rangeFault a2 1 400) (X3_rangeFault a3 0 a2) 0) (fun v2 => if v2 = 0 then (ob (X2_at o (mem o 2)) (fun y4 => nm (mset mem y4 0 a1) (fun m5 => nm (mset m5 y4 1 a2) (fun m6 => nm (mset m6 y4 2 a3) (fun m7 => nm (mset m7 y4 3 a4) (fun m8 => nm (mset m8 y4 4 a5) (fun m9 => nm (mset m9 y4 5 0) (fun m10 => nm (mset m10 o 2 ((m10 o 2) + 1)) (fun m11 => some (0, m11)))))))))) else (some (v2, mem)))) else (nm (X3_firstOf (X3_rangeFault a2 1 400) (X3_rangeFault a3 0 a2) (-6)) (fun v12 => if v12 = 0 then (ob (X2_at o (mem o 2)) (fun y14 => nm (mset mem y14 0 a1) (fun m15 => nm (mset m15 y14 1 a2) (fun m16 => nm (mset m16 y14 2 a3) (fun m17 => nm (mset m17 y14 3 a4) (fun m18 => nm (mset m18 y14 4 a5) (fun m19 => nm (mset m19 y14 5 0) (fun m20 => nm (mset m20 o 2 ((m20 o 2) + 1)) (fun m21 => some (0, m21)))))))))) else (some (v12, mem))))
set_option maxRecDepth 100000 in
set_option maxHeartbeats 8000000 in
theorem X2_addCask_ca {S : Sc} {d : Nat} {o : Nat} {a1 : Int32} {a2 : Int32} {a3 : Int32} {a4 : Int32} {a5 : Int32} {mem : Mm} {rr : Int32} {mr : Mm} {Q : Po} (h_o : kdp o 2) (h : X2_addCask o a1 a2 a3 a4 a5 mem = some (rr, mr)) (q : Q (some (.int rr)) mr) : Ca S (d + 2) 35 [.ref o, .int a1, .int a2, .int a3, .int a4, .int a5] mem Q := by
  unfold X2_addCask at h
  refine ca_in (by decide) mt_X2_addCask (Nat.le_of_ble_eq_true rfl) ?_
  show Ev S (d + 1) 2 cX2_addCask (some .int) 0 [some (.ref o), some (.int a1), some (.int a2), some (.int a3), some (.int a4), some (.int a5), none, none] [] mem Q
  refine ev_iload_n dX2_addCask_0 (pc' := 1) rfl rfl ?_
  refine ev_iconst dX2_addCask_1 (pc' := 2) (v := 1) rfl (by decide) ?_
  refine ev_sipush dX2_addCask_2 (pc' := 5) (v := 400) rfl (by decide) ?_
  refine ev_invS dX2_addCask_5 (pc' := 8) rfl sq_2_46 mt_X3_rangeFault rfl ⟨_, rfl, Nat.le_of_ble_eq_true rfl, Nat.le_of_ble_eq_true rfl, rfl, rfl⟩ ?_
  refine X3_rangeFault_ca  rfl ?_
  refine ev_r1 ?_
  refine ev_iload_n dX2_addCask_8 (pc' := 9) rfl rfl ?_
  refine ev_iconst dX2_addCask_9 (pc' := 10) (v := 0) rfl (by decide) ?_
  refine ev_iload_n dX2_addCask_10 (pc' := 11) rfl rfl ?_
  refine ev_invS dX2_addCask_11 (pc' := 14) rfl sq_2_46 mt_X3_rangeFault rfl ⟨_, rfl, Nat.le_of_ble_eq_true rfl, Nat.le_of_ble_eq_true rfl, rfl, rfl⟩ ?_
  refine X3_rangeFault_ca  rfl ?_
  refine ev_r1 ?_
  refine ev_aload_n dX2_addCask_14 (pc' := 15) rfl rfl ?_
  refine ev_get dX2_addCask_15 (pc' := 18) rfl fq_2_22 h_o rfl ?_
  refine ev_bipush dX2_addCask_18 (pc' := 20) (v := 7) rfl (by decide) ?_
  refine ev_icmp_lt dX2_addCask_20 (pc' := 23) rfl (t := 28) rfl (fun c1 => ?_) (fun c1 => ?_)
  · replace h := it_t c1 h
    refine ev_iconst dX2_addCask_28 (pc' := 29) (v := 0) rfl (by decide) ?_
    refine ev_invS dX2_addCask_29 (pc' := 32) rfl sq_2_50 mt_X3_firstOf rfl ⟨_, rfl, Nat.le_of_ble_eq_true rfl, Nat.le_of_ble_eq_true rfl, rfl, rfl⟩ ?_
    refine X3_firstOf_ca  rfl ?_
    refine ev_r1 ?_
    refine ev_topi (fun v2 e_v2 => ?_)
    replace h := nm_at e_v2 h
    refine ev_istore dX2_addCask_32 (pc' := 34) (ls' := [some (.ref o), some (.int a1), some (.int a2), some (.int a3), some (.int a4), some (.int a5), some (.int v2), none]) rfl (Nat.le_of_ble_eq_true rfl) rfl ?_
    refine ev_iload dX2_addCask_34 (pc' := 36) rfl rfl ?_
    refine ev_if_eq dX2_addCask_36 (pc' := 39) rfl (t := 42) rfl (fun c3 => ?_) (fun c3 => ?_)
    · replace h := it_t c3 h
      refine ev_aload_n dX2_addCask_42 (pc' := 43) rfl rfl ?_
      refine ev_aload_n dX2_addCask_43 (pc' := 44) rfl rfl ?_
      refine ev_get dX2_addCask_44 (pc' := 47) rfl fq_2_22 h_o rfl ?_
      obtain ⟨y4, x_y4, h⟩ := ob_of h
      refine ev_invV dX2_addCask_47 (pc' := 50) rfl sq_2_38 mt_X2_at rfl (arecv_ob (x := o) rfl rfl (by decide) h_o) ⟨_, rfl, Nat.le_of_ble_eq_true rfl, Nat.le_of_ble_eq_true rfl, rfl, rfl⟩ ?_
      refine X2_at_ca h_o x_y4 ?_
      refine ev_r1 ?_
      refine ev_astore dX2_addCask_50 (pc' := 52) (ls' := [some (.ref o), some (.int a1), some (.int a2), some (.int a3), some (.int a4), some (.int a5), some (.int v2), some (.ref y4)]) rfl (Nat.le_of_ble_eq_true rfl) rfl ?_
      refine ev_aload dX2_addCask_52 (pc' := 54) rfl rfl ?_
      refine ev_iload_n dX2_addCask_54 (pc' := 55) rfl rfl ?_
      refine ev_put dX2_addCask_55 (pc' := 58) rfl fq_2_53 (X2_at_kd h_o x_y4) rfl (Or.inl (by decide)) ?_
      refine ev_topm (fun m5 e_m5 => ?_)
      replace h := nm_at e_m5 h
      refine ev_aload dX2_addCask_58 (pc' := 60) rfl rfl ?_
      refine ev_iload_n dX2_addCask_60 (pc' := 61) rfl rfl ?_
      refine ev_put dX2_addCask_61 (pc' := 64) rfl fq_2_56 (X2_at_kd h_o x_y4) rfl (Or.inl (by decide)) ?_
      refine ev_topm (fun m6 e_m6 => ?_)
      replace h := nm_at e_m6 h
      refine ev_aload dX2_addCask_64 (pc' := 66) rfl rfl ?_
      refine ev_iload_n dX2_addCask_66 (pc' := 67) rfl rfl ?_
      refine ev_put dX2_addCask_67 (pc' := 70) rfl fq_2_59 (X2_at_kd h_o x_y4) rfl (Or.inl (by decide)) ?_
      refine ev_topm (fun m7 e_m7 => ?_)
      replace h := nm_at e_m7 h
      refine ev_aload dX2_addCask_70 (pc' := 72) rfl rfl ?_
      refine ev_iload dX2_addCask_72 (pc' := 74) rfl rfl ?_
      refine ev_put dX2_addCask_74 (pc' := 77) rfl fq_2_62 (X2_at_kd h_o x_y4) rfl (Or.inl (by decide)) ?_
      refine ev_topm (fun m8 e_m8 => ?_)
      replace h := nm_at e_m8 h
      refine ev_aload dX2_addCask_77 (pc' := 79) rfl rfl ?_
      refine ev_iload dX2_addCask_79 (pc' := 81) rfl rfl ?_
      refine ev_put dX2_addCask_81 (pc' := 84) rfl fq_2_65 (X2_at_kd h_o x_y4) rfl (Or.inl (by decide)) ?_
      refine ev_topm (fun m9 e_m9 => ?_)
      replace h := nm_at e_m9 h
      refine ev_aload dX2_addCask_84 (pc' := 86) rfl rfl ?_
      refine ev_iconst dX2_addCask_86 (pc' := 87) (v := 0) rfl (by decide) ?_
      refine ev_put dX2_addCask_87 (pc' := 90) rfl fq_2_68 (X2_at_kd h_o x_y4) rfl (Or.inl (by decide)) ?_
      refine ev_topm (fun m10 e_m10 => ?_)
      replace h := nm_at e_m10 h
      refine ev_aload_n dX2_addCask_90 (pc' := 91) rfl rfl ?_
      refine ev_dup dX2_addCask_91 (pc' := 92) rfl rfl ?_
      refine ev_get dX2_addCask_92 (pc' := 95) rfl fq_2_22 h_o rfl ?_
      refine ev_iconst dX2_addCask_95 (pc' := 96) (v := 1) rfl (by decide) ?_
      refine ev_iadd dX2_addCask_96 (pc' := 97) rfl ?_
      refine ev_put dX2_addCask_97 (pc' := 100) rfl fq_2_22 h_o rfl (Or.inl (by decide)) ?_
      refine ev_topm (fun m11 e_m11 => ?_)
      replace h := nm_at e_m11 h
      refine ev_iconst dX2_addCask_100 (pc' := 101) (v := 0) rfl (by decide) ?_
      obtain ⟨rfl, rfl⟩ := rt2 h
      exact ev_ireturn dX2_addCask_101 rfl q
    · replace h := it_f c3 h
      refine ev_iload dX2_addCask_39 (pc' := 41) rfl rfl ?_
      obtain ⟨rfl, rfl⟩ := rt2 h
      exact ev_ireturn dX2_addCask_41 rfl q
  · replace h := it_f c1 h
    refine ev_bipush dX2_addCask_23 (pc' := 25) (v := (-6)) rfl (by decide) ?_
    refine ev_goto dX2_addCask_25 (t := 29) rfl ?_
    refine ev_invS dX2_addCask_29 (pc' := 32) rfl sq_2_50 mt_X3_firstOf rfl ⟨_, rfl, Nat.le_of_ble_eq_true rfl, Nat.le_of_ble_eq_true rfl, rfl, rfl⟩ ?_
    refine X3_firstOf_ca  rfl ?_
    refine ev_r1 ?_
    refine ev_topi (fun v12 e_v12 => ?_)
    replace h := nm_at e_v12 h
    refine ev_istore dX2_addCask_32 (pc' := 34) (ls' := [some (.ref o), some (.int a1), some (.int a2), some (.int a3), some (.int a4), some (.int a5), some (.int v12), none]) rfl (Nat.le_of_ble_eq_true rfl) rfl ?_
    refine ev_iload dX2_addCask_34 (pc' := 36) rfl rfl ?_
    refine ev_if_eq dX2_addCask_36 (pc' := 39) rfl (t := 42) rfl (fun c13 => ?_) (fun c13 => ?_)
    · replace h := it_t c13 h
      refine ev_aload_n dX2_addCask_42 (pc' := 43) rfl rfl ?_
      refine ev_aload_n dX2_addCask_43 (pc' := 44) rfl rfl ?_
      refine ev_get dX2_addCask_44 (pc' := 47) rfl fq_2_22 h_o rfl ?_
      obtain ⟨y14, x_y14, h⟩ := ob_of h
      refine ev_invV dX2_addCask_47 (pc' := 50) rfl sq_2_38 mt_X2_at rfl (arecv_ob (x := o) rfl rfl (by decide) h_o) ⟨_, rfl, Nat.le_of_ble_eq_true rfl, Nat.le_of_ble_eq_true rfl, rfl, rfl⟩ ?_
      refine X2_at_ca h_o x_y14 ?_
      refine ev_r1 ?_
      refine ev_astore dX2_addCask_50 (pc' := 52) (ls' := [some (.ref o), some (.int a1), some (.int a2), some (.int a3), some (.int a4), some (.int a5), some (.int v12), some (.ref y14)]) rfl (Nat.le_of_ble_eq_true rfl) rfl ?_
      refine ev_aload dX2_addCask_52 (pc' := 54) rfl rfl ?_
      refine ev_iload_n dX2_addCask_54 (pc' := 55) rfl rfl ?_
      refine ev_put dX2_addCask_55 (pc' := 58) rfl fq_2_53 (X2_at_kd h_o x_y14) rfl (Or.inl (by decide)) ?_
      refine ev_topm (fun m15 e_m15 => ?_)
      replace h := nm_at e_m15 h
      refine ev_aload dX2_addCask_58 (pc' := 60) rfl rfl ?_
      refine ev_iload_n dX2_addCask_60 (pc' := 61) rfl rfl ?_
      refine ev_put dX2_addCask_61 (pc' := 64) rfl fq_2_56 (X2_at_kd h_o x_y14) rfl (Or.inl (by decide)) ?_
      refine ev_topm (fun m16 e_m16 => ?_)
      replace h := nm_at e_m16 h
      refine ev_aload dX2_addCask_64 (pc' := 66) rfl rfl ?_
      refine ev_iload_n dX2_addCask_66 (pc' := 67) rfl rfl ?_
      refine ev_put dX2_addCask_67 (pc' := 70) rfl fq_2_59 (X2_at_kd h_o x_y14) rfl (Or.inl (by decide)) ?_
      refine ev_topm (fun m17 e_m17 => ?_)
      replace h := nm_at e_m17 h
      refine ev_aload dX2_addCask_70 (pc' := 72) rfl rfl ?_
      refine ev_iload dX2_addCask_72 (pc' := 74) rfl rfl ?_
      refine ev_put dX2_addCask_74 (pc' := 77) rfl fq_2_62 (X2_at_kd h_o x_y14) rfl (Or.inl (by decide)) ?_
      refine ev_topm (fun m18 e_m18 => ?_)
      replace h := nm_at e_m18 h
      refine ev_aload dX2_addCask_77 (pc' := 79) rfl rfl ?_
      refine ev_iload dX2_addCask_79 (pc' := 81) rfl rfl ?_
      refine ev_put dX2_addCask_81 (pc' := 84) rfl fq_2_65 (X2_at_kd h_o x_y14) rfl (Or.inl (by decide)) ?_
      refine ev_topm (fun m19 e_m19 => ?_)
      replace h := nm_at e_m19 h
      refine ev_aload dX2_addCask_84 (pc' := 86) rfl rfl ?_
      refine ev_iconst dX2_addCask_86 (pc' := 87) (v := 0) rfl (by decide) ?_
      refine ev_put dX2_addCask_87 (pc' := 90) rfl fq_2_68 (X2_at_kd h_o x_y14) rfl (Or.inl (by decide)) ?_
      refine ev_topm (fun m20 e_m20 => ?_)
      replace h := nm_at e_m20 h
      refine ev_aload_n dX2_addCask_90 (pc' := 91) rfl rfl ?_
      refine ev_dup dX2_addCask_91 (pc' := 92) rfl rfl ?_
      refine ev_get dX2_addCask_92 (pc' := 95) rfl fq_2_22 h_o rfl ?_
      refine ev_iconst dX2_addCask_95 (pc' := 96) (v := 1) rfl (by decide) ?_
      refine ev_iadd dX2_addCask_96 (pc' := 97) rfl ?_
      refine ev_put dX2_addCask_97 (pc' := 100) rfl fq_2_22 h_o rfl (Or.inl (by decide)) ?_
      refine ev_topm (fun m21 e_m21 => ?_)
      replace h := nm_at e_m21 h
      refine ev_iconst dX2_addCask_100 (pc' := 101) (v := 0) rfl (by decide) ?_
      obtain ⟨rfl, rfl⟩ := rt2 h
      exact ev_ireturn dX2_addCask_101 rfl q
    · replace h := it_f c13 h
      refine ev_iload dX2_addCask_39 (pc' := 41) rfl rfl ?_
      obtain ⟨rfl, rfl⟩ := rt2 h
      exact ev_ireturn dX2_addCask_41 rfl q
def X2_chosen (o : Nat) (a1 : Int32) (mem : Mm) : Int32 := if a1 = 0 then ((mem o 3)) else (if a1 = 1 then ((mem o 4)) else ((mem o 5)))
set_option maxRecDepth 100000 in
set_option maxHeartbeats 8000000 in
theorem X2_chosen_ca {S : Sc} {d : Nat} {o : Nat} {a1 : Int32} {mem : Mm} {rr : Int32} {Q : Po} (h_o : kdp o 2) (h : X2_chosen o a1 mem = rr) (q : Q (some (.int rr)) mem) : Ca S (d + 1) 36 [.ref o, .int a1] mem Q := by
  unfold X2_chosen at h
  refine ca_in (by decide) mt_X2_chosen (Nat.le_of_ble_eq_true rfl) ?_
  show Ev S (d + 0) 2 cX2_chosen (some .int) 0 [some (.ref o), some (.int a1)] [] mem Q
  refine ev_iload_n dX2_chosen_0 (pc' := 1) rfl rfl ?_
  refine ev_if_ne dX2_chosen_1 (pc' := 4) rfl (t := 11) rfl (fun c1 => ?_) (fun c1 => ?_)
  · replace h := it_f c1 h
    refine ev_iload_n dX2_chosen_11 (pc' := 12) rfl rfl ?_
    refine ev_iconst dX2_chosen_12 (pc' := 13) (v := 1) rfl (by decide) ?_
    refine ev_icmp_ne dX2_chosen_13 (pc' := 16) rfl (t := 23) rfl (fun c2 => ?_) (fun c2 => ?_)
    · replace h := it_f c2 h
      refine ev_aload_n dX2_chosen_23 (pc' := 24) rfl rfl ?_
      refine ev_get dX2_chosen_24 (pc' := 27) rfl fq_2_32 h_o rfl ?_
      obtain rfl := h
      exact ev_ireturn dX2_chosen_27 rfl q
    · replace h := it_t c2 h
      refine ev_aload_n dX2_chosen_16 (pc' := 17) rfl rfl ?_
      refine ev_get dX2_chosen_17 (pc' := 20) rfl fq_2_29 h_o rfl ?_
      refine ev_goto dX2_chosen_20 (t := 27) rfl ?_
      obtain rfl := h
      exact ev_ireturn dX2_chosen_27 rfl q
  · replace h := it_t c1 h
    refine ev_aload_n dX2_chosen_4 (pc' := 5) rfl rfl ?_
    refine ev_get dX2_chosen_5 (pc' := 8) rfl fq_2_26 h_o rfl ?_
    refine ev_goto dX2_chosen_8 (t := 27) rfl ?_
    obtain rfl := h
    exact ev_ireturn dX2_chosen_27 rfl q
def X3_whatFault (a1 : Int32) (a2 : Int32) : Int32 := if a1 < 0 then ((-2)) else (if a1 ≤ a2 then (0) else ((-2)))
set_option maxRecDepth 100000 in
set_option maxHeartbeats 8000000 in
theorem X3_whatFault_ca {S : Sc} {d : Nat} {a1 : Int32} {a2 : Int32} {mem : Mm} {rr : Int32} {Q : Po}  (h : X3_whatFault a1 a2 = rr) (q : Q (some (.int rr)) mem) : Ca S (d + 1) 87 [.int a1, .int a2] mem Q := by
  unfold X3_whatFault at h
  refine ca_in (by decide) mt_X3_whatFault (Nat.le_of_ble_eq_true rfl) ?_
  show Ev S (d + 0) 3 cX3_whatFault (some .int) 0 [some (.int a1), some (.int a2)] [] mem Q
  refine ev_iload_n dX3_whatFault_0 (pc' := 1) rfl rfl ?_
  refine ev_if_lt dX3_whatFault_1 (pc' := 4) rfl (t := 9) rfl (fun c1 => ?_) (fun c1 => ?_)
  · replace h := it_t c1 h
    refine ev_bipush dX3_whatFault_9 (pc' := 11) (v := (-2)) rfl (by decide) ?_
    refine ev_goto dX3_whatFault_11 (t := 15) rfl ?_
    obtain rfl := h
    exact ev_ireturn dX3_whatFault_15 rfl q
  · replace h := it_f c1 h
    refine ev_iload_n dX3_whatFault_4 (pc' := 5) rfl rfl ?_
    refine ev_iload_n dX3_whatFault_5 (pc' := 6) rfl rfl ?_
    refine ev_icmp_le dX3_whatFault_6 (pc' := 9) rfl (t := 14) rfl (fun c2 => ?_) (fun c2 => ?_)
    · replace h := it_t c2 h
      refine ev_iconst dX3_whatFault_14 (pc' := 15) (v := 0) rfl (by decide) ?_
      obtain rfl := h
      exact ev_ireturn dX3_whatFault_15 rfl q
    · replace h := it_f c2 h
      refine ev_bipush dX3_whatFault_9 (pc' := 11) (v := (-2)) rfl (by decide) ?_
      refine ev_goto dX3_whatFault_11 (t := 15) rfl ?_
      obtain rfl := h
      exact ev_ireturn dX3_whatFault_15 rfl q
def X3_leastChoice (a1 : Int32) : Int32 := if a1 = 1 then (1) else (0)
set_option maxRecDepth 100000 in
set_option maxHeartbeats 8000000 in
theorem X3_leastChoice_ca {S : Sc} {d : Nat} {a1 : Int32} {mem : Mm} {rr : Int32} {Q : Po}  (h : X3_leastChoice a1 = rr) (q : Q (some (.int rr)) mem) : Ca S (d + 1) 91 [.int a1] mem Q := by
  unfold X3_leastChoice at h
  refine ca_in (by decide) mt_X3_leastChoice (Nat.le_of_ble_eq_true rfl) ?_
  show Ev S (d + 0) 3 cX3_leastChoice (some .int) 0 [some (.int a1)] [] mem Q
  refine ev_iload_n dX3_leastChoice_0 (pc' := 1) rfl rfl ?_
  refine ev_iconst dX3_leastChoice_1 (pc' := 2) (v := 1) rfl (by decide) ?_
  refine ev_icmp_ne dX3_leastChoice_2 (pc' := 5) rfl (t := 9) rfl (fun c1 => ?_) (fun c1 => ?_)
  · replace h := it_f c1 h
    refine ev_iconst dX3_leastChoice_9 (pc' := 10) (v := 0) rfl (by decide) ?_
    obtain rfl := h
    exact ev_ireturn dX3_leastChoice_10 rfl q
  · replace h := it_t c1 h
    refine ev_iconst dX3_leastChoice_5 (pc' := 6) (v := 1) rfl (by decide) ?_
    refine ev_goto dX3_leastChoice_6 (t := 10) rfl ?_
    obtain rfl := h
    exact ev_ireturn dX3_leastChoice_10 rfl q
def X3_mostChoice (a1 : Int32) : Int32 := if a1 = 0 then (40) else (9)
set_option maxRecDepth 100000 in
set_option maxHeartbeats 8000000 in
theorem X3_mostChoice_ca {S : Sc} {d : Nat} {a1 : Int32} {mem : Mm} {rr : Int32} {Q : Po}  (h : X3_mostChoice a1 = rr) (q : Q (some (.int rr)) mem) : Ca S (d + 1) 92 [.int a1] mem Q := by
  unfold X3_mostChoice at h
  refine ca_in (by decide) mt_X3_mostChoice (Nat.le_of_ble_eq_true rfl) ?_
  show Ev S (d + 0) 3 cX3_mostChoice (some .int) 0 [some (.int a1)] [] mem Q
  refine ev_iload_n dX3_mostChoice_0 (pc' := 1) rfl rfl ?_
  refine ev_if_ne dX3_mostChoice_1 (pc' := 4) rfl (t := 9) rfl (fun c1 => ?_) (fun c1 => ?_)
  · replace h := it_f c1 h
    refine ev_bipush dX3_mostChoice_9 (pc' := 11) (v := 9) rfl (by decide) ?_
    obtain rfl := h
    exact ev_ireturn dX3_mostChoice_11 rfl q
  · replace h := it_t c1 h
    refine ev_bipush dX3_mostChoice_4 (pc' := 6) (v := 40) rfl (by decide) ?_
    refine ev_goto dX3_mostChoice_6 (t := 11) rfl ?_
    obtain rfl := h
    exact ev_ireturn dX3_mostChoice_11 rfl q
def X2_choose (o : Nat) (a1 : Int32) (a2 : Int32) (mem : Mm) : (Int32 × Mm) := nm (X3_firstOf (X3_whatFault a1 2) (X3_rangeFault a2 (X3_leastChoice a1) (X3_mostChoice a1)) 0) (fun v1 => if v1 = 0 then (if a1 = 0 then (nm (mset mem o 3 a2) (fun m4 => (0, m4))) else (if a1 = 1 then (nm (mset mem o 4 a2) (fun m6 => (0, m6))) else (nm (mset mem o 5 a2) (fun m7 => (0, m7))))) else ((v1, mem)))
set_option maxRecDepth 100000 in
set_option maxHeartbeats 8000000 in
theorem X2_choose_ca {S : Sc} {d : Nat} {o : Nat} {a1 : Int32} {a2 : Int32} {mem : Mm} {rr : Int32} {mr : Mm} {Q : Po} (h_o : kdp o 2) (h : X2_choose o a1 a2 mem = (rr, mr)) (q : Q (some (.int rr)) mr) : Ca S (d + 2) 37 [.ref o, .int a1, .int a2] mem Q := by
  unfold X2_choose at h
  refine ca_in (by decide) mt_X2_choose (Nat.le_of_ble_eq_true rfl) ?_
  show Ev S (d + 1) 2 cX2_choose (some .int) 0 [some (.ref o), some (.int a1), some (.int a2), none] [] mem Q
  refine ev_iload_n dX2_choose_0 (pc' := 1) rfl rfl ?_
  refine ev_iconst dX2_choose_1 (pc' := 2) (v := 2) rfl (by decide) ?_
  refine ev_invS dX2_choose_2 (pc' := 5) rfl sq_2_71 mt_X3_whatFault rfl ⟨_, rfl, Nat.le_of_ble_eq_true rfl, Nat.le_of_ble_eq_true rfl, rfl, rfl⟩ ?_
  refine X3_whatFault_ca  rfl ?_
  refine ev_r1 ?_
  refine ev_iload_n dX2_choose_5 (pc' := 6) rfl rfl ?_
  refine ev_iload_n dX2_choose_6 (pc' := 7) rfl rfl ?_
  refine ev_invS dX2_choose_7 (pc' := 10) rfl sq_2_75 mt_X3_leastChoice rfl ⟨_, rfl, Nat.le_of_ble_eq_true rfl, Nat.le_of_ble_eq_true rfl, rfl, rfl⟩ ?_
  refine X3_leastChoice_ca  rfl ?_
  refine ev_r1 ?_
  refine ev_iload_n dX2_choose_10 (pc' := 11) rfl rfl ?_
  refine ev_invS dX2_choose_11 (pc' := 14) rfl sq_2_79 mt_X3_mostChoice rfl ⟨_, rfl, Nat.le_of_ble_eq_true rfl, Nat.le_of_ble_eq_true rfl, rfl, rfl⟩ ?_
  refine X3_mostChoice_ca  rfl ?_
  refine ev_r1 ?_
  refine ev_invS dX2_choose_14 (pc' := 17) rfl sq_2_46 mt_X3_rangeFault rfl ⟨_, rfl, Nat.le_of_ble_eq_true rfl, Nat.le_of_ble_eq_true rfl, rfl, rfl⟩ ?_
  refine X3_rangeFault_ca  rfl ?_
  refine ev_r1 ?_
  refine ev_iconst dX2_choose_17 (pc' := 18) (v := 0) rfl (by decide) ?_
  refine ev_invS dX2_choose_18 (pc' := 21) rfl sq_2_50 mt_X3_firstOf rfl ⟨_, rfl, Nat.le_of_ble_eq_true rfl, Nat.le_of_ble_eq_true rfl, rfl, rfl⟩ ?_
  refine X3_firstOf_ca  rfl ?_
  refine ev_r1 ?_
  refine ev_topi (fun v1 e_v1 => ?_)
  replace h := nm_at e_v1 h
  refine ev_istore_n dX2_choose_21 (pc' := 22) (ls' := [some (.ref o), some (.int a1), some (.int a2), some (.int v1)]) rfl (Nat.le_of_ble_eq_true rfl) rfl ?_
  refine ev_iload_n dX2_choose_22 (pc' := 23) rfl rfl ?_
  refine ev_if_eq dX2_choose_23 (pc' := 26) rfl (t := 28) rfl (fun c2 => ?_) (fun c2 => ?_)
  · replace h := it_t c2 h
    refine ev_iload_n dX2_choose_28 (pc' := 29) rfl rfl ?_
    by_cases c3 : a1 = 0
    · replace h := it_t c3 h
      refine ev_lookupIn dX2_choose_29 rfl c3 rfl (t := 56) rfl ?_
      refine ev_aload_n dX2_choose_56 (pc' := 57) rfl rfl ?_
      refine ev_iload_n dX2_choose_57 (pc' := 58) rfl rfl ?_
      refine ev_put dX2_choose_58 (pc' := 61) rfl fq_2_26 h_o rfl (Or.inl (by decide)) ?_
      refine ev_topm (fun m4 e_m4 => ?_)
      replace h := nm_at e_m4 h
      refine ev_goto dX2_choose_61 (t := 77) rfl ?_
      refine ev_iconst dX2_choose_77 (pc' := 78) (v := 0) rfl (by decide) ?_
      obtain ⟨rfl, rfl⟩ := rt2t h
      exact ev_ireturn dX2_choose_78 rfl q
    · replace h := it_f c3 h
      by_cases c5 : a1 = 1
      · replace h := it_t c5 h
        refine ev_lookupIn dX2_choose_29 rfl c5 rfl (t := 64) rfl ?_
        refine ev_aload_n dX2_choose_64 (pc' := 65) rfl rfl ?_
        refine ev_iload_n dX2_choose_65 (pc' := 66) rfl rfl ?_
        refine ev_put dX2_choose_66 (pc' := 69) rfl fq_2_29 h_o rfl (Or.inl (by decide)) ?_
        refine ev_topm (fun m6 e_m6 => ?_)
        replace h := nm_at e_m6 h
        refine ev_goto dX2_choose_69 (t := 77) rfl ?_
        refine ev_iconst dX2_choose_77 (pc' := 78) (v := 0) rfl (by decide) ?_
        obtain ⟨rfl, rfl⟩ := rt2t h
        exact ev_ireturn dX2_choose_78 rfl q
      · replace h := it_f c5 h
        refine ev_lookupDef dX2_choose_29 rfl [0, 1] (by decide) (List.forall_mem_cons.mpr ⟨c3, List.forall_mem_cons.mpr ⟨c5, fun _ h => absurd h List.not_mem_nil⟩⟩) (t := 72) rfl ?_
        refine ev_aload_n dX2_choose_72 (pc' := 73) rfl rfl ?_
        refine ev_iload_n dX2_choose_73 (pc' := 74) rfl rfl ?_
        refine ev_put dX2_choose_74 (pc' := 77) rfl fq_2_32 h_o rfl (Or.inl (by decide)) ?_
        refine ev_topm (fun m7 e_m7 => ?_)
        replace h := nm_at e_m7 h
        refine ev_iconst dX2_choose_77 (pc' := 78) (v := 0) rfl (by decide) ?_
        obtain ⟨rfl, rfl⟩ := rt2t h
        exact ev_ireturn dX2_choose_78 rfl q
  · replace h := it_f c2 h
    refine ev_iload_n dX2_choose_26 (pc' := 27) rfl rfl ?_
    obtain ⟨rfl, rfl⟩ := rt2t h
    exact ev_ireturn dX2_choose_27 rfl q
def X2_pourFault (o : Nat) (a1 : Int32) (a2 : Int32) (a3 : Int32) (mem : Mm) : Option Int32 := if a1 = a2 then (nm (X3_firstOf (X2_caskFault o a1 mem) (X2_caskFault o a2 mem) (-1)) (fun v2 => if v2 = 0 then (nm (X3_rangeFault a3 1 400) (fun v4 => if v4 = 0 then (ob (X2_at o a2) (fun y6 => ob (X2_at o a1) (fun y7 => if (mem y7 2) < a3 then (some (-3)) else (if a3 ≤ ((mem y6 1) - (mem y6 2)) then (some 0) else (some (-3)))))) else (some v4))) else (some v2))) else (nm (X3_firstOf (X2_caskFault o a1 mem) (X2_caskFault o a2 mem) 0) (fun v10 => if v10 = 0 then (nm (X3_rangeFault a3 1 400) (fun v12 => if v12 = 0 then (ob (X2_at o a2) (fun y14 => ob (X2_at o a1) (fun y15 => if (mem y15 2) < a3 then (some (-3)) else (if a3 ≤ ((mem y14 1) - (mem y14 2)) then (some 0) else (some (-3)))))) else (some v12))) else (some v10)))
set_option maxRecDepth 100000 in
set_option maxHeartbeats 8000000 in
theorem X2_pourFault_ca {S : Sc} {d : Nat} {o : Nat} {a1 : Int32} {a2 : Int32} {a3 : Int32} {mem : Mm} {rr : Int32} {Q : Po} (h_o : kdp o 2) (h : X2_pourFault o a1 a2 a3 mem = some rr) (q : Q (some (.int rr)) mem) : Ca S (d + 2) 38 [.ref o, .int a1, .int a2, .int a3] mem Q := by
  unfold X2_pourFault at h
  refine ca_in (by decide) mt_X2_pourFault (Nat.le_of_ble_eq_true rfl) ?_
  show Ev S (d + 1) 2 cX2_pourFault (some .int) 0 [some (.ref o), some (.int a1), some (.int a2), some (.int a3), none, none] [] mem Q
  refine ev_aload_n dX2_pourFault_0 (pc' := 1) rfl rfl ?_
  refine ev_iload_n dX2_pourFault_1 (pc' := 2) rfl rfl ?_
  refine ev_invV dX2_pourFault_2 (pc' := 5) rfl sq_2_82 mt_X2_caskFault rfl (arecv_ob (x := o) rfl rfl (by decide) h_o) ⟨_, rfl, Nat.le_of_ble_eq_true rfl, Nat.le_of_ble_eq_true rfl, rfl, rfl⟩ ?_
  refine X2_caskFault_ca h_o rfl ?_
  refine ev_r1 ?_
  refine ev_aload_n dX2_pourFault_5 (pc' := 6) rfl rfl ?_
  refine ev_iload_n dX2_pourFault_6 (pc' := 7) rfl rfl ?_
  refine ev_invV dX2_pourFault_7 (pc' := 10) rfl sq_2_82 mt_X2_caskFault rfl (arecv_ob (x := o) rfl rfl (by decide) h_o) ⟨_, rfl, Nat.le_of_ble_eq_true rfl, Nat.le_of_ble_eq_true rfl, rfl, rfl⟩ ?_
  refine X2_caskFault_ca h_o rfl ?_
  refine ev_r1 ?_
  refine ev_iload_n dX2_pourFault_10 (pc' := 11) rfl rfl ?_
  refine ev_iload_n dX2_pourFault_11 (pc' := 12) rfl rfl ?_
  refine ev_icmp_ne dX2_pourFault_12 (pc' := 15) rfl (t := 19) rfl (fun c1 => ?_) (fun c1 => ?_)
  · replace h := it_f c1 h
    refine ev_iconst dX2_pourFault_19 (pc' := 20) (v := 0) rfl (by decide) ?_
    refine ev_invS dX2_pourFault_20 (pc' := 23) rfl sq_2_50 mt_X3_firstOf rfl ⟨_, rfl, Nat.le_of_ble_eq_true rfl, Nat.le_of_ble_eq_true rfl, rfl, rfl⟩ ?_
    refine X3_firstOf_ca  rfl ?_
    refine ev_r1 ?_
    refine ev_topi (fun v10 e_v10 => ?_)
    replace h := nm_at e_v10 h
    refine ev_istore dX2_pourFault_23 (pc' := 25) (ls' := [some (.ref o), some (.int a1), some (.int a2), some (.int a3), some (.int v10), none]) rfl (Nat.le_of_ble_eq_true rfl) rfl ?_
    refine ev_iload dX2_pourFault_25 (pc' := 27) rfl rfl ?_
    refine ev_if_ne dX2_pourFault_27 (pc' := 30) rfl (t := 40) rfl (fun c11 => ?_) (fun c11 => ?_)
    · replace h := it_f c11 h
      refine ev_iload dX2_pourFault_40 (pc' := 42) rfl rfl ?_
      refine ev_if_eq dX2_pourFault_42 (pc' := 45) rfl (t := 48) rfl (fun q => absurd q c11) (fun _ => ?_)
      refine ev_iload dX2_pourFault_45 (pc' := 47) rfl rfl ?_
      obtain rfl := rt1 h
      exact ev_ireturn dX2_pourFault_47 rfl q
    · replace h := it_t c11 h
      refine ev_iload_n dX2_pourFault_30 (pc' := 31) rfl rfl ?_
      refine ev_iconst dX2_pourFault_31 (pc' := 32) (v := 1) rfl (by decide) ?_
      refine ev_sipush dX2_pourFault_32 (pc' := 35) (v := 400) rfl (by decide) ?_
      refine ev_invS dX2_pourFault_35 (pc' := 38) rfl sq_2_46 mt_X3_rangeFault rfl ⟨_, rfl, Nat.le_of_ble_eq_true rfl, Nat.le_of_ble_eq_true rfl, rfl, rfl⟩ ?_
      refine X3_rangeFault_ca  rfl ?_
      refine ev_r1 ?_
      refine ev_topi (fun v12 e_v12 => ?_)
      replace h := nm_at e_v12 h
      refine ev_istore dX2_pourFault_38 (pc' := 40) (ls' := [some (.ref o), some (.int a1), some (.int a2), some (.int a3), some (.int v12), none]) rfl (Nat.le_of_ble_eq_true rfl) rfl ?_
      refine ev_iload dX2_pourFault_40 (pc' := 42) rfl rfl ?_
      refine ev_if_eq dX2_pourFault_42 (pc' := 45) rfl (t := 48) rfl (fun c13 => ?_) (fun c13 => ?_)
      · replace h := it_t c13 h
        refine ev_aload_n dX2_pourFault_48 (pc' := 49) rfl rfl ?_
        refine ev_iload_n dX2_pourFault_49 (pc' := 50) rfl rfl ?_
        obtain ⟨y14, x_y14, h⟩ := ob_of h
        refine ev_invV dX2_pourFault_50 (pc' := 53) rfl sq_2_38 mt_X2_at rfl (arecv_ob (x := o) rfl rfl (by decide) h_o) ⟨_, rfl, Nat.le_of_ble_eq_true rfl, Nat.le_of_ble_eq_true rfl, rfl, rfl⟩ ?_
        refine X2_at_ca h_o x_y14 ?_
        refine ev_r1 ?_
        refine ev_astore dX2_pourFault_53 (pc' := 55) (ls' := [some (.ref o), some (.int a1), some (.int a2), some (.int a3), some (.int v12), some (.ref y14)]) rfl (Nat.le_of_ble_eq_true rfl) rfl ?_
        refine ev_iload_n dX2_pourFault_55 (pc' := 56) rfl rfl ?_
        refine ev_aload_n dX2_pourFault_56 (pc' := 57) rfl rfl ?_
        refine ev_iload_n dX2_pourFault_57 (pc' := 58) rfl rfl ?_
        obtain ⟨y15, x_y15, h⟩ := ob_of h
        refine ev_invV dX2_pourFault_58 (pc' := 61) rfl sq_2_38 mt_X2_at rfl (arecv_ob (x := o) rfl rfl (by decide) h_o) ⟨_, rfl, Nat.le_of_ble_eq_true rfl, Nat.le_of_ble_eq_true rfl, rfl, rfl⟩ ?_
        refine X2_at_ca h_o x_y15 ?_
        refine ev_r1 ?_
        refine ev_get dX2_pourFault_61 (pc' := 64) rfl fq_2_59 (X2_at_kd h_o x_y15) rfl ?_
        refine ev_icmp_gt dX2_pourFault_64 (pc' := 67) rfl (t := 82) rfl (fun c16 => ?_) (fun c16 => ?_)
        · replace h := it_t c16 h
          refine ev_bipush dX2_pourFault_82 (pc' := 84) (v := (-3)) rfl (by decide) ?_
          refine ev_goto dX2_pourFault_84 (t := 88) rfl ?_
          obtain rfl := rt1 h
          exact ev_ireturn dX2_pourFault_88 rfl q
        · replace h := it_f c16 h
          refine ev_iload_n dX2_pourFault_67 (pc' := 68) rfl rfl ?_
          refine ev_aload dX2_pourFault_68 (pc' := 70) rfl rfl ?_
          refine ev_get dX2_pourFault_70 (pc' := 73) rfl fq_2_56 (X2_at_kd h_o x_y14) rfl ?_
          refine ev_aload dX2_pourFault_73 (pc' := 75) rfl rfl ?_
          refine ev_get dX2_pourFault_75 (pc' := 78) rfl fq_2_59 (X2_at_kd h_o x_y14) rfl ?_
          refine ev_isub dX2_pourFault_78 (pc' := 79) rfl ?_
          refine ev_icmp_le dX2_pourFault_79 (pc' := 82) rfl (t := 87) rfl (fun c17 => ?_) (fun c17 => ?_)
          · replace h := it_t c17 h
            refine ev_iconst dX2_pourFault_87 (pc' := 88) (v := 0) rfl (by decide) ?_
            obtain rfl := rt1 h
            exact ev_ireturn dX2_pourFault_88 rfl q
          · replace h := it_f c17 h
            refine ev_bipush dX2_pourFault_82 (pc' := 84) (v := (-3)) rfl (by decide) ?_
            refine ev_goto dX2_pourFault_84 (t := 88) rfl ?_
            obtain rfl := rt1 h
            exact ev_ireturn dX2_pourFault_88 rfl q
      · replace h := it_f c13 h
        refine ev_iload dX2_pourFault_45 (pc' := 47) rfl rfl ?_
        obtain rfl := rt1 h
        exact ev_ireturn dX2_pourFault_47 rfl q
  · replace h := it_t c1 h
    refine ev_iconst dX2_pourFault_15 (pc' := 16) (v := (-1)) rfl (by decide) ?_
    refine ev_goto dX2_pourFault_16 (t := 20) rfl ?_
    refine ev_invS dX2_pourFault_20 (pc' := 23) rfl sq_2_50 mt_X3_firstOf rfl ⟨_, rfl, Nat.le_of_ble_eq_true rfl, Nat.le_of_ble_eq_true rfl, rfl, rfl⟩ ?_
    refine X3_firstOf_ca  rfl ?_
    refine ev_r1 ?_
    refine ev_topi (fun v2 e_v2 => ?_)
    replace h := nm_at e_v2 h
    refine ev_istore dX2_pourFault_23 (pc' := 25) (ls' := [some (.ref o), some (.int a1), some (.int a2), some (.int a3), some (.int v2), none]) rfl (Nat.le_of_ble_eq_true rfl) rfl ?_
    refine ev_iload dX2_pourFault_25 (pc' := 27) rfl rfl ?_
    refine ev_if_ne dX2_pourFault_27 (pc' := 30) rfl (t := 40) rfl (fun c3 => ?_) (fun c3 => ?_)
    · replace h := it_f c3 h
      refine ev_iload dX2_pourFault_40 (pc' := 42) rfl rfl ?_
      refine ev_if_eq dX2_pourFault_42 (pc' := 45) rfl (t := 48) rfl (fun q => absurd q c3) (fun _ => ?_)
      refine ev_iload dX2_pourFault_45 (pc' := 47) rfl rfl ?_
      obtain rfl := rt1 h
      exact ev_ireturn dX2_pourFault_47 rfl q
    · replace h := it_t c3 h
      refine ev_iload_n dX2_pourFault_30 (pc' := 31) rfl rfl ?_
      refine ev_iconst dX2_pourFault_31 (pc' := 32) (v := 1) rfl (by decide) ?_
      refine ev_sipush dX2_pourFault_32 (pc' := 35) (v := 400) rfl (by decide) ?_
      refine ev_invS dX2_pourFault_35 (pc' := 38) rfl sq_2_46 mt_X3_rangeFault rfl ⟨_, rfl, Nat.le_of_ble_eq_true rfl, Nat.le_of_ble_eq_true rfl, rfl, rfl⟩ ?_
      refine X3_rangeFault_ca  rfl ?_
      refine ev_r1 ?_
      refine ev_topi (fun v4 e_v4 => ?_)
      replace h := nm_at e_v4 h
      refine ev_istore dX2_pourFault_38 (pc' := 40) (ls' := [some (.ref o), some (.int a1), some (.int a2), some (.int a3), some (.int v4), none]) rfl (Nat.le_of_ble_eq_true rfl) rfl ?_
      refine ev_iload dX2_pourFault_40 (pc' := 42) rfl rfl ?_
      refine ev_if_eq dX2_pourFault_42 (pc' := 45) rfl (t := 48) rfl (fun c5 => ?_) (fun c5 => ?_)
      · replace h := it_t c5 h
        refine ev_aload_n dX2_pourFault_48 (pc' := 49) rfl rfl ?_
        refine ev_iload_n dX2_pourFault_49 (pc' := 50) rfl rfl ?_
        obtain ⟨y6, x_y6, h⟩ := ob_of h
        refine ev_invV dX2_pourFault_50 (pc' := 53) rfl sq_2_38 mt_X2_at rfl (arecv_ob (x := o) rfl rfl (by decide) h_o) ⟨_, rfl, Nat.le_of_ble_eq_true rfl, Nat.le_of_ble_eq_true rfl, rfl, rfl⟩ ?_
        refine X2_at_ca h_o x_y6 ?_
        refine ev_r1 ?_
        refine ev_astore dX2_pourFault_53 (pc' := 55) (ls' := [some (.ref o), some (.int a1), some (.int a2), some (.int a3), some (.int v4), some (.ref y6)]) rfl (Nat.le_of_ble_eq_true rfl) rfl ?_
        refine ev_iload_n dX2_pourFault_55 (pc' := 56) rfl rfl ?_
        refine ev_aload_n dX2_pourFault_56 (pc' := 57) rfl rfl ?_
        refine ev_iload_n dX2_pourFault_57 (pc' := 58) rfl rfl ?_
        obtain ⟨y7, x_y7, h⟩ := ob_of h
        refine ev_invV dX2_pourFault_58 (pc' := 61) rfl sq_2_38 mt_X2_at rfl (arecv_ob (x := o) rfl rfl (by decide) h_o) ⟨_, rfl, Nat.le_of_ble_eq_true rfl, Nat.le_of_ble_eq_true rfl, rfl, rfl⟩ ?_
        refine X2_at_ca h_o x_y7 ?_
        refine ev_r1 ?_
        refine ev_get dX2_pourFault_61 (pc' := 64) rfl fq_2_59 (X2_at_kd h_o x_y7) rfl ?_
        refine ev_icmp_gt dX2_pourFault_64 (pc' := 67) rfl (t := 82) rfl (fun c8 => ?_) (fun c8 => ?_)
        · replace h := it_t c8 h
          refine ev_bipush dX2_pourFault_82 (pc' := 84) (v := (-3)) rfl (by decide) ?_
          refine ev_goto dX2_pourFault_84 (t := 88) rfl ?_
          obtain rfl := rt1 h
          exact ev_ireturn dX2_pourFault_88 rfl q
        · replace h := it_f c8 h
          refine ev_iload_n dX2_pourFault_67 (pc' := 68) rfl rfl ?_
          refine ev_aload dX2_pourFault_68 (pc' := 70) rfl rfl ?_
          refine ev_get dX2_pourFault_70 (pc' := 73) rfl fq_2_56 (X2_at_kd h_o x_y6) rfl ?_
          refine ev_aload dX2_pourFault_73 (pc' := 75) rfl rfl ?_
          refine ev_get dX2_pourFault_75 (pc' := 78) rfl fq_2_59 (X2_at_kd h_o x_y6) rfl ?_
          refine ev_isub dX2_pourFault_78 (pc' := 79) rfl ?_
          refine ev_icmp_le dX2_pourFault_79 (pc' := 82) rfl (t := 87) rfl (fun c9 => ?_) (fun c9 => ?_)
          · replace h := it_t c9 h
            refine ev_iconst dX2_pourFault_87 (pc' := 88) (v := 0) rfl (by decide) ?_
            obtain rfl := rt1 h
            exact ev_ireturn dX2_pourFault_88 rfl q
          · replace h := it_f c9 h
            refine ev_bipush dX2_pourFault_82 (pc' := 84) (v := (-3)) rfl (by decide) ?_
            refine ev_goto dX2_pourFault_84 (t := 88) rfl ?_
            obtain rfl := rt1 h
            exact ev_ireturn dX2_pourFault_88 rfl q
      · replace h := it_f c5 h
        refine ev_iload dX2_pourFault_45 (pc' := 47) rfl rfl ?_
        obtain rfl := rt1 h
        exact ev_ireturn dX2_pourFault_47 rfl q
def X2_pouredStrength (o : Nat) (a1 : Int32) (a2 : Int32) (a3 : Int32) (mem : Mm) : Option Int32 := ob (X2_at o a2) (fun y1 => nm ((mem y1 2) + a3) (fun v2 => if v2 ≤ 0 then (some (mem y1 3)) else (ob (X2_at o a1) (fun y4 => gd (¬ v2 = 0) (some ((((mem y1 3) * (mem y1 2)) + ((mem y4 3) * a3)) / v2))))))
set_option maxRecDepth 100000 in
set_option maxHeartbeats 8000000 in
theorem X2_pouredStrength_ca {S : Sc} {d : Nat} {o : Nat} {a1 : Int32} {a2 : Int32} {a3 : Int32} {mem : Mm} {rr : Int32} {Q : Po} (h_o : kdp o 2) (h : X2_pouredStrength o a1 a2 a3 mem = some rr) (q : Q (some (.int rr)) mem) : Ca S (d + 2) 39 [.ref o, .int a1, .int a2, .int a3] mem Q := by
  unfold X2_pouredStrength at h
  refine ca_in (by decide) mt_X2_pouredStrength (Nat.le_of_ble_eq_true rfl) ?_
  show Ev S (d + 1) 2 cX2_pouredStrength (some .int) 0 [some (.ref o), some (.int a1), some (.int a2), some (.int a3), none, none] [] mem Q
  refine ev_aload_n dX2_pouredStrength_0 (pc' := 1) rfl rfl ?_
  refine ev_iload_n dX2_pouredStrength_1 (pc' := 2) rfl rfl ?_
  obtain ⟨y1, x_y1, h⟩ := ob_of h
  refine ev_invV dX2_pouredStrength_2 (pc' := 5) rfl sq_2_38 mt_X2_at rfl (arecv_ob (x := o) rfl rfl (by decide) h_o) ⟨_, rfl, Nat.le_of_ble_eq_true rfl, Nat.le_of_ble_eq_true rfl, rfl, rfl⟩ ?_
  refine X2_at_ca h_o x_y1 ?_
  refine ev_r1 ?_
  refine ev_astore dX2_pouredStrength_5 (pc' := 7) (ls' := [some (.ref o), some (.int a1), some (.int a2), some (.int a3), some (.ref y1), none]) rfl (Nat.le_of_ble_eq_true rfl) rfl ?_
  refine ev_aload dX2_pouredStrength_7 (pc' := 9) rfl rfl ?_
  refine ev_get dX2_pouredStrength_9 (pc' := 12) rfl fq_2_59 (X2_at_kd h_o x_y1) rfl ?_
  refine ev_iload_n dX2_pouredStrength_12 (pc' := 13) rfl rfl ?_
  refine ev_iadd dX2_pouredStrength_13 (pc' := 14) rfl ?_
  refine ev_topi (fun v2 e_v2 => ?_)
  replace h := nm_at e_v2 h
  refine ev_istore dX2_pouredStrength_14 (pc' := 16) (ls' := [some (.ref o), some (.int a1), some (.int a2), some (.int a3), some (.ref y1), some (.int v2)]) rfl (Nat.le_of_ble_eq_true rfl) rfl ?_
  refine ev_iload dX2_pouredStrength_16 (pc' := 18) rfl rfl ?_
  refine ev_if_le dX2_pouredStrength_18 (pc' := 21) rfl (t := 49) rfl (fun c3 => ?_) (fun c3 => ?_)
  · replace h := it_t c3 h
    refine ev_aload dX2_pouredStrength_49 (pc' := 51) rfl rfl ?_
    refine ev_get dX2_pouredStrength_51 (pc' := 54) rfl fq_2_62 (X2_at_kd h_o x_y1) rfl ?_
    obtain rfl := rt1 h
    exact ev_ireturn dX2_pouredStrength_54 rfl q
  · replace h := it_f c3 h
    refine ev_aload dX2_pouredStrength_21 (pc' := 23) rfl rfl ?_
    refine ev_get dX2_pouredStrength_23 (pc' := 26) rfl fq_2_62 (X2_at_kd h_o x_y1) rfl ?_
    refine ev_aload dX2_pouredStrength_26 (pc' := 28) rfl rfl ?_
    refine ev_get dX2_pouredStrength_28 (pc' := 31) rfl fq_2_59 (X2_at_kd h_o x_y1) rfl ?_
    refine ev_imul dX2_pouredStrength_31 (pc' := 32) rfl ?_
    refine ev_aload_n dX2_pouredStrength_32 (pc' := 33) rfl rfl ?_
    refine ev_iload_n dX2_pouredStrength_33 (pc' := 34) rfl rfl ?_
    obtain ⟨y4, x_y4, h⟩ := ob_of h
    refine ev_invV dX2_pouredStrength_34 (pc' := 37) rfl sq_2_38 mt_X2_at rfl (arecv_ob (x := o) rfl rfl (by decide) h_o) ⟨_, rfl, Nat.le_of_ble_eq_true rfl, Nat.le_of_ble_eq_true rfl, rfl, rfl⟩ ?_
    refine X2_at_ca h_o x_y4 ?_
    refine ev_r1 ?_
    refine ev_get dX2_pouredStrength_37 (pc' := 40) rfl fq_2_62 (X2_at_kd h_o x_y4) rfl ?_
    refine ev_iload_n dX2_pouredStrength_40 (pc' := 41) rfl rfl ?_
    refine ev_imul dX2_pouredStrength_41 (pc' := 42) rfl ?_
    refine ev_iadd dX2_pouredStrength_42 (pc' := 43) rfl ?_
    refine ev_iload dX2_pouredStrength_43 (pc' := 45) rfl rfl ?_
    obtain ⟨g5, h⟩ := gd_of h
    refine ev_idiv dX2_pouredStrength_45 (pc' := 46) rfl g5 ?_
    refine ev_goto dX2_pouredStrength_46 (t := 54) rfl ?_
    obtain rfl := rt1 h
    exact ev_ireturn dX2_pouredStrength_54 rfl q
def X2_pourOver (o : Nat) (a1 : Int32) (a2 : Int32) (a3 : Int32) (mem : Mm) : Option (Int32 × Mm) := ob (X2_pourFault o a1 a2 a3 mem) (fun y1 => if y1 = 0 then (ob (X2_at o a2) (fun y3 => ob (X2_pouredStrength o a1 a2 a3 mem) (fun y4 => nm (mset mem y3 3 y4) (fun m5 => ob (X2_at o a2) (fun y6 => nm (mset m5 y6 2 ((m5 y6 2) + a3)) (fun m7 => ob (X2_at o a1) (fun y8 => nm (mset m7 y8 2 ((m7 y8 2) - a3)) (fun m9 => some (y1, m9))))))))) else (some (y1, mem)))
set_option maxRecDepth 100000 in
set_option maxHeartbeats 8000000 in
theorem X2_pourOver_ca {S : Sc} {d : Nat} {o : Nat} {a1 : Int32} {a2 : Int32} {a3 : Int32} {mem : Mm} {rr : Int32} {mr : Mm} {Q : Po} (h_o : kdp o 2) (h : X2_pourOver o a1 a2 a3 mem = some (rr, mr)) (q : Q (some (.int rr)) mr) : Ca S (d + 3) 40 [.ref o, .int a1, .int a2, .int a3] mem Q := by
  unfold X2_pourOver at h
  refine ca_in (by decide) mt_X2_pourOver (Nat.le_of_ble_eq_true rfl) ?_
  show Ev S (d + 2) 2 cX2_pourOver (some .int) 0 [some (.ref o), some (.int a1), some (.int a2), some (.int a3), none] [] mem Q
  refine ev_aload_n dX2_pourOver_0 (pc' := 1) rfl rfl ?_
  refine ev_iload_n dX2_pourOver_1 (pc' := 2) rfl rfl ?_
  refine ev_iload_n dX2_pourOver_2 (pc' := 3) rfl rfl ?_
  refine ev_iload_n dX2_pourOver_3 (pc' := 4) rfl rfl ?_
  obtain ⟨y1, x_y1, h⟩ := ob_of h
  refine ev_invV dX2_pourOver_4 (pc' := 7) rfl sq_2_85 mt_X2_pourFault rfl (arecv_ob (x := o) rfl rfl (by decide) h_o) ⟨_, rfl, Nat.le_of_ble_eq_true rfl, Nat.le_of_ble_eq_true rfl, rfl, rfl⟩ ?_
  refine X2_pourFault_ca h_o x_y1 ?_
  refine ev_r1 ?_
  refine ev_istore dX2_pourOver_7 (pc' := 9) (ls' := [some (.ref o), some (.int a1), some (.int a2), some (.int a3), some (.int y1)]) rfl (Nat.le_of_ble_eq_true rfl) rfl ?_
  refine ev_iload dX2_pourOver_9 (pc' := 11) rfl rfl ?_
  refine ev_if_ne dX2_pourOver_11 (pc' := 14) rfl (t := 57) rfl (fun c2 => ?_) (fun c2 => ?_)
  · replace h := it_f c2 h
    refine ev_iload dX2_pourOver_57 (pc' := 59) rfl rfl ?_
    obtain ⟨rfl, rfl⟩ := rt2 h
    exact ev_ireturn dX2_pourOver_59 rfl q
  · replace h := it_t c2 h
    refine ev_aload_n dX2_pourOver_14 (pc' := 15) rfl rfl ?_
    refine ev_iload_n dX2_pourOver_15 (pc' := 16) rfl rfl ?_
    obtain ⟨y3, x_y3, h⟩ := ob_of h
    refine ev_invV dX2_pourOver_16 (pc' := 19) rfl sq_2_38 mt_X2_at rfl (arecv_ob (x := o) rfl rfl (by decide) h_o) ⟨_, rfl, Nat.le_of_ble_eq_true rfl, Nat.le_of_ble_eq_true rfl, rfl, rfl⟩ ?_
    refine X2_at_ca h_o x_y3 ?_
    refine ev_r1 ?_
    refine ev_aload_n dX2_pourOver_19 (pc' := 20) rfl rfl ?_
    refine ev_iload_n dX2_pourOver_20 (pc' := 21) rfl rfl ?_
    refine ev_iload_n dX2_pourOver_21 (pc' := 22) rfl rfl ?_
    refine ev_iload_n dX2_pourOver_22 (pc' := 23) rfl rfl ?_
    obtain ⟨y4, x_y4, h⟩ := ob_of h
    refine ev_invV dX2_pourOver_23 (pc' := 26) rfl sq_2_88 mt_X2_pouredStrength rfl (arecv_ob (x := o) rfl rfl (by decide) h_o) ⟨_, rfl, Nat.le_of_ble_eq_true rfl, Nat.le_of_ble_eq_true rfl, rfl, rfl⟩ ?_
    refine X2_pouredStrength_ca h_o x_y4 ?_
    refine ev_r1 ?_
    refine ev_put dX2_pourOver_26 (pc' := 29) rfl fq_2_62 (X2_at_kd h_o x_y3) rfl (Or.inl (by decide)) ?_
    refine ev_topm (fun m5 e_m5 => ?_)
    replace h := nm_at e_m5 h
    refine ev_aload_n dX2_pourOver_29 (pc' := 30) rfl rfl ?_
    refine ev_iload_n dX2_pourOver_30 (pc' := 31) rfl rfl ?_
    obtain ⟨y6, x_y6, h⟩ := ob_of h
    refine ev_invV dX2_pourOver_31 (pc' := 34) rfl sq_2_38 mt_X2_at rfl (arecv_ob (x := o) rfl rfl (by decide) h_o) ⟨_, rfl, Nat.le_of_ble_eq_true rfl, Nat.le_of_ble_eq_true rfl, rfl, rfl⟩ ?_
    refine X2_at_ca h_o x_y6 ?_
    refine ev_r1 ?_
    refine ev_dup dX2_pourOver_34 (pc' := 35) rfl rfl ?_
    refine ev_get dX2_pourOver_35 (pc' := 38) rfl fq_2_59 (X2_at_kd h_o x_y6) rfl ?_
    refine ev_iload_n dX2_pourOver_38 (pc' := 39) rfl rfl ?_
    refine ev_iadd dX2_pourOver_39 (pc' := 40) rfl ?_
    refine ev_put dX2_pourOver_40 (pc' := 43) rfl fq_2_59 (X2_at_kd h_o x_y6) rfl (Or.inl (by decide)) ?_
    refine ev_topm (fun m7 e_m7 => ?_)
    replace h := nm_at e_m7 h
    refine ev_aload_n dX2_pourOver_43 (pc' := 44) rfl rfl ?_
    refine ev_iload_n dX2_pourOver_44 (pc' := 45) rfl rfl ?_
    obtain ⟨y8, x_y8, h⟩ := ob_of h
    refine ev_invV dX2_pourOver_45 (pc' := 48) rfl sq_2_38 mt_X2_at rfl (arecv_ob (x := o) rfl rfl (by decide) h_o) ⟨_, rfl, Nat.le_of_ble_eq_true rfl, Nat.le_of_ble_eq_true rfl, rfl, rfl⟩ ?_
    refine X2_at_ca h_o x_y8 ?_
    refine ev_r1 ?_
    refine ev_dup dX2_pourOver_48 (pc' := 49) rfl rfl ?_
    refine ev_get dX2_pourOver_49 (pc' := 52) rfl fq_2_59 (X2_at_kd h_o x_y8) rfl ?_
    refine ev_iload_n dX2_pourOver_52 (pc' := 53) rfl rfl ?_
    refine ev_isub dX2_pourOver_53 (pc' := 54) rfl ?_
    refine ev_put dX2_pourOver_54 (pc' := 57) rfl fq_2_59 (X2_at_kd h_o x_y8) rfl (Or.inl (by decide)) ?_
    refine ev_topm (fun m9 e_m9 => ?_)
    replace h := nm_at e_m9 h
    refine ev_iload dX2_pourOver_57 (pc' := 59) rfl rfl ?_
    obtain ⟨rfl, rfl⟩ := rt2 h
    exact ev_ireturn dX2_pourOver_59 rfl q
