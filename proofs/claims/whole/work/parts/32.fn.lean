def X2_blended (o : Nat) (a1 : Int32) (a2 : Int32) (mem : Mm) : Option Int32 := ob (X2_at o a1) (fun y1 => ob (X2_at o a2) (fun y2 => nm ((mem y1 2) + (mem y2 2)) (fun v3 => if v3 ≤ 0 then (some (-9)) else (ob (X2_at o a1) (fun y5 => ob (X2_at o a2) (fun y6 => gd (¬ v3 = 0) (some (((X0_worth y5 mem) + (X0_worth y6 mem)) / v3))))))))
set_option maxRecDepth 100000 in
set_option maxHeartbeats 8000000 in
theorem X2_blended_ca {S : Sc} {d : Nat} {o : Nat} {a1 : Int32} {a2 : Int32} {mem : Mm} {rr : Int32} {Q : Po} (h_o : kdp o 2) (h : X2_blended o a1 a2 mem = some rr) (q : Q (some (.int rr)) mem) : Ca S (d + 2) 41 [.ref o, .int a1, .int a2] mem Q := by
  unfold X2_blended at h
  refine ca_in (by decide) mt_X2_blended (Nat.le_of_ble_eq_true rfl) ?_
  show Ev S (d + 1) 2 cX2_blended (some .int) 0 [some (.ref o), some (.int a1), some (.int a2), none] [] mem Q
  refine ev_aload_n dX2_blended_0 (pc' := 1) rfl rfl ?_
  refine ev_iload_n dX2_blended_1 (pc' := 2) rfl rfl ?_
  obtain ⟨y1, x_y1, h⟩ := ob_of h
  refine ev_invV dX2_blended_2 (pc' := 5) rfl sq_2_38 mt_X2_at rfl (arecv_ob (x := o) rfl rfl (by decide) h_o) ⟨_, rfl, Nat.le_of_ble_eq_true rfl, Nat.le_of_ble_eq_true rfl, rfl, rfl⟩ ?_
  refine X2_at_ca h_o x_y1 ?_
  refine ev_r1 ?_
  refine ev_get dX2_blended_5 (pc' := 8) rfl fq_2_59 (X2_at_kd h_o x_y1) rfl ?_
  refine ev_aload_n dX2_blended_8 (pc' := 9) rfl rfl ?_
  refine ev_iload_n dX2_blended_9 (pc' := 10) rfl rfl ?_
  obtain ⟨y2, x_y2, h⟩ := ob_of h
  refine ev_invV dX2_blended_10 (pc' := 13) rfl sq_2_38 mt_X2_at rfl (arecv_ob (x := o) rfl rfl (by decide) h_o) ⟨_, rfl, Nat.le_of_ble_eq_true rfl, Nat.le_of_ble_eq_true rfl, rfl, rfl⟩ ?_
  refine X2_at_ca h_o x_y2 ?_
  refine ev_r1 ?_
  refine ev_get dX2_blended_13 (pc' := 16) rfl fq_2_59 (X2_at_kd h_o x_y2) rfl ?_
  refine ev_iadd dX2_blended_16 (pc' := 17) rfl ?_
  refine ev_topi (fun v3 e_v3 => ?_)
  replace h := nm_at e_v3 h
  refine ev_istore_n dX2_blended_17 (pc' := 18) (ls' := [some (.ref o), some (.int a1), some (.int a2), some (.int v3)]) rfl (Nat.le_of_ble_eq_true rfl) rfl ?_
  refine ev_iload_n dX2_blended_18 (pc' := 19) rfl rfl ?_
  refine ev_if_le dX2_blended_19 (pc' := 22) rfl (t := 44) rfl (fun c4 => ?_) (fun c4 => ?_)
  · replace h := it_t c4 h
    refine ev_bipush dX2_blended_44 (pc' := 46) (v := (-9)) rfl (by decide) ?_
    obtain rfl := rt1 h
    exact ev_ireturn dX2_blended_46 rfl q
  · replace h := it_f c4 h
    refine ev_aload_n dX2_blended_22 (pc' := 23) rfl rfl ?_
    refine ev_iload_n dX2_blended_23 (pc' := 24) rfl rfl ?_
    obtain ⟨y5, x_y5, h⟩ := ob_of h
    refine ev_invV dX2_blended_24 (pc' := 27) rfl sq_2_38 mt_X2_at rfl (arecv_ob (x := o) rfl rfl (by decide) h_o) ⟨_, rfl, Nat.le_of_ble_eq_true rfl, Nat.le_of_ble_eq_true rfl, rfl, rfl⟩ ?_
    refine X2_at_ca h_o x_y5 ?_
    refine ev_r1 ?_
    refine ev_invV dX2_blended_27 (pc' := 30) rfl sq_2_91 mt_X0_worth rfl (arecv_ob (x := y5) rfl rfl (by decide) (X2_at_kd h_o x_y5)) ⟨_, rfl, Nat.le_of_ble_eq_true rfl, Nat.le_of_ble_eq_true rfl, rfl, rfl⟩ ?_
    refine X0_worth_ca (X2_at_kd h_o x_y5) rfl ?_
    refine ev_r1 ?_
    refine ev_aload_n dX2_blended_30 (pc' := 31) rfl rfl ?_
    refine ev_iload_n dX2_blended_31 (pc' := 32) rfl rfl ?_
    obtain ⟨y6, x_y6, h⟩ := ob_of h
    refine ev_invV dX2_blended_32 (pc' := 35) rfl sq_2_38 mt_X2_at rfl (arecv_ob (x := o) rfl rfl (by decide) h_o) ⟨_, rfl, Nat.le_of_ble_eq_true rfl, Nat.le_of_ble_eq_true rfl, rfl, rfl⟩ ?_
    refine X2_at_ca h_o x_y6 ?_
    refine ev_r1 ?_
    refine ev_invV dX2_blended_35 (pc' := 38) rfl sq_2_91 mt_X0_worth rfl (arecv_ob (x := y6) rfl rfl (by decide) (X2_at_kd h_o x_y6)) ⟨_, rfl, Nat.le_of_ble_eq_true rfl, Nat.le_of_ble_eq_true rfl, rfl, rfl⟩ ?_
    refine X0_worth_ca (X2_at_kd h_o x_y6) rfl ?_
    refine ev_r1 ?_
    refine ev_iadd dX2_blended_38 (pc' := 39) rfl ?_
    refine ev_iload_n dX2_blended_39 (pc' := 40) rfl rfl ?_
    obtain ⟨g7, h⟩ := gd_of h
    refine ev_idiv dX2_blended_40 (pc' := 41) rfl g7 ?_
    refine ev_goto dX2_blended_41 (t := 46) rfl ?_
    obtain rfl := rt1 h
    exact ev_ireturn dX2_blended_46 rfl q
def X2_rateBy (o : Nat) (a1 : Int32) (mem : Mm) : Int32 := if a1 = 0 then ((mem o 3)) else ((mmin (2 * (mem o 3)) 80))
set_option maxRecDepth 100000 in
set_option maxHeartbeats 8000000 in
theorem X2_rateBy_ca {S : Sc} {d : Nat} {o : Nat} {a1 : Int32} {mem : Mm} {rr : Int32} {Q : Po} (h_o : kdp o 2) (h : X2_rateBy o a1 mem = rr) (q : Q (some (.int rr)) mem) : Ca S (d + 2) 42 [.ref o, .int a1] mem Q := by
  unfold X2_rateBy at h
  refine ca_in (by decide) mt_X2_rateBy (Nat.le_of_ble_eq_true rfl) ?_
  show Ev S (d + 1) 2 cX2_rateBy (some .int) 0 [some (.ref o), some (.int a1)] [] mem Q
  refine ev_iload_n dX2_rateBy_0 (pc' := 1) rfl rfl ?_
  refine ev_if_eq dX2_rateBy_1 (pc' := 4) rfl (t := 18) rfl (fun c1 => ?_) (fun c1 => ?_)
  · replace h := it_t c1 h
    refine ev_aload_n dX2_rateBy_18 (pc' := 19) rfl rfl ?_
    refine ev_get dX2_rateBy_19 (pc' := 22) rfl fq_2_26 h_o rfl ?_
    obtain rfl := h
    exact ev_ireturn dX2_rateBy_22 rfl q
  · replace h := it_f c1 h
    refine ev_iconst dX2_rateBy_4 (pc' := 5) (v := 2) rfl (by decide) ?_
    refine ev_aload_n dX2_rateBy_5 (pc' := 6) rfl rfl ?_
    refine ev_get dX2_rateBy_6 (pc' := 9) rfl fq_2_26 h_o rfl ?_
    refine ev_imul dX2_rateBy_9 (pc' := 10) rfl ?_
    refine ev_bipush dX2_rateBy_10 (pc' := 12) (v := 80) rfl (by decide) ?_
    refine ev_invS dX2_rateBy_12 (pc' := 15) rfl sq_2_95 mt_J9_min_7cf53 rfl ⟨_, rfl, Nat.le_of_ble_eq_true rfl, Nat.le_of_ble_eq_true rfl, rfl, rfl⟩ ?_
    refine ca_math (by decide) (r := some (.int (mmin (2 * (mem o 3)) 80))) rfl ?_
    refine ev_r1 ?_
    refine ev_goto dX2_rateBy_15 (t := 22) rfl ?_
    obtain rfl := h
    exact ev_ireturn dX2_rateBy_22 rfl q
def X2_goOn_L49 (o : Nat) (a8 : Int32) (a9 : Int32) (a10 : Int32) (k : Int32 → Mm → Option Mm) : Nat → Int32 → Mm → Option Mm
  | 0, _, _ => none
  | n + 1, w11, m12 => if (m12 o 2) ≤ w11 then (k w11 m12) else (ob (X2_at o w11) (fun y14 => nm (X0_goOn y14 a10 (m12 o 6) m12) (fun m15 => nm (w11 + 1) (fun v16 => X2_goOn_L49 o a8 a9 a10 k n v16 m15))))
def X2_goOn_L2 (o : Nat) (a1 : Int32) : Nat → Int32 → Mm → Option Mm
  | 0, _, _ => none
  | n + 1, w2, m3 => if a1 ≤ w2 then (some m3) else (nm (mset m3 o 6 ((m3 o 6) + 1)) (fun m5 => if (m5 o 4) ≤ 0 then (nm (X2_rateBy o 0 m5) (fun v7 => X2_goOn_L49 o a1 w2 v7 (fun v17 m18 => nm (w2 + 1) (fun v19 => X2_goOn_L2 o a1 n v19 m18)) LF 0 m5)) else (gd (¬ (m5 o 4) = 0) (if (airem (m5 o 6) (m5 o 4)) = 0 then (nm (X2_rateBy o 1 m5) (fun v22 => X2_goOn_L49 o a1 w2 v22 (fun v23 m24 => nm (w2 + 1) (fun v25 => X2_goOn_L2 o a1 n v25 m24)) LF 0 m5)) else (nm (X2_rateBy o 0 m5) (fun v26 => X2_goOn_L49 o a1 w2 v26 (fun v27 m28 => nm (w2 + 1) (fun v29 => X2_goOn_L2 o a1 n v29 m28)) LF 0 m5))))))
def X2_goOn (o : Nat) (a1 : Int32) (mem : Mm) : Option Mm := X2_goOn_L2 o a1 LF 0 mem
set_option maxRecDepth 100000 in
set_option maxHeartbeats 8000000 in
theorem X2_goOn_L49_ev {S : Sc} {d : Nat} {o : Nat} {a8 : Int32} {a9 : Int32} {a10 : Int32} {k : Int32 → Mm → Option Mm} {mr : Mm} {Q : Po} (h_o : kdp o 2) (q : Q none mr) (hk : ∀ (w11 : Int32) (m12 : Mm), k w11 m12 = some mr → Ev S (d + 3) 2 cX2_goOn none 78 [some (.ref o), some (.int a8), some (.int a9), some (.int a10), some (.int w11)] [] m12 Q) : ∀ (n : Nat) (w11 : Int32) (m12 : Mm), X2_goOn_L49 o a8 a9 a10 k n w11 m12 = some mr → Ev S (d + 3) 2 cX2_goOn none 49 [some (.ref o), some (.int a8), some (.int a9), some (.int a10), some (.int w11)] [] m12 Q := by
  intro n
  induction n with
  | zero => intro w11 m12 h; cases h
  | succ n ih =>
    intro w11 m12 h
    unfold X2_goOn_L49 at h
    refine ev_iload dX2_goOn_49 (pc' := 51) rfl rfl ?_
    refine ev_aload_n dX2_goOn_51 (pc' := 52) rfl rfl ?_
    refine ev_get dX2_goOn_52 (pc' := 55) rfl fq_2_22 h_o rfl ?_
    refine ev_icmp_ge dX2_goOn_55 (pc' := 58) rfl (t := 78) rfl (fun c13 => ?_) (fun c13 => ?_)
    · replace h := it_t c13 h
      exact ev_sub (lsub_c (lsub_c (lsub_c (lsub_c (lsub_c lsub_nil))))) (hk w11 m12 h)
    · replace h := it_f c13 h
      refine ev_aload_n dX2_goOn_58 (pc' := 59) rfl rfl ?_
      refine ev_iload dX2_goOn_59 (pc' := 61) rfl rfl ?_
      obtain ⟨y14, x_y14, h⟩ := ob_of h
      refine ev_invV dX2_goOn_61 (pc' := 64) rfl sq_2_38 mt_X2_at rfl (arecv_ob (x := o) rfl rfl (by decide) h_o) ⟨_, rfl, Nat.le_of_ble_eq_true rfl, Nat.le_of_ble_eq_true rfl, rfl, rfl⟩ ?_
      refine X2_at_ca h_o x_y14 ?_
      refine ev_r1 ?_
      refine ev_iload_n dX2_goOn_64 (pc' := 65) rfl rfl ?_
      refine ev_aload_n dX2_goOn_65 (pc' := 66) rfl rfl ?_
      refine ev_get dX2_goOn_66 (pc' := 69) rfl fq_2_35 h_o rfl ?_
      refine ev_invV dX2_goOn_69 (pc' := 72) rfl sq_2_104 mt_X0_goOn rfl (arecv_ob (x := y14) rfl rfl (by decide) (X2_at_kd h_o x_y14)) ⟨_, rfl, Nat.le_of_ble_eq_true rfl, Nat.le_of_ble_eq_true rfl, rfl, rfl⟩ ?_
      refine X0_goOn_ca (X2_at_kd h_o x_y14) rfl ?_
      refine ev_r0 ?_
      refine ev_topm (fun m15 e_m15 => ?_)
      replace h := nm_at e_m15 h
      obtain ⟨v16, e_v16⟩ : ∃ y : Int32, y = (w11 + 1) := ⟨_, rfl⟩
      replace h := nm_at e_v16 h
      refine ev_iinc dX2_goOn_72 (pc' := 75) (v := v16) (ls' := [some (.ref o), some (.int a8), some (.int a9), some (.int a10), some (.int v16)]) rfl rfl (by rw [e_v16]; rfl) (Nat.le_of_ble_eq_true rfl) rfl ?_
      refine ev_goto dX2_goOn_75 (t := 49) rfl ?_
      exact ev_sub (lsub_c (lsub_c (lsub_c (lsub_c (lsub_c lsub_nil))))) (ih v16 m15 h)
set_option maxRecDepth 100000 in
set_option maxHeartbeats 8000000 in
theorem X2_goOn_L2_ev {S : Sc} {d : Nat} {o : Nat} {a1 : Int32} {mr : Mm} {Q : Po} (h_o : kdp o 2) (q : Q none mr) : ∀ (n : Nat) (w2 : Int32) (m3 : Mm), X2_goOn_L2 o a1 n w2 m3 = some mr → Ev S (d + 3) 2 cX2_goOn none 2 [some (.ref o), some (.int a1), some (.int w2), none, none] [] m3 Q := by
  intro n
  induction n with
  | zero => intro w2 m3 h; cases h
  | succ n ih =>
    intro w2 m3 h
    unfold X2_goOn_L2 at h
    refine ev_iload_n dX2_goOn_2 (pc' := 3) rfl rfl ?_
    refine ev_iload_n dX2_goOn_3 (pc' := 4) rfl rfl ?_
    refine ev_icmp_ge dX2_goOn_4 (pc' := 7) rfl (t := 84) rfl (fun c4 => ?_) (fun c4 => ?_)
    · replace h := it_t c4 h
      obtain rfl := rt1 h
      exact ev_return dX2_goOn_84 rfl q
    · replace h := it_f c4 h
      refine ev_aload_n dX2_goOn_7 (pc' := 8) rfl rfl ?_
      refine ev_dup dX2_goOn_8 (pc' := 9) rfl rfl ?_
      refine ev_get dX2_goOn_9 (pc' := 12) rfl fq_2_35 h_o rfl ?_
      refine ev_iconst dX2_goOn_12 (pc' := 13) (v := 1) rfl (by decide) ?_
      refine ev_iadd dX2_goOn_13 (pc' := 14) rfl ?_
      refine ev_put dX2_goOn_14 (pc' := 17) rfl fq_2_35 h_o rfl (Or.inl (by decide)) ?_
      refine ev_topm (fun m5 e_m5 => ?_)
      replace h := nm_at e_m5 h
      refine ev_aload_n dX2_goOn_17 (pc' := 18) rfl rfl ?_
      refine ev_aload_n dX2_goOn_18 (pc' := 19) rfl rfl ?_
      refine ev_get dX2_goOn_19 (pc' := 22) rfl fq_2_29 h_o rfl ?_
      refine ev_if_le dX2_goOn_22 (pc' := 25) rfl (t := 41) rfl (fun c6 => ?_) (fun c6 => ?_)
      · replace h := it_t c6 h
        refine ev_iconst dX2_goOn_41 (pc' := 42) (v := 0) rfl (by decide) ?_
        refine ev_invV dX2_goOn_42 (pc' := 45) rfl sq_2_100 mt_X2_rateBy rfl (arecv_ob (x := o) rfl rfl (by decide) h_o) ⟨_, rfl, Nat.le_of_ble_eq_true rfl, Nat.le_of_ble_eq_true rfl, rfl, rfl⟩ ?_
        refine X2_rateBy_ca h_o rfl ?_
        refine ev_r1 ?_
        refine ev_topi (fun v7 e_v7 => ?_)
        replace h := nm_at e_v7 h
        refine ev_istore_n dX2_goOn_45 (pc' := 46) (ls' := [some (.ref o), some (.int a1), some (.int w2), some (.int v7), none]) rfl (Nat.le_of_ble_eq_true rfl) rfl ?_
        refine ev_iconst dX2_goOn_46 (pc' := 47) (v := 0) rfl (by decide) ?_
        refine ev_istore dX2_goOn_47 (pc' := 49) (ls' := [some (.ref o), some (.int a1), some (.int w2), some (.int v7), some (.int 0)]) rfl (Nat.le_of_ble_eq_true rfl) rfl ?_
        refine ev_sub (lsub_c (lsub_c (lsub_c (lsub_c (lsub_c lsub_nil))))) (X2_goOn_L49_ev h_o (k := fun v17 m18 => nm (w2 + 1) (fun v19 => X2_goOn_L2 o a1 n v19 m18)) q (fun v17 m18 h => ?_) LF 0 m5 h)
        obtain ⟨v19, e_v19⟩ : ∃ y : Int32, y = (w2 + 1) := ⟨_, rfl⟩
        replace h := nm_at e_v19 h
        refine ev_iinc dX2_goOn_78 (pc' := 81) (v := v19) (ls' := [some (.ref o), some (.int a1), some (.int v19), some (.int v7), some (.int v17)]) rfl rfl (by rw [e_v19]; rfl) (Nat.le_of_ble_eq_true rfl) rfl ?_
        refine ev_goto dX2_goOn_81 (t := 2) rfl ?_
        exact ev_sub (lsub_c (lsub_c (lsub_c (lsub_n (lsub_n lsub_nil))))) (ih v19 m18 h)
      · replace h := it_f c6 h
        refine ev_aload_n dX2_goOn_25 (pc' := 26) rfl rfl ?_
        refine ev_get dX2_goOn_26 (pc' := 29) rfl fq_2_35 h_o rfl ?_
        refine ev_aload_n dX2_goOn_29 (pc' := 30) rfl rfl ?_
        refine ev_get dX2_goOn_30 (pc' := 33) rfl fq_2_29 h_o rfl ?_
        obtain ⟨g20, h⟩ := gd_of h
        refine ev_irem dX2_goOn_33 (pc' := 34) rfl g20 ?_
        refine ev_if_ne dX2_goOn_34 (pc' := 37) rfl (t := 41) rfl (fun c21 => ?_) (fun c21 => ?_)
        · replace h := it_f c21 h
          refine ev_iconst dX2_goOn_41 (pc' := 42) (v := 0) rfl (by decide) ?_
          refine ev_invV dX2_goOn_42 (pc' := 45) rfl sq_2_100 mt_X2_rateBy rfl (arecv_ob (x := o) rfl rfl (by decide) h_o) ⟨_, rfl, Nat.le_of_ble_eq_true rfl, Nat.le_of_ble_eq_true rfl, rfl, rfl⟩ ?_
          refine X2_rateBy_ca h_o rfl ?_
          refine ev_r1 ?_
          refine ev_topi (fun v26 e_v26 => ?_)
          replace h := nm_at e_v26 h
          refine ev_istore_n dX2_goOn_45 (pc' := 46) (ls' := [some (.ref o), some (.int a1), some (.int w2), some (.int v26), none]) rfl (Nat.le_of_ble_eq_true rfl) rfl ?_
          refine ev_iconst dX2_goOn_46 (pc' := 47) (v := 0) rfl (by decide) ?_
          refine ev_istore dX2_goOn_47 (pc' := 49) (ls' := [some (.ref o), some (.int a1), some (.int w2), some (.int v26), some (.int 0)]) rfl (Nat.le_of_ble_eq_true rfl) rfl ?_
          refine ev_sub (lsub_c (lsub_c (lsub_c (lsub_c (lsub_c lsub_nil))))) (X2_goOn_L49_ev h_o (k := fun v27 m28 => nm (w2 + 1) (fun v29 => X2_goOn_L2 o a1 n v29 m28)) q (fun v27 m28 h => ?_) LF 0 m5 h)
          obtain ⟨v29, e_v29⟩ : ∃ y : Int32, y = (w2 + 1) := ⟨_, rfl⟩
          replace h := nm_at e_v29 h
          refine ev_iinc dX2_goOn_78 (pc' := 81) (v := v29) (ls' := [some (.ref o), some (.int a1), some (.int v29), some (.int v26), some (.int v27)]) rfl rfl (by rw [e_v29]; rfl) (Nat.le_of_ble_eq_true rfl) rfl ?_
          refine ev_goto dX2_goOn_81 (t := 2) rfl ?_
          exact ev_sub (lsub_c (lsub_c (lsub_c (lsub_n (lsub_n lsub_nil))))) (ih v29 m28 h)
        · replace h := it_t c21 h
          refine ev_iconst dX2_goOn_37 (pc' := 38) (v := 1) rfl (by decide) ?_
          refine ev_goto dX2_goOn_38 (t := 42) rfl ?_
          refine ev_invV dX2_goOn_42 (pc' := 45) rfl sq_2_100 mt_X2_rateBy rfl (arecv_ob (x := o) rfl rfl (by decide) h_o) ⟨_, rfl, Nat.le_of_ble_eq_true rfl, Nat.le_of_ble_eq_true rfl, rfl, rfl⟩ ?_
          refine X2_rateBy_ca h_o rfl ?_
          refine ev_r1 ?_
          refine ev_topi (fun v22 e_v22 => ?_)
          replace h := nm_at e_v22 h
          refine ev_istore_n dX2_goOn_45 (pc' := 46) (ls' := [some (.ref o), some (.int a1), some (.int w2), some (.int v22), none]) rfl (Nat.le_of_ble_eq_true rfl) rfl ?_
          refine ev_iconst dX2_goOn_46 (pc' := 47) (v := 0) rfl (by decide) ?_
          refine ev_istore dX2_goOn_47 (pc' := 49) (ls' := [some (.ref o), some (.int a1), some (.int w2), some (.int v22), some (.int 0)]) rfl (Nat.le_of_ble_eq_true rfl) rfl ?_
          refine ev_sub (lsub_c (lsub_c (lsub_c (lsub_c (lsub_c lsub_nil))))) (X2_goOn_L49_ev h_o (k := fun v23 m24 => nm (w2 + 1) (fun v25 => X2_goOn_L2 o a1 n v25 m24)) q (fun v23 m24 h => ?_) LF 0 m5 h)
          obtain ⟨v25, e_v25⟩ : ∃ y : Int32, y = (w2 + 1) := ⟨_, rfl⟩
          replace h := nm_at e_v25 h
          refine ev_iinc dX2_goOn_78 (pc' := 81) (v := v25) (ls' := [some (.ref o), some (.int a1), some (.int v25), some (.int v22), some (.int v23)]) rfl rfl (by rw [e_v25]; rfl) (Nat.le_of_ble_eq_true rfl) rfl ?_
          refine ev_goto dX2_goOn_81 (t := 2) rfl ?_
          exact ev_sub (lsub_c (lsub_c (lsub_c (lsub_n (lsub_n lsub_nil))))) (ih v25 m24 h)
set_option maxRecDepth 100000 in
set_option maxHeartbeats 8000000 in
theorem X2_goOn_ca {S : Sc} {d : Nat} {o : Nat} {a1 : Int32} {mem : Mm} {mr : Mm} {Q : Po} (h_o : kdp o 2) (h : X2_goOn o a1 mem = some mr) (q : Q none mr) : Ca S (d + 4) 43 [.ref o, .int a1] mem Q := by
  unfold X2_goOn at h
  refine ca_in (by decide) mt_X2_goOn (Nat.le_of_ble_eq_true rfl) ?_
  show Ev S (d + 3) 2 cX2_goOn none 0 [some (.ref o), some (.int a1), none, none, none] [] mem Q
  refine ev_iconst dX2_goOn_0 (pc' := 1) (v := 0) rfl (by decide) ?_
  refine ev_istore_n dX2_goOn_1 (pc' := 2) (ls' := [some (.ref o), some (.int a1), some (.int 0), none, none]) rfl (Nat.le_of_ble_eq_true rfl) rfl ?_
  exact ev_sub (lsub_c (lsub_c (lsub_c (lsub_c (lsub_c lsub_nil))))) (X2_goOn_L2_ev h_o q LF 0 mem h)
def X2_liveOn (o : Nat) (a1 : Int32) (mem : Mm) : Option (Int32 × Mm) := nm (X3_rangeFault a1 1 60) (fun v1 => if v1 = 0 then (if ((mem o 6) + a1) ≤ 999 then (ob (X2_goOn o a1 mem) (fun m4 => some (v1, m4))) else (some ((-6), mem))) else (some (v1, mem)))
set_option maxRecDepth 100000 in
set_option maxHeartbeats 8000000 in
theorem X2_liveOn_ca {S : Sc} {d : Nat} {o : Nat} {a1 : Int32} {mem : Mm} {rr : Int32} {mr : Mm} {Q : Po} (h_o : kdp o 2) (h : X2_liveOn o a1 mem = some (rr, mr)) (q : Q (some (.int rr)) mr) : Ca S (d + 5) 44 [.ref o, .int a1] mem Q := by
  unfold X2_liveOn at h
  refine ca_in (by decide) mt_X2_liveOn (Nat.le_of_ble_eq_true rfl) ?_
  show Ev S (d + 4) 2 cX2_liveOn (some .int) 0 [some (.ref o), some (.int a1), none] [] mem Q
  refine ev_iload_n dX2_liveOn_0 (pc' := 1) rfl rfl ?_
  refine ev_iconst dX2_liveOn_1 (pc' := 2) (v := 1) rfl (by decide) ?_
  refine ev_bipush dX2_liveOn_2 (pc' := 4) (v := 60) rfl (by decide) ?_
  refine ev_invS dX2_liveOn_4 (pc' := 7) rfl sq_2_46 mt_X3_rangeFault rfl ⟨_, rfl, Nat.le_of_ble_eq_true rfl, Nat.le_of_ble_eq_true rfl, rfl, rfl⟩ ?_
  refine X3_rangeFault_ca  rfl ?_
  refine ev_r1 ?_
  refine ev_topi (fun v1 e_v1 => ?_)
  replace h := nm_at e_v1 h
  refine ev_istore_n dX2_liveOn_7 (pc' := 8) (ls' := [some (.ref o), some (.int a1), some (.int v1)]) rfl (Nat.le_of_ble_eq_true rfl) rfl ?_
  refine ev_iload_n dX2_liveOn_8 (pc' := 9) rfl rfl ?_
  refine ev_if_ne dX2_liveOn_9 (pc' := 12) rfl (t := 27) rfl (fun c2 => ?_) (fun c2 => ?_)
  · replace h := it_f c2 h
    refine ev_iload_n dX2_liveOn_27 (pc' := 28) rfl rfl ?_
    refine ev_if_ne dX2_liveOn_28 (pc' := 31) rfl (t := 36) rfl (fun _ => ?_) (fun q => absurd q c2)
    refine ev_iload_n dX2_liveOn_36 (pc' := 37) rfl rfl ?_
    obtain ⟨rfl, rfl⟩ := rt2 h
    exact ev_ireturn dX2_liveOn_37 rfl q
  · replace h := it_t c2 h
    refine ev_aload_n dX2_liveOn_12 (pc' := 13) rfl rfl ?_
    refine ev_get dX2_liveOn_13 (pc' := 16) rfl fq_2_35 h_o rfl ?_
    refine ev_iload_n dX2_liveOn_16 (pc' := 17) rfl rfl ?_
    refine ev_iadd dX2_liveOn_17 (pc' := 18) rfl ?_
    refine ev_sipush dX2_liveOn_18 (pc' := 21) (v := 999) rfl (by decide) ?_
    refine ev_icmp_le dX2_liveOn_21 (pc' := 24) rfl (t := 27) rfl (fun c3 => ?_) (fun c3 => ?_)
    · replace h := it_t c3 h
      refine ev_iload_n dX2_liveOn_27 (pc' := 28) rfl rfl ?_
      refine ev_if_ne dX2_liveOn_28 (pc' := 31) rfl (t := 36) rfl (fun q => absurd c2 q) (fun _ => ?_)
      refine ev_aload_n dX2_liveOn_31 (pc' := 32) rfl rfl ?_
      refine ev_iload_n dX2_liveOn_32 (pc' := 33) rfl rfl ?_
      obtain ⟨m4, x_m4, h⟩ := ob_of h
      refine ev_invV dX2_liveOn_33 (pc' := 36) rfl sq_2_108 mt_X2_goOn rfl (arecv_ob (x := o) rfl rfl (by decide) h_o) ⟨_, rfl, Nat.le_of_ble_eq_true rfl, Nat.le_of_ble_eq_true rfl, rfl, rfl⟩ ?_
      refine X2_goOn_ca h_o x_m4 ?_
      refine ev_r0 ?_
      refine ev_iload_n dX2_liveOn_36 (pc' := 37) rfl rfl ?_
      obtain ⟨rfl, rfl⟩ := rt2 h
      exact ev_ireturn dX2_liveOn_37 rfl q
    · replace h := it_f c3 h
      refine ev_bipush dX2_liveOn_24 (pc' := 26) (v := (-6)) rfl (by decide) ?_
      refine ev_istore_n dX2_liveOn_26 (pc' := 27) (ls' := [some (.ref o), some (.int a1), some (.int (-6))]) rfl (Nat.le_of_ble_eq_true rfl) rfl ?_
      refine ev_iload_n dX2_liveOn_27 (pc' := 28) rfl rfl ?_
      refine ev_if_ne dX2_liveOn_28 (pc' := 31) rfl (t := 36) rfl (fun _ => ?_) (fun q => absurd q (by decide))
      refine ev_iload_n dX2_liveOn_36 (pc' := 37) rfl rfl ?_
      obtain ⟨rfl, rfl⟩ := rt2 h
      exact ev_ireturn dX2_liveOn_37 rfl q
def X2_allAmounts_L4 (o : Nat)  (m3 : Mm) : Nat → Int32 → Int32 → Option Int32
  | 0, _, _ => none
  | n + 1, w1, w2 => if (m3 o 2) ≤ w2 then (some w1) else (ob (X2_at o w2) (fun y5 => nm (w1 + (m3 y5 2)) (fun v6 => nm (w2 + 1) (fun v7 => X2_allAmounts_L4 o m3 n v6 v7))))
def X2_allAmounts (o : Nat) (mem : Mm) : Option Int32 := X2_allAmounts_L4 o mem LF 0 0
set_option maxRecDepth 100000 in
set_option maxHeartbeats 8000000 in
theorem X2_allAmounts_L4_ev {S : Sc} {d : Nat} {o : Nat}  {m3 : Mm} {rr : Int32} {Q : Po} (h_o : kdp o 2) (q : Q (some (.int rr)) m3) : ∀ (n : Nat) (w1 : Int32) (w2 : Int32), X2_allAmounts_L4 o m3 n w1 w2 = some rr → Ev S (d + 1) 2 cX2_allAmounts (some .int) 4 [some (.ref o), some (.int w1), some (.int w2)] [] m3 Q := by
  intro n
  induction n with
  | zero => intro w1 w2 h; cases h
  | succ n ih =>
    intro w1 w2 h
    unfold X2_allAmounts_L4 at h
    refine ev_iload_n dX2_allAmounts_4 (pc' := 5) rfl rfl ?_
    refine ev_aload_n dX2_allAmounts_5 (pc' := 6) rfl rfl ?_
    refine ev_get dX2_allAmounts_6 (pc' := 9) rfl fq_2_22 h_o rfl ?_
    refine ev_icmp_ge dX2_allAmounts_9 (pc' := 12) rfl (t := 29) rfl (fun c4 => ?_) (fun c4 => ?_)
    · replace h := it_t c4 h
      refine ev_iload_n dX2_allAmounts_29 (pc' := 30) rfl rfl ?_
      obtain rfl := rt1 h
      exact ev_ireturn dX2_allAmounts_30 rfl q
    · replace h := it_f c4 h
      refine ev_iload_n dX2_allAmounts_12 (pc' := 13) rfl rfl ?_
      refine ev_aload_n dX2_allAmounts_13 (pc' := 14) rfl rfl ?_
      refine ev_iload_n dX2_allAmounts_14 (pc' := 15) rfl rfl ?_
      obtain ⟨y5, x_y5, h⟩ := ob_of h
      refine ev_invV dX2_allAmounts_15 (pc' := 18) rfl sq_2_38 mt_X2_at rfl (arecv_ob (x := o) rfl rfl (by decide) h_o) ⟨_, rfl, Nat.le_of_ble_eq_true rfl, Nat.le_of_ble_eq_true rfl, rfl, rfl⟩ ?_
      refine X2_at_ca h_o x_y5 ?_
      refine ev_r1 ?_
      refine ev_get dX2_allAmounts_18 (pc' := 21) rfl fq_2_59 (X2_at_kd h_o x_y5) rfl ?_
      refine ev_iadd dX2_allAmounts_21 (pc' := 22) rfl ?_
      refine ev_topi (fun v6 e_v6 => ?_)
      replace h := nm_at e_v6 h
      refine ev_istore_n dX2_allAmounts_22 (pc' := 23) (ls' := [some (.ref o), some (.int v6), some (.int w2)]) rfl (Nat.le_of_ble_eq_true rfl) rfl ?_
      obtain ⟨v7, e_v7⟩ : ∃ y : Int32, y = (w2 + 1) := ⟨_, rfl⟩
      replace h := nm_at e_v7 h
      refine ev_iinc dX2_allAmounts_23 (pc' := 26) (v := v7) (ls' := [some (.ref o), some (.int v6), some (.int v7)]) rfl rfl (by rw [e_v7]; rfl) (Nat.le_of_ble_eq_true rfl) rfl ?_
      refine ev_goto dX2_allAmounts_26 (t := 4) rfl ?_
      exact ev_sub (lsub_c (lsub_c (lsub_c lsub_nil))) (ih v6 v7 h)
set_option maxRecDepth 100000 in
set_option maxHeartbeats 8000000 in
theorem X2_allAmounts_ca {S : Sc} {d : Nat} {o : Nat} {mem : Mm} {rr : Int32} {Q : Po} (h_o : kdp o 2) (h : X2_allAmounts o mem = some rr) (q : Q (some (.int rr)) mem) : Ca S (d + 2) 45 [.ref o] mem Q := by
  unfold X2_allAmounts at h
  refine ca_in (by decide) mt_X2_allAmounts (Nat.le_of_ble_eq_true rfl) ?_
  show Ev S (d + 1) 2 cX2_allAmounts (some .int) 0 [some (.ref o), none, none] [] mem Q
  refine ev_iconst dX2_allAmounts_0 (pc' := 1) (v := 0) rfl (by decide) ?_
  refine ev_istore_n dX2_allAmounts_1 (pc' := 2) (ls' := [some (.ref o), some (.int 0), none]) rfl (Nat.le_of_ble_eq_true rfl) rfl ?_
  refine ev_iconst dX2_allAmounts_2 (pc' := 3) (v := 0) rfl (by decide) ?_
  refine ev_istore_n dX2_allAmounts_3 (pc' := 4) (ls' := [some (.ref o), some (.int 0), some (.int 0)]) rfl (Nat.le_of_ble_eq_true rfl) rfl ?_
  exact ev_sub (lsub_c (lsub_c (lsub_c lsub_nil))) (X2_allAmounts_L4_ev h_o q LF 0 0 h)
def X2_allTaken_L4 (o : Nat)  (m3 : Mm) : Nat → Int32 → Int32 → Option Int32
  | 0, _, _ => none
  | n + 1, w1, w2 => if (m3 o 2) ≤ w2 then (some w1) else (ob (X2_at o w2) (fun y5 => nm (w1 + (m3 y5 5)) (fun v6 => nm (w2 + 1) (fun v7 => X2_allTaken_L4 o m3 n v6 v7))))
def X2_allTaken (o : Nat) (mem : Mm) : Option Int32 := X2_allTaken_L4 o mem LF 0 0
set_option maxRecDepth 100000 in
set_option maxHeartbeats 8000000 in
theorem X2_allTaken_L4_ev {S : Sc} {d : Nat} {o : Nat}  {m3 : Mm} {rr : Int32} {Q : Po} (h_o : kdp o 2) (q : Q (some (.int rr)) m3) : ∀ (n : Nat) (w1 : Int32) (w2 : Int32), X2_allTaken_L4 o m3 n w1 w2 = some rr → Ev S (d + 1) 2 cX2_allTaken (some .int) 4 [some (.ref o), some (.int w1), some (.int w2)] [] m3 Q := by
  intro n
  induction n with
  | zero => intro w1 w2 h; cases h
  | succ n ih =>
    intro w1 w2 h
    unfold X2_allTaken_L4 at h
    refine ev_iload_n dX2_allTaken_4 (pc' := 5) rfl rfl ?_
    refine ev_aload_n dX2_allTaken_5 (pc' := 6) rfl rfl ?_
    refine ev_get dX2_allTaken_6 (pc' := 9) rfl fq_2_22 h_o rfl ?_
    refine ev_icmp_ge dX2_allTaken_9 (pc' := 12) rfl (t := 29) rfl (fun c4 => ?_) (fun c4 => ?_)
    · replace h := it_t c4 h
      refine ev_iload_n dX2_allTaken_29 (pc' := 30) rfl rfl ?_
      obtain rfl := rt1 h
      exact ev_ireturn dX2_allTaken_30 rfl q
    · replace h := it_f c4 h
      refine ev_iload_n dX2_allTaken_12 (pc' := 13) rfl rfl ?_
      refine ev_aload_n dX2_allTaken_13 (pc' := 14) rfl rfl ?_
      refine ev_iload_n dX2_allTaken_14 (pc' := 15) rfl rfl ?_
      obtain ⟨y5, x_y5, h⟩ := ob_of h
      refine ev_invV dX2_allTaken_15 (pc' := 18) rfl sq_2_38 mt_X2_at rfl (arecv_ob (x := o) rfl rfl (by decide) h_o) ⟨_, rfl, Nat.le_of_ble_eq_true rfl, Nat.le_of_ble_eq_true rfl, rfl, rfl⟩ ?_
      refine X2_at_ca h_o x_y5 ?_
      refine ev_r1 ?_
      refine ev_get dX2_allTaken_18 (pc' := 21) rfl fq_2_68 (X2_at_kd h_o x_y5) rfl ?_
      refine ev_iadd dX2_allTaken_21 (pc' := 22) rfl ?_
      refine ev_topi (fun v6 e_v6 => ?_)
      replace h := nm_at e_v6 h
      refine ev_istore_n dX2_allTaken_22 (pc' := 23) (ls' := [some (.ref o), some (.int v6), some (.int w2)]) rfl (Nat.le_of_ble_eq_true rfl) rfl ?_
      obtain ⟨v7, e_v7⟩ : ∃ y : Int32, y = (w2 + 1) := ⟨_, rfl⟩
      replace h := nm_at e_v7 h
      refine ev_iinc dX2_allTaken_23 (pc' := 26) (v := v7) (ls' := [some (.ref o), some (.int v6), some (.int v7)]) rfl rfl (by rw [e_v7]; rfl) (Nat.le_of_ble_eq_true rfl) rfl ?_
      refine ev_goto dX2_allTaken_26 (t := 4) rfl ?_
      exact ev_sub (lsub_c (lsub_c (lsub_c lsub_nil))) (ih v6 v7 h)
set_option maxRecDepth 100000 in
set_option maxHeartbeats 8000000 in
theorem X2_allTaken_ca {S : Sc} {d : Nat} {o : Nat} {mem : Mm} {rr : Int32} {Q : Po} (h_o : kdp o 2) (h : X2_allTaken o mem = some rr) (q : Q (some (.int rr)) mem) : Ca S (d + 2) 46 [.ref o] mem Q := by
  unfold X2_allTaken at h
  refine ca_in (by decide) mt_X2_allTaken (Nat.le_of_ble_eq_true rfl) ?_
  show Ev S (d + 1) 2 cX2_allTaken (some .int) 0 [some (.ref o), none, none] [] mem Q
  refine ev_iconst dX2_allTaken_0 (pc' := 1) (v := 0) rfl (by decide) ?_
  refine ev_istore_n dX2_allTaken_1 (pc' := 2) (ls' := [some (.ref o), some (.int 0), none]) rfl (Nat.le_of_ble_eq_true rfl) rfl ?_
  refine ev_iconst dX2_allTaken_2 (pc' := 3) (v := 0) rfl (by decide) ?_
  refine ev_istore_n dX2_allTaken_3 (pc' := 4) (ls' := [some (.ref o), some (.int 0), some (.int 0)]) rfl (Nat.le_of_ble_eq_true rfl) rfl ?_
  exact ev_sub (lsub_c (lsub_c (lsub_c lsub_nil))) (X2_allTaken_L4_ev h_o q LF 0 0 h)
def X2_fullest_L5 (o : Nat)  (m3 : Mm) : Nat → Int32 → Int32 → Option Int32
  | 0, _, _ => none
  | n + 1, w1, w2 => if (m3 o 2) ≤ w2 then (some w1) else (if w1 < 0 then (nm (w2 + 1) (fun v6 => X2_fullest_L5 o m3 n w2 v6)) else (ob (X2_at o w2) (fun y7 => ob (X2_at o w1) (fun y8 => if (m3 y7 2) ≤ (m3 y8 2) then (nm (w2 + 1) (fun v10 => X2_fullest_L5 o m3 n w1 v10)) else (nm (w2 + 1) (fun v11 => X2_fullest_L5 o m3 n w2 v11))))))
def X2_fullest (o : Nat) (mem : Mm) : Option Int32 := X2_fullest_L5 o mem LF (-9) 0
set_option maxRecDepth 100000 in
set_option maxHeartbeats 8000000 in
theorem X2_fullest_L5_ev {S : Sc} {d : Nat} {o : Nat}  {m3 : Mm} {rr : Int32} {Q : Po} (h_o : kdp o 2) (q : Q (some (.int rr)) m3) : ∀ (n : Nat) (w1 : Int32) (w2 : Int32), X2_fullest_L5 o m3 n w1 w2 = some rr → Ev S (d + 1) 2 cX2_fullest (some .int) 5 [some (.ref o), some (.int w1), some (.int w2)] [] m3 Q := by
  intro n
  induction n with
  | zero => intro w1 w2 h; cases h
  | succ n ih =>
    intro w1 w2 h
    unfold X2_fullest_L5 at h
    refine ev_iload_n dX2_fullest_5 (pc' := 6) rfl rfl ?_
    refine ev_aload_n dX2_fullest_6 (pc' := 7) rfl rfl ?_
    refine ev_get dX2_fullest_7 (pc' := 10) rfl fq_2_22 h_o rfl ?_
    refine ev_icmp_ge dX2_fullest_10 (pc' := 13) rfl (t := 44) rfl (fun c4 => ?_) (fun c4 => ?_)
    · replace h := it_t c4 h
      refine ev_iload_n dX2_fullest_44 (pc' := 45) rfl rfl ?_
      obtain rfl := rt1 h
      exact ev_ireturn dX2_fullest_45 rfl q
    · replace h := it_f c4 h
      refine ev_iload_n dX2_fullest_13 (pc' := 14) rfl rfl ?_
      refine ev_if_lt dX2_fullest_14 (pc' := 17) rfl (t := 36) rfl (fun c5 => ?_) (fun c5 => ?_)
      · replace h := it_t c5 h
        refine ev_iload_n dX2_fullest_36 (pc' := 37) rfl rfl ?_
        refine ev_istore_n dX2_fullest_37 (pc' := 38) (ls' := [some (.ref o), some (.int w2), some (.int w2)]) rfl (Nat.le_of_ble_eq_true rfl) rfl ?_
        obtain ⟨v6, e_v6⟩ : ∃ y : Int32, y = (w2 + 1) := ⟨_, rfl⟩
        replace h := nm_at e_v6 h
        refine ev_iinc dX2_fullest_38 (pc' := 41) (v := v6) (ls' := [some (.ref o), some (.int w2), some (.int v6)]) rfl rfl (by rw [e_v6]; rfl) (Nat.le_of_ble_eq_true rfl) rfl ?_
        refine ev_goto dX2_fullest_41 (t := 5) rfl ?_
        exact ev_sub (lsub_c (lsub_c (lsub_c lsub_nil))) (ih w2 v6 h)
      · replace h := it_f c5 h
        refine ev_aload_n dX2_fullest_17 (pc' := 18) rfl rfl ?_
        refine ev_iload_n dX2_fullest_18 (pc' := 19) rfl rfl ?_
        obtain ⟨y7, x_y7, h⟩ := ob_of h
        refine ev_invV dX2_fullest_19 (pc' := 22) rfl sq_2_38 mt_X2_at rfl (arecv_ob (x := o) rfl rfl (by decide) h_o) ⟨_, rfl, Nat.le_of_ble_eq_true rfl, Nat.le_of_ble_eq_true rfl, rfl, rfl⟩ ?_
        refine X2_at_ca h_o x_y7 ?_
        refine ev_r1 ?_
        refine ev_get dX2_fullest_22 (pc' := 25) rfl fq_2_59 (X2_at_kd h_o x_y7) rfl ?_
        refine ev_aload_n dX2_fullest_25 (pc' := 26) rfl rfl ?_
        refine ev_iload_n dX2_fullest_26 (pc' := 27) rfl rfl ?_
        obtain ⟨y8, x_y8, h⟩ := ob_of h
        refine ev_invV dX2_fullest_27 (pc' := 30) rfl sq_2_38 mt_X2_at rfl (arecv_ob (x := o) rfl rfl (by decide) h_o) ⟨_, rfl, Nat.le_of_ble_eq_true rfl, Nat.le_of_ble_eq_true rfl, rfl, rfl⟩ ?_
        refine X2_at_ca h_o x_y8 ?_
        refine ev_r1 ?_
        refine ev_get dX2_fullest_30 (pc' := 33) rfl fq_2_59 (X2_at_kd h_o x_y8) rfl ?_
        refine ev_icmp_le dX2_fullest_33 (pc' := 36) rfl (t := 38) rfl (fun c9 => ?_) (fun c9 => ?_)
        · replace h := it_t c9 h
          obtain ⟨v10, e_v10⟩ : ∃ y : Int32, y = (w2 + 1) := ⟨_, rfl⟩
          replace h := nm_at e_v10 h
          refine ev_iinc dX2_fullest_38 (pc' := 41) (v := v10) (ls' := [some (.ref o), some (.int w1), some (.int v10)]) rfl rfl (by rw [e_v10]; rfl) (Nat.le_of_ble_eq_true rfl) rfl ?_
          refine ev_goto dX2_fullest_41 (t := 5) rfl ?_
          exact ev_sub (lsub_c (lsub_c (lsub_c lsub_nil))) (ih w1 v10 h)
        · replace h := it_f c9 h
          refine ev_iload_n dX2_fullest_36 (pc' := 37) rfl rfl ?_
          refine ev_istore_n dX2_fullest_37 (pc' := 38) (ls' := [some (.ref o), some (.int w2), some (.int w2)]) rfl (Nat.le_of_ble_eq_true rfl) rfl ?_
          obtain ⟨v11, e_v11⟩ : ∃ y : Int32, y = (w2 + 1) := ⟨_, rfl⟩
          replace h := nm_at e_v11 h
          refine ev_iinc dX2_fullest_38 (pc' := 41) (v := v11) (ls' := [some (.ref o), some (.int w2), some (.int v11)]) rfl rfl (by rw [e_v11]; rfl) (Nat.le_of_ble_eq_true rfl) rfl ?_
          refine ev_goto dX2_fullest_41 (t := 5) rfl ?_
          exact ev_sub (lsub_c (lsub_c (lsub_c lsub_nil))) (ih w2 v11 h)
set_option maxRecDepth 100000 in
set_option maxHeartbeats 8000000 in
theorem X2_fullest_ca {S : Sc} {d : Nat} {o : Nat} {mem : Mm} {rr : Int32} {Q : Po} (h_o : kdp o 2) (h : X2_fullest o mem = some rr) (q : Q (some (.int rr)) mem) : Ca S (d + 2) 47 [.ref o] mem Q := by
  unfold X2_fullest at h
  refine ca_in (by decide) mt_X2_fullest (Nat.le_of_ble_eq_true rfl) ?_
  show Ev S (d + 1) 2 cX2_fullest (some .int) 0 [some (.ref o), none, none] [] mem Q
  refine ev_bipush dX2_fullest_0 (pc' := 2) (v := (-9)) rfl (by decide) ?_
  refine ev_istore_n dX2_fullest_2 (pc' := 3) (ls' := [some (.ref o), some (.int (-9)), none]) rfl (Nat.le_of_ble_eq_true rfl) rfl ?_
  refine ev_iconst dX2_fullest_3 (pc' := 4) (v := 0) rfl (by decide) ?_
  refine ev_istore_n dX2_fullest_4 (pc' := 5) (ls' := [some (.ref o), some (.int (-9)), some (.int 0)]) rfl (Nat.le_of_ble_eq_true rfl) rfl ?_
  exact ev_sub (lsub_c (lsub_c (lsub_c lsub_nil))) (X2_fullest_L5_ev h_o q LF (-9) 0 h)
def X2_dutyOf (o : Nat) (a1 : Int32) (mem : Mm) : Option Int32 := ob (X2_at o a1) (fun y1 => ob (X2_at o a1) (fun y2 => some ((((mem y1 2) + (mem y2 5)) / 10) * (mem o 5))))
set_option maxRecDepth 100000 in
set_option maxHeartbeats 8000000 in
theorem X2_dutyOf_ca {S : Sc} {d : Nat} {o : Nat} {a1 : Int32} {mem : Mm} {rr : Int32} {Q : Po} (h_o : kdp o 2) (h : X2_dutyOf o a1 mem = some rr) (q : Q (some (.int rr)) mem) : Ca S (d + 2) 48 [.ref o, .int a1] mem Q := by
  unfold X2_dutyOf at h
  refine ca_in (by decide) mt_X2_dutyOf (Nat.le_of_ble_eq_true rfl) ?_
  show Ev S (d + 1) 2 cX2_dutyOf (some .int) 0 [some (.ref o), some (.int a1)] [] mem Q
  refine ev_aload_n dX2_dutyOf_0 (pc' := 1) rfl rfl ?_
  refine ev_iload_n dX2_dutyOf_1 (pc' := 2) rfl rfl ?_
  obtain ⟨y1, x_y1, h⟩ := ob_of h
  refine ev_invV dX2_dutyOf_2 (pc' := 5) rfl sq_2_38 mt_X2_at rfl (arecv_ob (x := o) rfl rfl (by decide) h_o) ⟨_, rfl, Nat.le_of_ble_eq_true rfl, Nat.le_of_ble_eq_true rfl, rfl, rfl⟩ ?_
  refine X2_at_ca h_o x_y1 ?_
  refine ev_r1 ?_
  refine ev_get dX2_dutyOf_5 (pc' := 8) rfl fq_2_59 (X2_at_kd h_o x_y1) rfl ?_
  refine ev_aload_n dX2_dutyOf_8 (pc' := 9) rfl rfl ?_
  refine ev_iload_n dX2_dutyOf_9 (pc' := 10) rfl rfl ?_
  obtain ⟨y2, x_y2, h⟩ := ob_of h
  refine ev_invV dX2_dutyOf_10 (pc' := 13) rfl sq_2_38 mt_X2_at rfl (arecv_ob (x := o) rfl rfl (by decide) h_o) ⟨_, rfl, Nat.le_of_ble_eq_true rfl, Nat.le_of_ble_eq_true rfl, rfl, rfl⟩ ?_
  refine X2_at_ca h_o x_y2 ?_
  refine ev_r1 ?_
  refine ev_get dX2_dutyOf_13 (pc' := 16) rfl fq_2_68 (X2_at_kd h_o x_y2) rfl ?_
  refine ev_iadd dX2_dutyOf_16 (pc' := 17) rfl ?_
  refine ev_bipush dX2_dutyOf_17 (pc' := 19) (v := 10) rfl (by decide) ?_
  refine ev_idiv dX2_dutyOf_19 (pc' := 20) rfl (by decide) ?_
  refine ev_aload_n dX2_dutyOf_20 (pc' := 21) rfl rfl ?_
  refine ev_get dX2_dutyOf_21 (pc' := 24) rfl fq_2_32 h_o rfl ?_
  refine ev_imul dX2_dutyOf_24 (pc' := 25) rfl ?_
  obtain rfl := rt1 h
  exact ev_ireturn dX2_dutyOf_25 rfl q
def X2_dutyOfAll_L4 (o : Nat)  (m3 : Mm) : Nat → Int32 → Int32 → Option Int32
  | 0, _, _ => none
  | n + 1, w1, w2 => if (m3 o 2) ≤ w2 then (some w1) else (ob (X2_dutyOf o w2 m3) (fun y5 => nm (w1 + y5) (fun v6 => nm (w2 + 1) (fun v7 => X2_dutyOfAll_L4 o m3 n v6 v7))))
def X2_dutyOfAll (o : Nat) (mem : Mm) : Option Int32 := X2_dutyOfAll_L4 o mem LF 0 0
set_option maxRecDepth 100000 in
set_option maxHeartbeats 8000000 in
theorem X2_dutyOfAll_L4_ev {S : Sc} {d : Nat} {o : Nat}  {m3 : Mm} {rr : Int32} {Q : Po} (h_o : kdp o 2) (q : Q (some (.int rr)) m3) : ∀ (n : Nat) (w1 : Int32) (w2 : Int32), X2_dutyOfAll_L4 o m3 n w1 w2 = some rr → Ev S (d + 2) 2 cX2_dutyOfAll (some .int) 4 [some (.ref o), some (.int w1), some (.int w2)] [] m3 Q := by
  intro n
  induction n with
  | zero => intro w1 w2 h; cases h
  | succ n ih =>
    intro w1 w2 h
    unfold X2_dutyOfAll_L4 at h
    refine ev_iload_n dX2_dutyOfAll_4 (pc' := 5) rfl rfl ?_
    refine ev_aload_n dX2_dutyOfAll_5 (pc' := 6) rfl rfl ?_
    refine ev_get dX2_dutyOfAll_6 (pc' := 9) rfl fq_2_22 h_o rfl ?_
    refine ev_icmp_ge dX2_dutyOfAll_9 (pc' := 12) rfl (t := 26) rfl (fun c4 => ?_) (fun c4 => ?_)
    · replace h := it_t c4 h
      refine ev_iload_n dX2_dutyOfAll_26 (pc' := 27) rfl rfl ?_
      obtain rfl := rt1 h
      exact ev_ireturn dX2_dutyOfAll_27 rfl q
    · replace h := it_f c4 h
      refine ev_iload_n dX2_dutyOfAll_12 (pc' := 13) rfl rfl ?_
      refine ev_aload_n dX2_dutyOfAll_13 (pc' := 14) rfl rfl ?_
      refine ev_iload_n dX2_dutyOfAll_14 (pc' := 15) rfl rfl ?_
      obtain ⟨y5, x_y5, h⟩ := ob_of h
      refine ev_invV dX2_dutyOfAll_15 (pc' := 18) rfl sq_2_111 mt_X2_dutyOf rfl (arecv_ob (x := o) rfl rfl (by decide) h_o) ⟨_, rfl, Nat.le_of_ble_eq_true rfl, Nat.le_of_ble_eq_true rfl, rfl, rfl⟩ ?_
      refine X2_dutyOf_ca h_o x_y5 ?_
      refine ev_r1 ?_
      refine ev_iadd dX2_dutyOfAll_18 (pc' := 19) rfl ?_
      refine ev_topi (fun v6 e_v6 => ?_)
      replace h := nm_at e_v6 h
      refine ev_istore_n dX2_dutyOfAll_19 (pc' := 20) (ls' := [some (.ref o), some (.int v6), some (.int w2)]) rfl (Nat.le_of_ble_eq_true rfl) rfl ?_
      obtain ⟨v7, e_v7⟩ : ∃ y : Int32, y = (w2 + 1) := ⟨_, rfl⟩
      replace h := nm_at e_v7 h
      refine ev_iinc dX2_dutyOfAll_20 (pc' := 23) (v := v7) (ls' := [some (.ref o), some (.int v6), some (.int v7)]) rfl rfl (by rw [e_v7]; rfl) (Nat.le_of_ble_eq_true rfl) rfl ?_
      refine ev_goto dX2_dutyOfAll_23 (t := 4) rfl ?_
      exact ev_sub (lsub_c (lsub_c (lsub_c lsub_nil))) (ih v6 v7 h)
set_option maxRecDepth 100000 in
set_option maxHeartbeats 8000000 in
theorem X2_dutyOfAll_ca {S : Sc} {d : Nat} {o : Nat} {mem : Mm} {rr : Int32} {Q : Po} (h_o : kdp o 2) (h : X2_dutyOfAll o mem = some rr) (q : Q (some (.int rr)) mem) : Ca S (d + 3) 49 [.ref o] mem Q := by
  unfold X2_dutyOfAll at h
  refine ca_in (by decide) mt_X2_dutyOfAll (Nat.le_of_ble_eq_true rfl) ?_
  show Ev S (d + 2) 2 cX2_dutyOfAll (some .int) 0 [some (.ref o), none, none] [] mem Q
  refine ev_iconst dX2_dutyOfAll_0 (pc' := 1) (v := 0) rfl (by decide) ?_
  refine ev_istore_n dX2_dutyOfAll_1 (pc' := 2) (ls' := [some (.ref o), some (.int 0), none]) rfl (Nat.le_of_ble_eq_true rfl) rfl ?_
  refine ev_iconst dX2_dutyOfAll_2 (pc' := 3) (v := 0) rfl (by decide) ?_
  refine ev_istore_n dX2_dutyOfAll_3 (pc' := 4) (ls' := [some (.ref o), some (.int 0), some (.int 0)]) rfl (Nat.le_of_ble_eq_true rfl) rfl ?_
  exact ev_sub (lsub_c (lsub_c (lsub_c lsub_nil))) (X2_dutyOfAll_L4_ev h_o q LF 0 0 h)
def X3_refuse (_o : Nat) (a1 : Int32) (mem : Mm) : Option (Int32 × Mm) := nm (-a1) (fun v1 => if v1 < 0 then (some (a1, mem)) else (if 7 ≤ v1 then (some (a1, mem)) else (gd (vin v1 7) (nm (mset mem 34 (v1).toNatClampNeg ((mem 34 (v1).toNatClampNeg) + 1)) (fun m5 => some (a1, m5))))))
set_option maxRecDepth 100000 in
set_option maxHeartbeats 8000000 in
theorem X3_refuse_ca {S : Sc} {d : Nat} {a1 : Int32} {mem : Mm} {rr : Int32} {mr : Mm} {Q : Po}  (h : X3_refuse 0 a1 mem = some (rr, mr)) (q : Q (some (.int rr)) mr) : Ca S (d + 1) 82 [.ref 0, .int a1] mem Q := by
  unfold X3_refuse at h
  refine ca_in (by decide) mt_X3_refuse (Nat.le_of_ble_eq_true rfl) ?_
  show Ev S (d + 0) 3 cX3_refuse (some .int) 0 [some (.ref 0), some (.int a1), none] [] mem Q
  refine ev_iload_n dX3_refuse_0 (pc' := 1) rfl rfl ?_
  refine ev_ineg dX3_refuse_1 (pc' := 2) rfl ?_
  refine ev_topi (fun v1 e_v1 => ?_)
  replace h := nm_at e_v1 h
  refine ev_istore_n dX3_refuse_2 (pc' := 3) (ls' := [some (.ref 0), some (.int a1), some (.int v1)]) rfl (Nat.le_of_ble_eq_true rfl) rfl ?_
  refine ev_iload_n dX3_refuse_3 (pc' := 4) rfl rfl ?_
  refine ev_if_lt dX3_refuse_4 (pc' := 7) rfl (t := 26) rfl (fun c2 => ?_) (fun c2 => ?_)
  · replace h := it_t c2 h
    refine ev_iload_n dX3_refuse_26 (pc' := 27) rfl rfl ?_
    obtain ⟨rfl, rfl⟩ := rt2 h
    exact ev_ireturn dX3_refuse_27 rfl q
  · replace h := it_f c2 h
    refine ev_iload_n dX3_refuse_7 (pc' := 8) rfl rfl ?_
    refine ev_aload_n dX3_refuse_8 (pc' := 9) rfl rfl ?_
    refine ev_getR (y := 34) dX3_refuse_9 (pc' := 12) rfl fq_3_41 kn_0 rfl ?_
    refine ev_alen (n := 7) dX3_refuse_12 (pc' := 13) rfl kn_34 rfl ?_
    refine ev_icmp_ge dX3_refuse_13 (pc' := 16) rfl (t := 26) rfl (fun c3 => ?_) (fun c3 => ?_)
    · replace h := it_t c3 h
      refine ev_iload_n dX3_refuse_26 (pc' := 27) rfl rfl ?_
      obtain ⟨rfl, rfl⟩ := rt2 h
      exact ev_ireturn dX3_refuse_27 rfl q
    · replace h := it_f c3 h
      refine ev_aload_n dX3_refuse_16 (pc' := 17) rfl rfl ?_
      refine ev_getR (y := 34) dX3_refuse_17 (pc' := 20) rfl fq_3_41 kn_0 rfl ?_
      refine ev_iload_n dX3_refuse_20 (pc' := 21) rfl rfl ?_
      refine ev_dup2 dX3_refuse_21 (pc' := 22) rfl rfl rfl ?_
      obtain ⟨g4, h⟩ := gd_of h
      refine ev_ialdK (k0 := (v1).toNatClampNeg) dX3_refuse_22 (pc' := 23) rfl kn_34 g4 rfl ?_
      refine ev_iconst dX3_refuse_23 (pc' := 24) (v := 1) rfl (by decide) ?_
      refine ev_iadd dX3_refuse_24 (pc' := 25) rfl ?_
      refine ev_iastK (k0 := (v1).toNatClampNeg) dX3_refuse_25 (pc' := 26) rfl kn_34 g4 rfl ?_
      refine ev_topm (fun m5 e_m5 => ?_)
      replace h := nm_at e_m5 h
      refine ev_iload_n dX3_refuse_26 (pc' := 27) rfl rfl ?_
      obtain ⟨rfl, rfl⟩ := rt2 h
      exact ev_ireturn dX3_refuse_27 rfl q
def X3_letter (_o : Nat) (a1 : Int32) (mem : Mm) : Option (Int32 × Mm) := nm (X3_rangeFault a1 0 255) (fun v1 => if v1 = 0 then (if (X1_isFull 31 mem) = 0 then (ob2 (X1_add 31 a1 mem) (fun y4 m5 => some (y4, m5))) else (ob2 (X3_refuse 0 (-6) mem) (fun y6 m7 => some (y6, m7)))) else (ob2 (X3_refuse 0 v1 mem) (fun y8 m9 => some (y8, m9))))
set_option maxRecDepth 100000 in
set_option maxHeartbeats 8000000 in
theorem X3_letter_ca {S : Sc} {d : Nat} {a1 : Int32} {mem : Mm} {rr : Int32} {mr : Mm} {Q : Po}  (h : X3_letter 0 a1 mem = some (rr, mr)) (q : Q (some (.int rr)) mr) : Ca S (d + 2) 50 [.ref 0, .int a1] mem Q := by
  unfold X3_letter at h
  refine ca_in (by decide) mt_X3_letter (Nat.le_of_ble_eq_true rfl) ?_
  show Ev S (d + 1) 3 cX3_letter (some .int) 0 [some (.ref 0), some (.int a1), none] [] mem Q
  refine ev_iload_n dX3_letter_0 (pc' := 1) rfl rfl ?_
  refine ev_iconst dX3_letter_1 (pc' := 2) (v := 0) rfl (by decide) ?_
  refine ev_sipush dX3_letter_2 (pc' := 5) (v := 255) rfl (by decide) ?_
  refine ev_invS dX3_letter_5 (pc' := 8) rfl sq_3_44 mt_X3_rangeFault rfl ⟨_, rfl, Nat.le_of_ble_eq_true rfl, Nat.le_of_ble_eq_true rfl, rfl, rfl⟩ ?_
  refine X3_rangeFault_ca  rfl ?_
  refine ev_r1 ?_
  refine ev_topi (fun v1 e_v1 => ?_)
  replace h := nm_at e_v1 h
  refine ev_istore_n dX3_letter_8 (pc' := 9) (ls' := [some (.ref 0), some (.int a1), some (.int v1)]) rfl (Nat.le_of_ble_eq_true rfl) rfl ?_
  refine ev_iload_n dX3_letter_9 (pc' := 10) rfl rfl ?_
  refine ev_if_ne dX3_letter_10 (pc' := 13) rfl (t := 26) rfl (fun c2 => ?_) (fun c2 => ?_)
  · replace h := it_f c2 h
    refine ev_iload_n dX3_letter_26 (pc' := 27) rfl rfl ?_
    refine ev_if_ne dX3_letter_27 (pc' := 30) rfl (t := 41) rfl (fun _ => ?_) (fun q => absurd q c2)
    refine ev_aload_n dX3_letter_41 (pc' := 42) rfl rfl ?_
    refine ev_iload_n dX3_letter_42 (pc' := 43) rfl rfl ?_
    obtain ⟨y8, m9, x_y8, h⟩ := ob2_of h
    refine ev_invV dX3_letter_43 (pc' := 46) rfl sq_3_56 mt_X3_refuse rfl (arecv_ob (x := 0) rfl rfl (by decide) kn_0) ⟨_, rfl, Nat.le_of_ble_eq_true rfl, Nat.le_of_ble_eq_true rfl, rfl, rfl⟩ ?_
    refine X3_refuse_ca  x_y8 ?_
    refine ev_r1 ?_
    obtain ⟨rfl, rfl⟩ := rt2 h
    exact ev_ireturn dX3_letter_46 rfl q
  · replace h := it_t c2 h
    refine ev_aload_n dX3_letter_13 (pc' := 14) rfl rfl ?_
    refine ev_getR (y := 31) dX3_letter_14 (pc' := 17) rfl fq_3_29 kn_0 rfl ?_
    refine ev_invV dX3_letter_17 (pc' := 20) rfl sq_3_48 mt_X1_isFull rfl (arecv_ob (x := 31) rfl rfl (by decide) kn_31) ⟨_, rfl, Nat.le_of_ble_eq_true rfl, Nat.le_of_ble_eq_true rfl, rfl, rfl⟩ ?_
    refine X1_isFull_ca kn_31 rfl ?_
    refine ev_r1 ?_
    refine ev_if_eq dX3_letter_20 (pc' := 23) rfl (t := 26) rfl (fun c3 => ?_) (fun c3 => ?_)
    · replace h := it_t c3 h
      refine ev_iload_n dX3_letter_26 (pc' := 27) rfl rfl ?_
      refine ev_if_ne dX3_letter_27 (pc' := 30) rfl (t := 41) rfl (fun q => absurd c2 q) (fun _ => ?_)
      refine ev_aload_n dX3_letter_30 (pc' := 31) rfl rfl ?_
      refine ev_getR (y := 31) dX3_letter_31 (pc' := 34) rfl fq_3_29 kn_0 rfl ?_
      refine ev_iload_n dX3_letter_34 (pc' := 35) rfl rfl ?_
      obtain ⟨y4, m5, x_y4, h⟩ := ob2_of h
      refine ev_invV dX3_letter_35 (pc' := 38) rfl sq_3_52 mt_X1_add rfl (arecv_ob (x := 31) rfl rfl (by decide) kn_31) ⟨_, rfl, Nat.le_of_ble_eq_true rfl, Nat.le_of_ble_eq_true rfl, rfl, rfl⟩ ?_
      refine X1_add_ca kn_31 x_y4 ?_
      refine ev_r1 ?_
      refine ev_goto dX3_letter_38 (t := 46) rfl ?_
      obtain ⟨rfl, rfl⟩ := rt2 h
      exact ev_ireturn dX3_letter_46 rfl q
    · replace h := it_f c3 h
      refine ev_bipush dX3_letter_23 (pc' := 25) (v := (-6)) rfl (by decide) ?_
      refine ev_istore_n dX3_letter_25 (pc' := 26) (ls' := [some (.ref 0), some (.int a1), some (.int (-6))]) rfl (Nat.le_of_ble_eq_true rfl) rfl ?_
      refine ev_iload_n dX3_letter_26 (pc' := 27) rfl rfl ?_
      refine ev_if_ne dX3_letter_27 (pc' := 30) rfl (t := 41) rfl (fun _ => ?_) (fun q => absurd q (by decide))
      refine ev_aload_n dX3_letter_41 (pc' := 42) rfl rfl ?_
      refine ev_iload_n dX3_letter_42 (pc' := 43) rfl rfl ?_
      obtain ⟨y6, m7, x_y6, h⟩ := ob2_of h
      refine ev_invV dX3_letter_43 (pc' := 46) rfl sq_3_56 mt_X3_refuse rfl (arecv_ob (x := 0) rfl rfl (by decide) kn_0) ⟨_, rfl, Nat.le_of_ble_eq_true rfl, Nat.le_of_ble_eq_true rfl, rfl, rfl⟩ ?_
      refine X3_refuse_ca  x_y6 ?_
      refine ev_r1 ?_
      obtain ⟨rfl, rfl⟩ := rt2 h
      exact ev_ireturn dX3_letter_46 rfl q
def X3_caskComes (_o : Nat) (a1 : Int32) (mem : Mm) : Option (Int32 × Mm) := ob (X1_kind 31 (a1 + 1) mem) (fun y1 => ob (X1_number 31 (a1 + 2) 3 mem) (fun y2 => ob (X1_number 31 (a1 + 5) 3 mem) (fun y3 => ob (X1_number 31 (a1 + 8) 2 mem) (fun y4 => ob (X1_number 31 (a1 + 10) 1 mem) (fun y5 => ob2 (X2_addCask 11 y1 y2 y3 y4 y5 mem) (fun y6 m7 => some (y6, m7)))))))
set_option maxRecDepth 100000 in
set_option maxHeartbeats 8000000 in
theorem X3_caskComes_ca {S : Sc} {d : Nat} {a1 : Int32} {mem : Mm} {rr : Int32} {mr : Mm} {Q : Po}  (h : X3_caskComes 0 a1 mem = some (rr, mr)) (q : Q (some (.int rr)) mr) : Ca S (d + 6) 95 [.ref 0, .int a1] mem Q := by
  unfold X3_caskComes at h
  refine ca_in (by decide) mt_X3_caskComes (Nat.le_of_ble_eq_true rfl) ?_
  show Ev S (d + 5) 3 cX3_caskComes (some .int) 0 [some (.ref 0), some (.int a1)] [] mem Q
  refine ev_aload_n dX3_caskComes_0 (pc' := 1) rfl rfl ?_
  refine ev_getR (y := 11) dX3_caskComes_1 (pc' := 4) rfl fq_3_16 kn_0 rfl ?_
  refine ev_aload_n dX3_caskComes_4 (pc' := 5) rfl rfl ?_
  refine ev_getR (y := 31) dX3_caskComes_5 (pc' := 8) rfl fq_3_29 kn_0 rfl ?_
  refine ev_iload_n dX3_caskComes_8 (pc' := 9) rfl rfl ?_
  refine ev_iconst dX3_caskComes_9 (pc' := 10) (v := 1) rfl (by decide) ?_
  refine ev_iadd dX3_caskComes_10 (pc' := 11) rfl ?_
  obtain ⟨y1, x_y1, h⟩ := ob_of h
  refine ev_invV dX3_caskComes_11 (pc' := 14) rfl sq_3_265 mt_X1_kind rfl (arecv_ob (x := 31) rfl rfl (by decide) kn_31) ⟨_, rfl, Nat.le_of_ble_eq_true rfl, Nat.le_of_ble_eq_true rfl, rfl, rfl⟩ ?_
  refine X1_kind_ca kn_31 x_y1 ?_
  refine ev_r1 ?_
  refine ev_aload_n dX3_caskComes_14 (pc' := 15) rfl rfl ?_
  refine ev_getR (y := 31) dX3_caskComes_15 (pc' := 18) rfl fq_3_29 kn_0 rfl ?_
  refine ev_iload_n dX3_caskComes_18 (pc' := 19) rfl rfl ?_
  refine ev_iconst dX3_caskComes_19 (pc' := 20) (v := 2) rfl (by decide) ?_
  refine ev_iadd dX3_caskComes_20 (pc' := 21) rfl ?_
  refine ev_iconst dX3_caskComes_21 (pc' := 22) (v := 3) rfl (by decide) ?_
  obtain ⟨y2, x_y2, h⟩ := ob_of h
  refine ev_invV dX3_caskComes_22 (pc' := 25) rfl sq_3_259 mt_X1_number rfl (arecv_ob (x := 31) rfl rfl (by decide) kn_31) ⟨_, rfl, Nat.le_of_ble_eq_true rfl, Nat.le_of_ble_eq_true rfl, rfl, rfl⟩ ?_
  refine X1_number_ca kn_31 x_y2 ?_
  refine ev_r1 ?_
  refine ev_aload_n dX3_caskComes_25 (pc' := 26) rfl rfl ?_
  refine ev_getR (y := 31) dX3_caskComes_26 (pc' := 29) rfl fq_3_29 kn_0 rfl ?_
  refine ev_iload_n dX3_caskComes_29 (pc' := 30) rfl rfl ?_
  refine ev_iconst dX3_caskComes_30 (pc' := 31) (v := 5) rfl (by decide) ?_
  refine ev_iadd dX3_caskComes_31 (pc' := 32) rfl ?_
  refine ev_iconst dX3_caskComes_32 (pc' := 33) (v := 3) rfl (by decide) ?_
  obtain ⟨y3, x_y3, h⟩ := ob_of h
  refine ev_invV dX3_caskComes_33 (pc' := 36) rfl sq_3_259 mt_X1_number rfl (arecv_ob (x := 31) rfl rfl (by decide) kn_31) ⟨_, rfl, Nat.le_of_ble_eq_true rfl, Nat.le_of_ble_eq_true rfl, rfl, rfl⟩ ?_
  refine X1_number_ca kn_31 x_y3 ?_
  refine ev_r1 ?_
  refine ev_aload_n dX3_caskComes_36 (pc' := 37) rfl rfl ?_
  refine ev_getR (y := 31) dX3_caskComes_37 (pc' := 40) rfl fq_3_29 kn_0 rfl ?_
  refine ev_iload_n dX3_caskComes_40 (pc' := 41) rfl rfl ?_
  refine ev_bipush dX3_caskComes_41 (pc' := 43) (v := 8) rfl (by decide) ?_
  refine ev_iadd dX3_caskComes_43 (pc' := 44) rfl ?_
  refine ev_iconst dX3_caskComes_44 (pc' := 45) (v := 2) rfl (by decide) ?_
  obtain ⟨y4, x_y4, h⟩ := ob_of h
  refine ev_invV dX3_caskComes_45 (pc' := 48) rfl sq_3_259 mt_X1_number rfl (arecv_ob (x := 31) rfl rfl (by decide) kn_31) ⟨_, rfl, Nat.le_of_ble_eq_true rfl, Nat.le_of_ble_eq_true rfl, rfl, rfl⟩ ?_
  refine X1_number_ca kn_31 x_y4 ?_
  refine ev_r1 ?_
  refine ev_aload_n dX3_caskComes_48 (pc' := 49) rfl rfl ?_
  refine ev_getR (y := 31) dX3_caskComes_49 (pc' := 52) rfl fq_3_29 kn_0 rfl ?_
  refine ev_iload_n dX3_caskComes_52 (pc' := 53) rfl rfl ?_
  refine ev_bipush dX3_caskComes_53 (pc' := 55) (v := 10) rfl (by decide) ?_
  refine ev_iadd dX3_caskComes_55 (pc' := 56) rfl ?_
  refine ev_iconst dX3_caskComes_56 (pc' := 57) (v := 1) rfl (by decide) ?_
  obtain ⟨y5, x_y5, h⟩ := ob_of h
  refine ev_invV dX3_caskComes_57 (pc' := 60) rfl sq_3_259 mt_X1_number rfl (arecv_ob (x := 31) rfl rfl (by decide) kn_31) ⟨_, rfl, Nat.le_of_ble_eq_true rfl, Nat.le_of_ble_eq_true rfl, rfl, rfl⟩ ?_
  refine X1_number_ca kn_31 x_y5 ?_
  refine ev_r1 ?_
  obtain ⟨y6, m7, x_y6, h⟩ := ob2_of h
  refine ev_invV dX3_caskComes_60 (pc' := 63) rfl sq_3_267 mt_X2_addCask rfl (arecv_ob (x := 11) rfl rfl (by decide) kn_11) ⟨_, rfl, Nat.le_of_ble_eq_true rfl, Nat.le_of_ble_eq_true rfl, rfl, rfl⟩ ?_
  refine X2_addCask_ca kn_11 x_y6 ?_
  refine ev_r1 ?_
  obtain ⟨rfl, rfl⟩ := rt2 h
  exact ev_ireturn dX3_caskComes_63 rfl q
def X3_pourComes (_o : Nat) (a1 : Int32) (mem : Mm) : Option (Int32 × Mm) := ob (X1_number 31 (a1 + 1) 1 mem) (fun y1 => ob (X1_number 31 (a1 + 2) 1 mem) (fun y2 => ob (X1_number 31 (a1 + 3) 3 mem) (fun y3 => ob2 (X2_pourOver 11 y1 y2 y3 mem) (fun y4 m5 => some (y4, m5)))))
set_option maxRecDepth 100000 in
set_option maxHeartbeats 8000000 in
theorem X3_pourComes_ca {S : Sc} {d : Nat} {a1 : Int32} {mem : Mm} {rr : Int32} {mr : Mm} {Q : Po}  (h : X3_pourComes 0 a1 mem = some (rr, mr)) (q : Q (some (.int rr)) mr) : Ca S (d + 4) 96 [.ref 0, .int a1] mem Q := by
  unfold X3_pourComes at h
  refine ca_in (by decide) mt_X3_pourComes (Nat.le_of_ble_eq_true rfl) ?_
  show Ev S (d + 3) 3 cX3_pourComes (some .int) 0 [some (.ref 0), some (.int a1)] [] mem Q
  refine ev_aload_n dX3_pourComes_0 (pc' := 1) rfl rfl ?_
  refine ev_getR (y := 11) dX3_pourComes_1 (pc' := 4) rfl fq_3_16 kn_0 rfl ?_
  refine ev_aload_n dX3_pourComes_4 (pc' := 5) rfl rfl ?_
  refine ev_getR (y := 31) dX3_pourComes_5 (pc' := 8) rfl fq_3_29 kn_0 rfl ?_
  refine ev_iload_n dX3_pourComes_8 (pc' := 9) rfl rfl ?_
  refine ev_iconst dX3_pourComes_9 (pc' := 10) (v := 1) rfl (by decide) ?_
  refine ev_iadd dX3_pourComes_10 (pc' := 11) rfl ?_
  refine ev_iconst dX3_pourComes_11 (pc' := 12) (v := 1) rfl (by decide) ?_
  obtain ⟨y1, x_y1, h⟩ := ob_of h
  refine ev_invV dX3_pourComes_12 (pc' := 15) rfl sq_3_259 mt_X1_number rfl (arecv_ob (x := 31) rfl rfl (by decide) kn_31) ⟨_, rfl, Nat.le_of_ble_eq_true rfl, Nat.le_of_ble_eq_true rfl, rfl, rfl⟩ ?_
  refine X1_number_ca kn_31 x_y1 ?_
  refine ev_r1 ?_
  refine ev_aload_n dX3_pourComes_15 (pc' := 16) rfl rfl ?_
  refine ev_getR (y := 31) dX3_pourComes_16 (pc' := 19) rfl fq_3_29 kn_0 rfl ?_
  refine ev_iload_n dX3_pourComes_19 (pc' := 20) rfl rfl ?_
  refine ev_iconst dX3_pourComes_20 (pc' := 21) (v := 2) rfl (by decide) ?_
  refine ev_iadd dX3_pourComes_21 (pc' := 22) rfl ?_
  refine ev_iconst dX3_pourComes_22 (pc' := 23) (v := 1) rfl (by decide) ?_
  obtain ⟨y2, x_y2, h⟩ := ob_of h
  refine ev_invV dX3_pourComes_23 (pc' := 26) rfl sq_3_259 mt_X1_number rfl (arecv_ob (x := 31) rfl rfl (by decide) kn_31) ⟨_, rfl, Nat.le_of_ble_eq_true rfl, Nat.le_of_ble_eq_true rfl, rfl, rfl⟩ ?_
  refine X1_number_ca kn_31 x_y2 ?_
  refine ev_r1 ?_
  refine ev_aload_n dX3_pourComes_26 (pc' := 27) rfl rfl ?_
  refine ev_getR (y := 31) dX3_pourComes_27 (pc' := 30) rfl fq_3_29 kn_0 rfl ?_
  refine ev_iload_n dX3_pourComes_30 (pc' := 31) rfl rfl ?_
  refine ev_iconst dX3_pourComes_31 (pc' := 32) (v := 3) rfl (by decide) ?_
  refine ev_iadd dX3_pourComes_32 (pc' := 33) rfl ?_
  refine ev_iconst dX3_pourComes_33 (pc' := 34) (v := 3) rfl (by decide) ?_
  obtain ⟨y3, x_y3, h⟩ := ob_of h
  refine ev_invV dX3_pourComes_34 (pc' := 37) rfl sq_3_259 mt_X1_number rfl (arecv_ob (x := 31) rfl rfl (by decide) kn_31) ⟨_, rfl, Nat.le_of_ble_eq_true rfl, Nat.le_of_ble_eq_true rfl, rfl, rfl⟩ ?_
  refine X1_number_ca kn_31 x_y3 ?_
  refine ev_r1 ?_
  obtain ⟨y4, m5, x_y4, h⟩ := ob2_of h
  refine ev_invV dX3_pourComes_37 (pc' := 40) rfl sq_3_109 mt_X2_pourOver rfl (arecv_ob (x := 11) rfl rfl (by decide) kn_11) ⟨_, rfl, Nat.le_of_ble_eq_true rfl, Nat.le_of_ble_eq_true rfl, rfl, rfl⟩ ?_
  refine X2_pourOver_ca kn_11 x_y4 ?_
  refine ev_r1 ?_
  obtain ⟨rfl, rfl⟩ := rt2 h
  exact ev_ireturn dX3_pourComes_40 rfl q
def X3_statementFault (_o : Nat) (a1 : Int32) (mem : Mm) : Option (Int32 × Mm) := nm (a1 + 1) (fun v1 => ob (X1_at 31 a1 mem) (fun y2 => if y2 = 99 then (ob2 (X3_caskComes 0 a1 mem) (fun y4 m5 => some (y4, m5))) else (if y2 = 101 then (ob (X1_number 31 v1 1 mem) (fun y7 => nm2 (X2_choose 11 2 y7 mem) (fun y8 m9 => some (y8, m9)))) else (if y2 = 108 then (ob (X1_number 31 v1 1 mem) (fun y11 => nm2 (X2_choose 11 1 y11 mem) (fun y12 m13 => some (y12, m13)))) else (if y2 = 112 then (ob2 (X3_pourComes 0 a1 mem) (fun y15 m16 => some (y15, m16))) else (if y2 = 114 then (ob (X1_number 31 v1 2 mem) (fun y18 => nm2 (X2_choose 11 0 y18 mem) (fun y19 m20 => some (y19, m20)))) else (ob (X1_number 31 v1 2 mem) (fun y21 => ob2 (X2_liveOn 11 y21 mem) (fun y22 m23 => some (y22, m23))))))))))
set_option maxRecDepth 100000 in
set_option maxHeartbeats 8000000 in
theorem X3_statementFault_ca {S : Sc} {d : Nat} {a1 : Int32} {mem : Mm} {rr : Int32} {mr : Mm} {Q : Po}  (h : X3_statementFault 0 a1 mem = some (rr, mr)) (q : Q (some (.int rr)) mr) : Ca S (d + 7) 94 [.ref 0, .int a1] mem Q := by
  unfold X3_statementFault at h
  refine ca_in (by decide) mt_X3_statementFault (Nat.le_of_ble_eq_true rfl) ?_
  show Ev S (d + 6) 3 cX3_statementFault (some .int) 0 [some (.ref 0), some (.int a1), none] [] mem Q
  refine ev_iload_n dX3_statementFault_0 (pc' := 1) rfl rfl ?_
  refine ev_iconst dX3_statementFault_1 (pc' := 2) (v := 1) rfl (by decide) ?_
  refine ev_iadd dX3_statementFault_2 (pc' := 3) rfl ?_
  refine ev_topi (fun v1 e_v1 => ?_)
  replace h := nm_at e_v1 h
  refine ev_istore_n dX3_statementFault_3 (pc' := 4) (ls' := [some (.ref 0), some (.int a1), some (.int v1)]) rfl (Nat.le_of_ble_eq_true rfl) rfl ?_
  refine ev_aload_n dX3_statementFault_4 (pc' := 5) rfl rfl ?_
  refine ev_getR (y := 31) dX3_statementFault_5 (pc' := 8) rfl fq_3_29 kn_0 rfl ?_
  refine ev_iload_n dX3_statementFault_8 (pc' := 9) rfl rfl ?_
  obtain ⟨y2, x_y2, h⟩ := ob_of h
  refine ev_invV dX3_statementFault_9 (pc' := 12) rfl sq_3_251 mt_X1_at rfl (arecv_ob (x := 31) rfl rfl (by decide) kn_31) ⟨_, rfl, Nat.le_of_ble_eq_true rfl, Nat.le_of_ble_eq_true rfl, rfl, rfl⟩ ?_
  refine X1_at_ca kn_31 x_y2 ?_
  refine ev_r1 ?_
  by_cases c3 : y2 = 99
  · replace h := it_t c3 h
    refine ev_lookupIn dX3_statementFault_12 rfl c3 rfl (t := 64) rfl ?_
    refine ev_aload_n dX3_statementFault_64 (pc' := 65) rfl rfl ?_
    refine ev_iload_n dX3_statementFault_65 (pc' := 66) rfl rfl ?_
    obtain ⟨y4, m5, x_y4, h⟩ := ob2_of h
    refine ev_invV dX3_statementFault_66 (pc' := 69) rfl sq_3_256 mt_X3_caskComes rfl (arecv_ob (x := 0) rfl rfl (by decide) kn_0) ⟨_, rfl, Nat.le_of_ble_eq_true rfl, Nat.le_of_ble_eq_true rfl, rfl, rfl⟩ ?_
    refine X3_caskComes_ca  x_y4 ?_
    refine ev_r1 ?_
    obtain ⟨rfl, rfl⟩ := rt2 h
    exact ev_ireturn dX3_statementFault_69 rfl q
  · replace h := it_f c3 h
    by_cases c6 : y2 = 101
    · replace h := it_t c6 h
      refine ev_lookupIn dX3_statementFault_12 rfl c6 rfl (t := 106) rfl ?_
      refine ev_aload_n dX3_statementFault_106 (pc' := 107) rfl rfl ?_
      refine ev_getR (y := 11) dX3_statementFault_107 (pc' := 110) rfl fq_3_16 kn_0 rfl ?_
      refine ev_iconst dX3_statementFault_110 (pc' := 111) (v := 2) rfl (by decide) ?_
      refine ev_aload_n dX3_statementFault_111 (pc' := 112) rfl rfl ?_
      refine ev_getR (y := 31) dX3_statementFault_112 (pc' := 115) rfl fq_3_29 kn_0 rfl ?_
      refine ev_iload_n dX3_statementFault_115 (pc' := 116) rfl rfl ?_
      refine ev_iconst dX3_statementFault_116 (pc' := 117) (v := 1) rfl (by decide) ?_
      obtain ⟨y7, x_y7, h⟩ := ob_of h
      refine ev_invV dX3_statementFault_117 (pc' := 120) rfl sq_3_259 mt_X1_number rfl (arecv_ob (x := 31) rfl rfl (by decide) kn_31) ⟨_, rfl, Nat.le_of_ble_eq_true rfl, Nat.le_of_ble_eq_true rfl, rfl, rfl⟩ ?_
      refine X1_number_ca kn_31 x_y7 ?_
      refine ev_r1 ?_
      obtain ⟨y8, m9, x_y8, h⟩ := nm2_of h
      refine ev_invV dX3_statementFault_120 (pc' := 123) rfl sq_3_103 mt_X2_choose rfl (arecv_ob (x := 11) rfl rfl (by decide) kn_11) ⟨_, rfl, Nat.le_of_ble_eq_true rfl, Nat.le_of_ble_eq_true rfl, rfl, rfl⟩ ?_
      refine X2_choose_ca kn_11 x_y8 ?_
      refine ev_r1 ?_
      obtain ⟨rfl, rfl⟩ := rt2 h
      exact ev_ireturn dX3_statementFault_123 rfl q
    · replace h := it_f c6 h
      by_cases c10 : y2 = 108
      · replace h := it_t c10 h
        refine ev_lookupIn dX3_statementFault_12 rfl c10 rfl (t := 88) rfl ?_
        refine ev_aload_n dX3_statementFault_88 (pc' := 89) rfl rfl ?_
        refine ev_getR (y := 11) dX3_statementFault_89 (pc' := 92) rfl fq_3_16 kn_0 rfl ?_
        refine ev_iconst dX3_statementFault_92 (pc' := 93) (v := 1) rfl (by decide) ?_
        refine ev_aload_n dX3_statementFault_93 (pc' := 94) rfl rfl ?_
        refine ev_getR (y := 31) dX3_statementFault_94 (pc' := 97) rfl fq_3_29 kn_0 rfl ?_
        refine ev_iload_n dX3_statementFault_97 (pc' := 98) rfl rfl ?_
        refine ev_iconst dX3_statementFault_98 (pc' := 99) (v := 1) rfl (by decide) ?_
        obtain ⟨y11, x_y11, h⟩ := ob_of h
        refine ev_invV dX3_statementFault_99 (pc' := 102) rfl sq_3_259 mt_X1_number rfl (arecv_ob (x := 31) rfl rfl (by decide) kn_31) ⟨_, rfl, Nat.le_of_ble_eq_true rfl, Nat.le_of_ble_eq_true rfl, rfl, rfl⟩ ?_
        refine X1_number_ca kn_31 x_y11 ?_
        refine ev_r1 ?_
        obtain ⟨y12, m13, x_y12, h⟩ := nm2_of h
        refine ev_invV dX3_statementFault_102 (pc' := 105) rfl sq_3_103 mt_X2_choose rfl (arecv_ob (x := 11) rfl rfl (by decide) kn_11) ⟨_, rfl, Nat.le_of_ble_eq_true rfl, Nat.le_of_ble_eq_true rfl, rfl, rfl⟩ ?_
        refine X2_choose_ca kn_11 x_y12 ?_
        refine ev_r1 ?_
        obtain ⟨rfl, rfl⟩ := rt2 h
        exact ev_ireturn dX3_statementFault_105 rfl q
      · replace h := it_f c10 h
        by_cases c14 : y2 = 112
        · replace h := it_t c14 h
          refine ev_lookupIn dX3_statementFault_12 rfl c14 rfl (t := 124) rfl ?_
          refine ev_aload_n dX3_statementFault_124 (pc' := 125) rfl rfl ?_
          refine ev_iload_n dX3_statementFault_125 (pc' := 126) rfl rfl ?_
          obtain ⟨y15, m16, x_y15, h⟩ := ob2_of h
          refine ev_invV dX3_statementFault_126 (pc' := 129) rfl sq_3_262 mt_X3_pourComes rfl (arecv_ob (x := 0) rfl rfl (by decide) kn_0) ⟨_, rfl, Nat.le_of_ble_eq_true rfl, Nat.le_of_ble_eq_true rfl, rfl, rfl⟩ ?_
          refine X3_pourComes_ca  x_y15 ?_
          refine ev_r1 ?_
          obtain ⟨rfl, rfl⟩ := rt2 h
          exact ev_ireturn dX3_statementFault_129 rfl q
        · replace h := it_f c14 h
          by_cases c17 : y2 = 114
          · replace h := it_t c17 h
            refine ev_lookupIn dX3_statementFault_12 rfl c17 rfl (t := 70) rfl ?_
            refine ev_aload_n dX3_statementFault_70 (pc' := 71) rfl rfl ?_
            refine ev_getR (y := 11) dX3_statementFault_71 (pc' := 74) rfl fq_3_16 kn_0 rfl ?_
            refine ev_iconst dX3_statementFault_74 (pc' := 75) (v := 0) rfl (by decide) ?_
            refine ev_aload_n dX3_statementFault_75 (pc' := 76) rfl rfl ?_
            refine ev_getR (y := 31) dX3_statementFault_76 (pc' := 79) rfl fq_3_29 kn_0 rfl ?_
            refine ev_iload_n dX3_statementFault_79 (pc' := 80) rfl rfl ?_
            refine ev_iconst dX3_statementFault_80 (pc' := 81) (v := 2) rfl (by decide) ?_
            obtain ⟨y18, x_y18, h⟩ := ob_of h
            refine ev_invV dX3_statementFault_81 (pc' := 84) rfl sq_3_259 mt_X1_number rfl (arecv_ob (x := 31) rfl rfl (by decide) kn_31) ⟨_, rfl, Nat.le_of_ble_eq_true rfl, Nat.le_of_ble_eq_true rfl, rfl, rfl⟩ ?_
            refine X1_number_ca kn_31 x_y18 ?_
            refine ev_r1 ?_
            obtain ⟨y19, m20, x_y19, h⟩ := nm2_of h
            refine ev_invV dX3_statementFault_84 (pc' := 87) rfl sq_3_103 mt_X2_choose rfl (arecv_ob (x := 11) rfl rfl (by decide) kn_11) ⟨_, rfl, Nat.le_of_ble_eq_true rfl, Nat.le_of_ble_eq_true rfl, rfl, rfl⟩ ?_
            refine X2_choose_ca kn_11 x_y19 ?_
            refine ev_r1 ?_
            obtain ⟨rfl, rfl⟩ := rt2 h
            exact ev_ireturn dX3_statementFault_87 rfl q
          · replace h := it_f c17 h
            refine ev_lookupDef dX3_statementFault_12 rfl [99, 101, 108, 112, 114] (by decide) (List.forall_mem_cons.mpr ⟨c3, List.forall_mem_cons.mpr ⟨c6, List.forall_mem_cons.mpr ⟨c10, List.forall_mem_cons.mpr ⟨c14, List.forall_mem_cons.mpr ⟨c17, fun _ h => absurd h List.not_mem_nil⟩⟩⟩⟩⟩) (t := 130) rfl ?_
            refine ev_aload_n dX3_statementFault_130 (pc' := 131) rfl rfl ?_
            refine ev_getR (y := 11) dX3_statementFault_131 (pc' := 134) rfl fq_3_16 kn_0 rfl ?_
            refine ev_aload_n dX3_statementFault_134 (pc' := 135) rfl rfl ?_
            refine ev_getR (y := 31) dX3_statementFault_135 (pc' := 138) rfl fq_3_29 kn_0 rfl ?_
            refine ev_iload_n dX3_statementFault_138 (pc' := 139) rfl rfl ?_
            refine ev_iconst dX3_statementFault_139 (pc' := 140) (v := 2) rfl (by decide) ?_
            obtain ⟨y21, x_y21, h⟩ := ob_of h
            refine ev_invV dX3_statementFault_140 (pc' := 143) rfl sq_3_259 mt_X1_number rfl (arecv_ob (x := 31) rfl rfl (by decide) kn_31) ⟨_, rfl, Nat.le_of_ble_eq_true rfl, Nat.le_of_ble_eq_true rfl, rfl, rfl⟩ ?_
            refine X1_number_ca kn_31 x_y21 ?_
            refine ev_r1 ?_
            obtain ⟨y22, m23, x_y22, h⟩ := ob2_of h
            refine ev_invV dX3_statementFault_143 (pc' := 146) rfl sq_3_112 mt_X2_liveOn rfl (arecv_ob (x := 11) rfl rfl (by decide) kn_11) ⟨_, rfl, Nat.le_of_ble_eq_true rfl, Nat.le_of_ble_eq_true rfl, rfl, rfl⟩ ?_
            refine X2_liveOn_ca kn_11 x_y22 ?_
            refine ev_r1 ?_
            obtain ⟨rfl, rfl⟩ := rt2 h
            exact ev_ireturn dX3_statementFault_146 rfl q
def X3_readLetters_L36   : Nat → Int32 → Int32 → Int32 → Mm → Option (Int32 × Mm)
  | 0, _, _, _, _ => none
  | n + 1, w4, w5, w6, m7 => if (m7 31 1) ≤ w6 then (ob (X2_become 1 11 m7) (fun m9 => some (w4, m9))) else (ob (X1_at 31 w6 m7) (fun y10 => if y10 = 59 then (ob2 (X3_statementFault 0 w5 m7) (fun y12 m13 => if y12 = 0 then (nm (w4 + 1) (fun v15 => nm (w6 + 1) (fun v16 => nm (w6 + 1) (fun v17 => X3_readLetters_L36  n v15 v16 v17 m13)))) else (some (((-2000) - w5), m13)))) else (nm (w6 + 1) (fun v18 => X3_readLetters_L36  n w4 w5 v18 m7))))
def X3_readLetters (_o : Nat) (mem : Mm) : Option (Int32 × Mm) := ob (X1_firstWrong 31 mem) (fun y1 => if y1 < 0 then (ob (X2_become 11 1 mem) (fun m3 => X3_readLetters_L36  LF 0 0 0 m3)) else (some (((-1000) - y1), mem)))
set_option maxRecDepth 100000 in
set_option maxHeartbeats 8000000 in
theorem X3_readLetters_L36_ev {S : Sc} {d : Nat}   {rr : Int32} {mr : Mm} {Q : Po}  (q : Q (some (.int rr)) mr) : ∀ (n : Nat) (w4 : Int32) (w5 : Int32) (w6 : Int32) (m7 : Mm), X3_readLetters_L36  n w4 w5 w6 m7 = some (rr, mr) → Ev S (d + 7) 3 cX3_readLetters (some .int) 36 [some (.ref 0), none, some (.int w4), some (.int w5), some (.int w6)] [] m7 Q := by
  intro n
  induction n with
  | zero => intro w4 w5 w6 m7 h; cases h
  | succ n ih =>
    intro w4 w5 w6 m7 h
    unfold X3_readLetters_L36 at h
    refine ev_iload dX3_readLetters_36 (pc' := 38) rfl rfl ?_
    refine ev_aload_n dX3_readLetters_38 (pc' := 39) rfl rfl ?_
    refine ev_getR (y := 31) dX3_readLetters_39 (pc' := 42) rfl fq_3_29 kn_0 rfl ?_
    refine ev_get dX3_readLetters_42 (pc' := 45) rfl fq_3_240 kn_31 rfl ?_
    refine ev_icmp_ge dX3_readLetters_45 (pc' := 48) rfl (t := 90) rfl (fun c8 => ?_) (fun c8 => ?_)
    · replace h := it_t c8 h
      refine ev_aload_n dX3_readLetters_90 (pc' := 91) rfl rfl ?_
      refine ev_getR (y := 1) dX3_readLetters_91 (pc' := 94) rfl fq_3_10 kn_0 rfl ?_
      refine ev_aload_n dX3_readLetters_94 (pc' := 95) rfl rfl ?_
      refine ev_getR (y := 11) dX3_readLetters_95 (pc' := 98) rfl fq_3_16 kn_0 rfl ?_
      obtain ⟨m9, x_m9, h⟩ := ob_of h
      refine ev_invV dX3_readLetters_98 (pc' := 101) rfl sq_3_151 mt_X2_become rfl (arecv_ob (x := 1) rfl rfl (by decide) kn_1) ⟨_, rfl, Nat.le_of_ble_eq_true rfl, Nat.le_of_ble_eq_true rfl, rfl, rfl⟩ ?_
      refine X2_become_ca kn_1 kn_11 x_m9 ?_
      refine ev_r0 ?_
      refine ev_iload_n dX3_readLetters_101 (pc' := 102) rfl rfl ?_
      obtain ⟨rfl, rfl⟩ := rt2 h
      exact ev_ireturn dX3_readLetters_102 rfl q
    · replace h := it_f c8 h
      refine ev_aload_n dX3_readLetters_48 (pc' := 49) rfl rfl ?_
      refine ev_getR (y := 31) dX3_readLetters_49 (pc' := 52) rfl fq_3_29 kn_0 rfl ?_
      refine ev_iload dX3_readLetters_52 (pc' := 54) rfl rfl ?_
      obtain ⟨y10, x_y10, h⟩ := ob_of h
      refine ev_invV dX3_readLetters_54 (pc' := 57) rfl sq_3_251 mt_X1_at rfl (arecv_ob (x := 31) rfl rfl (by decide) kn_31) ⟨_, rfl, Nat.le_of_ble_eq_true rfl, Nat.le_of_ble_eq_true rfl, rfl, rfl⟩ ?_
      refine X1_at_ca kn_31 x_y10 ?_
      refine ev_r1 ?_
      refine ev_bipush dX3_readLetters_57 (pc' := 59) (v := 59) rfl (by decide) ?_
      refine ev_icmp_ne dX3_readLetters_59 (pc' := 62) rfl (t := 84) rfl (fun c11 => ?_) (fun c11 => ?_)
      · replace h := it_f c11 h
        obtain ⟨v18, e_v18⟩ : ∃ y : Int32, y = (w6 + 1) := ⟨_, rfl⟩
        replace h := nm_at e_v18 h
        refine ev_iinc dX3_readLetters_84 (pc' := 87) (v := v18) (ls' := [some (.ref 0), none, some (.int w4), some (.int w5), some (.int v18)]) rfl rfl (by rw [e_v18]; rfl) (Nat.le_of_ble_eq_true rfl) rfl ?_
        refine ev_goto dX3_readLetters_87 (t := 36) rfl ?_
        exact ev_sub (lsub_c (lsub_c (lsub_c (lsub_c (lsub_c lsub_nil))))) (ih w4 w5 v18 m7 h)
      · replace h := it_t c11 h
        refine ev_aload_n dX3_readLetters_62 (pc' := 63) rfl rfl ?_
        refine ev_iload_n dX3_readLetters_63 (pc' := 64) rfl rfl ?_
        obtain ⟨y12, m13, x_y12, h⟩ := ob2_of h
        refine ev_invV dX3_readLetters_64 (pc' := 67) rfl sq_3_253 mt_X3_statementFault rfl (arecv_ob (x := 0) rfl rfl (by decide) kn_0) ⟨_, rfl, Nat.le_of_ble_eq_true rfl, Nat.le_of_ble_eq_true rfl, rfl, rfl⟩ ?_
        refine X3_statementFault_ca  x_y12 ?_
        refine ev_r1 ?_
        refine ev_if_eq dX3_readLetters_67 (pc' := 70) rfl (t := 76) rfl (fun c14 => ?_) (fun c14 => ?_)
        · replace h := it_t c14 h
          obtain ⟨v15, e_v15⟩ : ∃ y : Int32, y = (w4 + 1) := ⟨_, rfl⟩
          replace h := nm_at e_v15 h
          refine ev_iinc dX3_readLetters_76 (pc' := 79) (v := v15) (ls' := [some (.ref 0), none, some (.int v15), some (.int w5), some (.int w6)]) rfl rfl (by rw [e_v15]; rfl) (Nat.le_of_ble_eq_true rfl) rfl ?_
          refine ev_iload dX3_readLetters_79 (pc' := 81) rfl rfl ?_
          refine ev_iconst dX3_readLetters_81 (pc' := 82) (v := 1) rfl (by decide) ?_
          refine ev_iadd dX3_readLetters_82 (pc' := 83) rfl ?_
          refine ev_topi (fun v16 e_v16 => ?_)
          replace h := nm_at e_v16 h
          refine ev_istore_n dX3_readLetters_83 (pc' := 84) (ls' := [some (.ref 0), none, some (.int v15), some (.int v16), some (.int w6)]) rfl (Nat.le_of_ble_eq_true rfl) rfl ?_
          obtain ⟨v17, e_v17⟩ : ∃ y : Int32, y = (w6 + 1) := ⟨_, rfl⟩
          replace h := nm_at e_v17 h
          refine ev_iinc dX3_readLetters_84 (pc' := 87) (v := v17) (ls' := [some (.ref 0), none, some (.int v15), some (.int v16), some (.int v17)]) rfl rfl (by rw [e_v17]; rfl) (Nat.le_of_ble_eq_true rfl) rfl ?_
          refine ev_goto dX3_readLetters_87 (t := 36) rfl ?_
          exact ev_sub (lsub_c (lsub_c (lsub_c (lsub_c (lsub_c lsub_nil))))) (ih v15 v16 v17 m13 h)
        · replace h := it_f c14 h
          refine ev_sipush dX3_readLetters_70 (pc' := 73) (v := (-2000)) rfl (by decide) ?_
          refine ev_iload_n dX3_readLetters_73 (pc' := 74) rfl rfl ?_
          refine ev_isub dX3_readLetters_74 (pc' := 75) rfl ?_
          obtain ⟨rfl, rfl⟩ := rt2 h
          exact ev_ireturn dX3_readLetters_75 rfl q
set_option maxRecDepth 100000 in
set_option maxHeartbeats 8000000 in
theorem X3_readLetters_ca {S : Sc} {d : Nat}  {mem : Mm} {rr : Int32} {mr : Mm} {Q : Po}  (h : X3_readLetters 0 mem = some (rr, mr)) (q : Q (some (.int rr)) mr) : Ca S (d + 8) 93 [.ref 0] mem Q := by
  unfold X3_readLetters at h
  refine ca_in (by decide) mt_X3_readLetters (Nat.le_of_ble_eq_true rfl) ?_
  show Ev S (d + 7) 3 cX3_readLetters (some .int) 0 [some (.ref 0), none, none, none, none] [] mem Q
  refine ev_aload_n dX3_readLetters_0 (pc' := 1) rfl rfl ?_
  refine ev_getR (y := 31) dX3_readLetters_1 (pc' := 4) rfl fq_3_29 kn_0 rfl ?_
  obtain ⟨y1, x_y1, h⟩ := ob_of h
  refine ev_invV dX3_readLetters_4 (pc' := 7) rfl sq_3_248 mt_X1_firstWrong rfl (arecv_ob (x := 31) rfl rfl (by decide) kn_31) ⟨_, rfl, Nat.le_of_ble_eq_true rfl, Nat.le_of_ble_eq_true rfl, rfl, rfl⟩ ?_
  refine X1_firstWrong_ca kn_31 x_y1 ?_
  refine ev_r1 ?_
  refine ev_istore_n dX3_readLetters_7 (pc' := 8) (ls' := [some (.ref 0), some (.int y1), none, none, none]) rfl (Nat.le_of_ble_eq_true rfl) rfl ?_
  refine ev_iload_n dX3_readLetters_8 (pc' := 9) rfl rfl ?_
  refine ev_if_lt dX3_readLetters_9 (pc' := 12) rfl (t := 18) rfl (fun c2 => ?_) (fun c2 => ?_)
  · replace h := it_t c2 h
    refine ev_aload_n dX3_readLetters_18 (pc' := 19) rfl rfl ?_
    refine ev_getR (y := 11) dX3_readLetters_19 (pc' := 22) rfl fq_3_16 kn_0 rfl ?_
    refine ev_aload_n dX3_readLetters_22 (pc' := 23) rfl rfl ?_
    refine ev_getR (y := 1) dX3_readLetters_23 (pc' := 26) rfl fq_3_10 kn_0 rfl ?_
    obtain ⟨m3, x_m3, h⟩ := ob_of h
    refine ev_invV dX3_readLetters_26 (pc' := 29) rfl sq_3_151 mt_X2_become rfl (arecv_ob (x := 11) rfl rfl (by decide) kn_11) ⟨_, rfl, Nat.le_of_ble_eq_true rfl, Nat.le_of_ble_eq_true rfl, rfl, rfl⟩ ?_
    refine X2_become_ca kn_11 kn_1 x_m3 ?_
    refine ev_r0 ?_
    refine ev_iconst dX3_readLetters_29 (pc' := 30) (v := 0) rfl (by decide) ?_
    refine ev_istore_n dX3_readLetters_30 (pc' := 31) (ls' := [some (.ref 0), some (.int y1), some (.int 0), none, none]) rfl (Nat.le_of_ble_eq_true rfl) rfl ?_
    refine ev_iconst dX3_readLetters_31 (pc' := 32) (v := 0) rfl (by decide) ?_
    refine ev_istore_n dX3_readLetters_32 (pc' := 33) (ls' := [some (.ref 0), some (.int y1), some (.int 0), some (.int 0), none]) rfl (Nat.le_of_ble_eq_true rfl) rfl ?_
    refine ev_iconst dX3_readLetters_33 (pc' := 34) (v := 0) rfl (by decide) ?_
    refine ev_istore dX3_readLetters_34 (pc' := 36) (ls' := [some (.ref 0), some (.int y1), some (.int 0), some (.int 0), some (.int 0)]) rfl (Nat.le_of_ble_eq_true rfl) rfl ?_
    exact ev_sub (lsub_c (lsub_n (lsub_c (lsub_c (lsub_c lsub_nil))))) (X3_readLetters_L36_ev  q LF 0 0 0 m3 h)
  · replace h := it_f c2 h
    refine ev_sipush dX3_readLetters_12 (pc' := 15) (v := (-1000)) rfl (by decide) ?_
    refine ev_iload_n dX3_readLetters_15 (pc' := 16) rfl rfl ?_
    refine ev_isub dX3_readLetters_16 (pc' := 17) rfl ?_
    obtain ⟨rfl, rfl⟩ := rt2 h
    exact ev_ireturn dX3_readLetters_17 rfl q
def X3_town (_o : Nat) (mem : Mm) : Option (Int32 × Mm) := ob2 (X3_readLetters 0 mem) (fun y1 m2 => nm (X1_forget 31 m2) (fun m3 => some (y1, m3)))
set_option maxRecDepth 100000 in
set_option maxHeartbeats 8000000 in
theorem X3_town_ca {S : Sc} {d : Nat}  {mem : Mm} {rr : Int32} {mr : Mm} {Q : Po}  (h : X3_town 0 mem = some (rr, mr)) (q : Q (some (.int rr)) mr) : Ca S (d + 9) 51 [.ref 0] mem Q := by
  unfold X3_town at h
  refine ca_in (by decide) mt_X3_town (Nat.le_of_ble_eq_true rfl) ?_
  show Ev S (d + 8) 3 cX3_town (some .int) 0 [some (.ref 0), none] [] mem Q
  refine ev_aload_n dX3_town_0 (pc' := 1) rfl rfl ?_
  obtain ⟨y1, m2, x_y1, h⟩ := ob2_of h
  refine ev_invV dX3_town_1 (pc' := 4) rfl sq_3_59 mt_X3_readLetters rfl (arecv_ob (x := 0) rfl rfl (by decide) kn_0) ⟨_, rfl, Nat.le_of_ble_eq_true rfl, Nat.le_of_ble_eq_true rfl, rfl, rfl⟩ ?_
  refine X3_readLetters_ca  x_y1 ?_
  refine ev_r1 ?_
  refine ev_istore_n dX3_town_4 (pc' := 5) (ls' := [some (.ref 0), some (.int y1)]) rfl (Nat.le_of_ble_eq_true rfl) rfl ?_
  refine ev_aload_n dX3_town_5 (pc' := 6) rfl rfl ?_
  refine ev_getR (y := 31) dX3_town_6 (pc' := 9) rfl fq_3_29 kn_0 rfl ?_
  refine ev_invV dX3_town_9 (pc' := 12) rfl sq_3_63 mt_X1_forget rfl (arecv_ob (x := 31) rfl rfl (by decide) kn_31) ⟨_, rfl, Nat.le_of_ble_eq_true rfl, Nat.le_of_ble_eq_true rfl, rfl, rfl⟩ ?_
  refine X1_forget_ca kn_31 rfl ?_
  refine ev_r0 ?_
  refine ev_topm (fun m3 e_m3 => ?_)
  replace h := nm_at e_m3 h
  refine ev_iload_n dX3_town_12 (pc' := 13) rfl rfl ?_
  obtain ⟨rfl, rfl⟩ := rt2 h
  exact ev_ireturn dX3_town_13 rfl q
