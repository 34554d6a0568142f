def X3_chanceFault (a1 : Int32) (a2 : Int32) (a3 : Int32) : Int32 := if a1 < 0 then ((-4)) else (if a2 < 0 then ((-4)) else (if 2 ≤ a3 then (if 400 < a1 then ((-6)) else (if 8 < a2 then ((-6)) else (if a3 ≤ 20 then (0) else ((-6))))) else ((-4))))
set_option maxRecDepth 100000 in
set_option maxHeartbeats 8000000 in
theorem X3_chanceFault_ca {S : Sc} {d : Nat} {a1 : Int32} {a2 : Int32} {a3 : Int32} {mem : Mm} {rr : Int32} {Q : Po}  (h : X3_chanceFault a1 a2 a3 = rr) (q : Q (some (.int rr)) mem) : Ca S (d + 1) 90 [.int a1, .int a2, .int a3] mem Q := by
  unfold X3_chanceFault at h
  refine ca_in (by decide) mt_X3_chanceFault (Nat.le_of_ble_eq_true rfl) ?_
  show Ev S (d + 0) 3 cX3_chanceFault (some .int) 0 [some (.int a1), some (.int a2), some (.int a3)] [] mem Q
  refine ev_iload_n dX3_chanceFault_0 (pc' := 1) rfl rfl ?_
  refine ev_if_lt dX3_chanceFault_1 (pc' := 4) rfl (t := 13) rfl (fun c1 => ?_) (fun c1 => ?_)
  · replace h := it_t c1 h
    refine ev_bipush dX3_chanceFault_13 (pc' := 15) (v := (-4)) rfl (by decide) ?_
    obtain rfl := h
    exact ev_ireturn dX3_chanceFault_15 rfl q
  · replace h := it_f c1 h
    refine ev_iload_n dX3_chanceFault_4 (pc' := 5) rfl rfl ?_
    refine ev_if_lt dX3_chanceFault_5 (pc' := 8) rfl (t := 13) rfl (fun c2 => ?_) (fun c2 => ?_)
    · replace h := it_t c2 h
      refine ev_bipush dX3_chanceFault_13 (pc' := 15) (v := (-4)) rfl (by decide) ?_
      obtain rfl := h
      exact ev_ireturn dX3_chanceFault_15 rfl q
    · replace h := it_f c2 h
      refine ev_iload_n dX3_chanceFault_8 (pc' := 9) rfl rfl ?_
      refine ev_iconst dX3_chanceFault_9 (pc' := 10) (v := 2) rfl (by decide) ?_
      refine ev_icmp_ge dX3_chanceFault_10 (pc' := 13) rfl (t := 16) rfl (fun c3 => ?_) (fun c3 => ?_)
      · replace h := it_t c3 h
        refine ev_iload_n dX3_chanceFault_16 (pc' := 17) rfl rfl ?_
        refine ev_sipush dX3_chanceFault_17 (pc' := 20) (v := 400) rfl (by decide) ?_
        refine ev_icmp_gt dX3_chanceFault_20 (pc' := 23) rfl (t := 35) rfl (fun c4 => ?_) (fun c4 => ?_)
        · replace h := it_t c4 h
          refine ev_bipush dX3_chanceFault_35 (pc' := 37) (v := (-6)) rfl (by decide) ?_
          refine ev_goto dX3_chanceFault_37 (t := 41) rfl ?_
          obtain rfl := h
          exact ev_ireturn dX3_chanceFault_41 rfl q
        · replace h := it_f c4 h
          refine ev_iload_n dX3_chanceFault_23 (pc' := 24) rfl rfl ?_
          refine ev_bipush dX3_chanceFault_24 (pc' := 26) (v := 8) rfl (by decide) ?_
          refine ev_icmp_gt dX3_chanceFault_26 (pc' := 29) rfl (t := 35) rfl (fun c5 => ?_) (fun c5 => ?_)
          · replace h := it_t c5 h
            refine ev_bipush dX3_chanceFault_35 (pc' := 37) (v := (-6)) rfl (by decide) ?_
            refine ev_goto dX3_chanceFault_37 (t := 41) rfl ?_
            obtain rfl := h
            exact ev_ireturn dX3_chanceFault_41 rfl q
          · replace h := it_f c5 h
            refine ev_iload_n dX3_chanceFault_29 (pc' := 30) rfl rfl ?_
            refine ev_bipush dX3_chanceFault_30 (pc' := 32) (v := 20) rfl (by decide) ?_
            refine ev_icmp_le dX3_chanceFault_32 (pc' := 35) rfl (t := 40) rfl (fun c6 => ?_) (fun c6 => ?_)
            · replace h := it_t c6 h
              refine ev_iconst dX3_chanceFault_40 (pc' := 41) (v := 0) rfl (by decide) ?_
              obtain rfl := h
              exact ev_ireturn dX3_chanceFault_41 rfl q
            · replace h := it_f c6 h
              refine ev_bipush dX3_chanceFault_35 (pc' := 37) (v := (-6)) rfl (by decide) ?_
              refine ev_goto dX3_chanceFault_37 (t := 41) rfl ?_
              obtain rfl := h
              exact ev_ireturn dX3_chanceFault_41 rfl q
      · replace h := it_f c3 h
        refine ev_bipush dX3_chanceFault_13 (pc' := 15) (v := (-4)) rfl (by decide) ?_
        obtain rfl := h
        exact ev_ireturn dX3_chanceFault_15 rfl q
def X3_amountByLents_L26  (a4 : Int32) (a5 : Int32) (a6 : Nat) : Nat → Int32 → Mm → Option (Int32 × Mm)
  | 0, _, _ => none
  | n + 1, w7, m8 => if a4 ≤ w7 then (some ((m8 a6 2), m8)) else (if ((a5 >>> (w7 &&& 31)) &&& 1) = 1 then (nm (X0_goOn a6 (X2_rateBy 1 1 m8) (((m8 1 6) + 1) + w7) m8) (fun m11 => nm (w7 + 1) (fun v12 => X3_amountByLents_L26 a4 a5 a6 n v12 m11))) else (nm (X0_goOn a6 (X2_rateBy 1 0 m8) (((m8 1 6) + 1) + w7) m8) (fun m13 => nm (w7 + 1) (fun v14 => X3_amountByLents_L26 a4 a5 a6 n v14 m13))))
def X3_amountByLents (_o : Nat) (a1 : Int32) (a2 : Int32) (a3 : Int32) (mem : Mm) : Option (Int32 × Mm) := ob (X2_at 11 a1) (fun y1 => ob (X2_at 1 a1) (fun y2 => nm (X0_become y1 y2 mem) (fun m3 => X3_amountByLents_L26 a2 a3 y1 LF 0 m3)))
set_option maxRecDepth 100000 in
set_option maxHeartbeats 8000000 in
theorem X3_amountByLents_L26_ev {S : Sc} {d : Nat}  {a4 : Int32} {a5 : Int32} {a6 : Nat} {rr : Int32} {mr : Mm} {Q : Po}  (h_a6 : kdp a6 0) (q : Q (some (.int rr)) mr) : ∀ (n : Nat) (w7 : Int32) (m8 : Mm), X3_amountByLents_L26 a4 a5 a6 n w7 m8 = some (rr, mr) → Ev S (d + 3) 3 cX3_amountByLents (some .int) 26 [some (.ref 0), none, some (.int a4), some (.int a5), some (.ref a6), some (.int w7)] [] m8 Q := by
  intro n
  induction n with
  | zero => intro w7 m8 h; cases h
  | succ n ih =>
    intro w7 m8 h
    unfold X3_amountByLents_L26 at h
    refine ev_iload dX3_amountByLents_26 (pc' := 28) rfl rfl ?_
    refine ev_iload_n dX3_amountByLents_28 (pc' := 29) rfl rfl ?_
    refine ev_icmp_ge dX3_amountByLents_29 (pc' := 32) rfl (t := 77) rfl (fun c9 => ?_) (fun c9 => ?_)
    · replace h := it_t c9 h
      refine ev_aload dX3_amountByLents_77 (pc' := 79) rfl rfl ?_
      refine ev_get dX3_amountByLents_79 (pc' := 82) rfl fq_3_88 h_a6 rfl ?_
      obtain ⟨rfl, rfl⟩ := rt2 h
      exact ev_ireturn dX3_amountByLents_82 rfl q
    · replace h := it_f c9 h
      refine ev_aload dX3_amountByLents_32 (pc' := 34) rfl rfl ?_
      refine ev_aload_n dX3_amountByLents_34 (pc' := 35) rfl rfl ?_
      refine ev_getR (y := 1) dX3_amountByLents_35 (pc' := 38) rfl fq_3_10 kn_0 rfl ?_
      refine ev_iload_n dX3_amountByLents_38 (pc' := 39) rfl rfl ?_
      refine ev_iload dX3_amountByLents_39 (pc' := 41) rfl rfl ?_
      refine ev_ishr dX3_amountByLents_41 (pc' := 42) rfl ?_
      refine ev_iconst dX3_amountByLents_42 (pc' := 43) (v := 1) rfl (by decide) ?_
      refine ev_iand dX3_amountByLents_43 (pc' := 44) rfl ?_
      refine ev_iconst dX3_amountByLents_44 (pc' := 45) (v := 1) rfl (by decide) ?_
      refine ev_icmp_ne dX3_amountByLents_45 (pc' := 48) rfl (t := 52) rfl (fun c10 => ?_) (fun c10 => ?_)
      · replace h := it_f c10 h
        refine ev_iconst dX3_amountByLents_52 (pc' := 53) (v := 0) rfl (by decide) ?_
        refine ev_invV dX3_amountByLents_53 (pc' := 56) rfl sq_3_278 mt_X2_rateBy rfl (arecv_ob (x := 1) rfl rfl (by decide) kn_1) ⟨_, rfl, Nat.le_of_ble_eq_true rfl, Nat.le_of_ble_eq_true rfl, rfl, rfl⟩ ?_
        refine X2_rateBy_ca kn_1 rfl ?_
        refine ev_r1 ?_
        refine ev_aload_n dX3_amountByLents_56 (pc' := 57) rfl rfl ?_
        refine ev_getR (y := 1) dX3_amountByLents_57 (pc' := 60) rfl fq_3_10 kn_0 rfl ?_
        refine ev_get dX3_amountByLents_60 (pc' := 63) rfl fq_3_115 kn_1 rfl ?_
        refine ev_iconst dX3_amountByLents_63 (pc' := 64) (v := 1) rfl (by decide) ?_
        refine ev_iadd dX3_amountByLents_64 (pc' := 65) rfl ?_
        refine ev_iload dX3_amountByLents_65 (pc' := 67) rfl rfl ?_
        refine ev_iadd dX3_amountByLents_67 (pc' := 68) rfl ?_
        refine ev_invV dX3_amountByLents_68 (pc' := 71) rfl sq_3_282 mt_X0_goOn rfl (arecv_ob (x := a6) rfl rfl (by decide) h_a6) ⟨_, rfl, Nat.le_of_ble_eq_true rfl, Nat.le_of_ble_eq_true rfl, rfl, rfl⟩ ?_
        refine X0_goOn_ca h_a6 rfl ?_
        refine ev_r0 ?_
        refine ev_topm (fun m13 e_m13 => ?_)
        replace h := nm_at e_m13 h
        obtain ⟨v14, e_v14⟩ : ∃ y : Int32, y = (w7 + 1) := ⟨_, rfl⟩
        replace h := nm_at e_v14 h
        refine ev_iinc dX3_amountByLents_71 (pc' := 74) (v := v14) (ls' := [some (.ref 0), none, some (.int a4), some (.int a5), some (.ref a6), some (.int v14)]) rfl rfl (by rw [e_v14]; rfl) (Nat.le_of_ble_eq_true rfl) rfl ?_
        refine ev_goto dX3_amountByLents_74 (t := 26) rfl ?_
        exact ev_sub (lsub_c (lsub_c (lsub_c (lsub_c (lsub_c (lsub_c lsub_nil)))))) (ih v14 m13 h)
      · replace h := it_t c10 h
        refine ev_iconst dX3_amountByLents_48 (pc' := 49) (v := 1) rfl (by decide) ?_
        refine ev_goto dX3_amountByLents_49 (t := 53) rfl ?_
        refine ev_invV dX3_amountByLents_53 (pc' := 56) rfl sq_3_278 mt_X2_rateBy rfl (arecv_ob (x := 1) rfl rfl (by decide) kn_1) ⟨_, rfl, Nat.le_of_ble_eq_true rfl, Nat.le_of_ble_eq_true rfl, rfl, rfl⟩ ?_
        refine X2_rateBy_ca kn_1 rfl ?_
        refine ev_r1 ?_
        refine ev_aload_n dX3_amountByLents_56 (pc' := 57) rfl rfl ?_
        refine ev_getR (y := 1) dX3_amountByLents_57 (pc' := 60) rfl fq_3_10 kn_0 rfl ?_
        refine ev_get dX3_amountByLents_60 (pc' := 63) rfl fq_3_115 kn_1 rfl ?_
        refine ev_iconst dX3_amountByLents_63 (pc' := 64) (v := 1) rfl (by decide) ?_
        refine ev_iadd dX3_amountByLents_64 (pc' := 65) rfl ?_
        refine ev_iload dX3_amountByLents_65 (pc' := 67) rfl rfl ?_
        refine ev_iadd dX3_amountByLents_67 (pc' := 68) rfl ?_
        refine ev_invV dX3_amountByLents_68 (pc' := 71) rfl sq_3_282 mt_X0_goOn rfl (arecv_ob (x := a6) rfl rfl (by decide) h_a6) ⟨_, rfl, Nat.le_of_ble_eq_true rfl, Nat.le_of_ble_eq_true rfl, rfl, rfl⟩ ?_
        refine X0_goOn_ca h_a6 rfl ?_
        refine ev_r0 ?_
        refine ev_topm (fun m11 e_m11 => ?_)
        replace h := nm_at e_m11 h
        obtain ⟨v12, e_v12⟩ : ∃ y : Int32, y = (w7 + 1) := ⟨_, rfl⟩
        replace h := nm_at e_v12 h
        refine ev_iinc dX3_amountByLents_71 (pc' := 74) (v := v12) (ls' := [some (.ref 0), none, some (.int a4), some (.int a5), some (.ref a6), some (.int v12)]) rfl rfl (by rw [e_v12]; rfl) (Nat.le_of_ble_eq_true rfl) rfl ?_
        refine ev_goto dX3_amountByLents_74 (t := 26) rfl ?_
        exact ev_sub (lsub_c (lsub_c (lsub_c (lsub_c (lsub_c (lsub_c lsub_nil)))))) (ih v12 m11 h)
set_option maxRecDepth 100000 in
set_option maxHeartbeats 8000000 in
theorem X3_amountByLents_ca {S : Sc} {d : Nat} {a1 : Int32} {a2 : Int32} {a3 : Int32} {mem : Mm} {rr : Int32} {mr : Mm} {Q : Po}  (h : X3_amountByLents 0 a1 a2 a3 mem = some (rr, mr)) (q : Q (some (.int rr)) mr) : Ca S (d + 4) 104 [.ref 0, .int a1, .int a2, .int a3] mem Q := by
  unfold X3_amountByLents at h
  refine ca_in (by decide) mt_X3_amountByLents (Nat.le_of_ble_eq_true rfl) ?_
  show Ev S (d + 3) 3 cX3_amountByLents (some .int) 0 [some (.ref 0), some (.int a1), some (.int a2), some (.int a3), none, none] [] mem Q
  refine ev_aload_n dX3_amountByLents_0 (pc' := 1) rfl rfl ?_
  refine ev_getR (y := 11) dX3_amountByLents_1 (pc' := 4) rfl fq_3_16 kn_0 rfl ?_
  refine ev_iload_n dX3_amountByLents_4 (pc' := 5) rfl rfl ?_
  obtain ⟨y1, x_y1, h⟩ := ob_of h
  refine ev_invV dX3_amountByLents_5 (pc' := 8) rfl sq_3_76 mt_X2_at rfl (arecv_ob (x := 11) rfl rfl (by decide) kn_11) ⟨_, rfl, Nat.le_of_ble_eq_true rfl, Nat.le_of_ble_eq_true rfl, rfl, rfl⟩ ?_
  refine X2_at_ca kn_11 x_y1 ?_
  refine ev_r1 ?_
  refine ev_astore dX3_amountByLents_8 (pc' := 10) (ls' := [some (.ref 0), some (.int a1), some (.int a2), some (.int a3), some (.ref y1), none]) rfl (Nat.le_of_ble_eq_true rfl) rfl ?_
  refine ev_aload dX3_amountByLents_10 (pc' := 12) rfl rfl ?_
  refine ev_aload_n dX3_amountByLents_12 (pc' := 13) rfl rfl ?_
  refine ev_getR (y := 1) dX3_amountByLents_13 (pc' := 16) rfl fq_3_10 kn_0 rfl ?_
  refine ev_iload_n dX3_amountByLents_16 (pc' := 17) rfl rfl ?_
  obtain ⟨y2, x_y2, h⟩ := ob_of h
  refine ev_invV dX3_amountByLents_17 (pc' := 20) rfl sq_3_76 mt_X2_at rfl (arecv_ob (x := 1) rfl rfl (by decide) kn_1) ⟨_, rfl, Nat.le_of_ble_eq_true rfl, Nat.le_of_ble_eq_true rfl, rfl, rfl⟩ ?_
  refine X2_at_ca kn_1 x_y2 ?_
  refine ev_r1 ?_
  refine ev_invV dX3_amountByLents_20 (pc' := 23) rfl sq_3_275 mt_X0_become rfl (arecv_ob (x := y1) rfl rfl (by decide) (X2_at_kd kn_11 x_y1)) ⟨_, rfl, Nat.le_of_ble_eq_true rfl, Nat.le_of_ble_eq_true rfl, rfl, rfl⟩ ?_
  refine X0_become_ca (X2_at_kd kn_11 x_y1) (X2_at_kd kn_1 x_y2) rfl ?_
  refine ev_r0 ?_
  refine ev_topm (fun m3 e_m3 => ?_)
  replace h := nm_at e_m3 h
  refine ev_iconst dX3_amountByLents_23 (pc' := 24) (v := 0) rfl (by decide) ?_
  refine ev_istore dX3_amountByLents_24 (pc' := 26) (ls' := [some (.ref 0), some (.int a1), some (.int a2), some (.int a3), some (.ref y1), some (.int 0)]) rfl (Nat.le_of_ble_eq_true rfl) rfl ?_
  exact ev_sub (lsub_c (lsub_n (lsub_c (lsub_c (lsub_c (lsub_c lsub_nil)))))) (X3_amountByLents_L26_ev (X2_at_kd kn_11 x_y1) q LF 0 m3 h)
def X3_power_L5  (a1 : Int64) (a2 : Int32) : Nat → Int64 → Int32 → Option Int64
  | 0, _, _ => none
  | n + 1, w3, w4 => if a2 ≤ w4 then (some w3) else (nm (w3 * a1) (fun v7 => nm (w4 + 1) (fun v8 => X3_power_L5 a1 a2 n v7 v8)))
def X3_power (a1 : Int64) (a2 : Int32) : Option Int64 := X3_power_L5 a1 a2 LF 1 0
set_option maxRecDepth 100000 in
set_option maxHeartbeats 8000000 in
theorem X3_power_L5_ev {S : Sc} {d : Nat}  {a1 : Int64} {a2 : Int32} {m5 : Mm} {rr : Int64} {Q : Po}  (q : Q (some (.long rr)) m5) : ∀ (n : Nat) (w3 : Int64) (w4 : Int32), X3_power_L5 a1 a2 n w3 w4 = some rr → Ev S (d + 0) 3 cX3_power (some .long) 5 [some (.long a1), none, some (.int a2), some (.long w3), none, some (.int w4)] [] m5 Q := by
  intro n
  induction n with
  | zero => intro w3 w4 h; cases h
  | succ n ih =>
    intro w3 w4 h
    unfold X3_power_L5 at h
    refine ev_iload dX3_power_5 (pc' := 7) rfl rfl ?_
    refine ev_iload_n dX3_power_7 (pc' := 8) rfl rfl ?_
    refine ev_icmp_ge dX3_power_8 (pc' := 11) rfl (t := 21) rfl (fun c6 => ?_) (fun c6 => ?_)
    · replace h := it_t c6 h
      refine ev_lload_n dX3_power_21 (pc' := 22) rfl rfl ?_
      obtain rfl := rt1 h
      exact ev_lreturn dX3_power_22 rfl q
    · replace h := it_f c6 h
      refine ev_lload_n dX3_power_11 (pc' := 12) rfl rfl ?_
      refine ev_lload_n dX3_power_12 (pc' := 13) rfl rfl ?_
      refine ev_lmul dX3_power_13 (pc' := 14) rfl ?_
      refine ev_topl (fun v7 e_v7 => ?_)
      replace h := nm_at e_v7 h
      refine ev_lstore_n dX3_power_14 (pc' := 15) (ls' := [some (.long a1), none, some (.int a2), some (.long v7), none, some (.int w4)]) rfl (Nat.le_of_ble_eq_true rfl) rfl ?_
      obtain ⟨v8, e_v8⟩ : ∃ y : Int32, y = (w4 + 1) := ⟨_, rfl⟩
      replace h := nm_at e_v8 h
      refine ev_iinc dX3_power_15 (pc' := 18) (v := v8) (ls' := [some (.long a1), none, some (.int a2), some (.long v7), none, some (.int v8)]) rfl rfl (by rw [e_v8]; rfl) (Nat.le_of_ble_eq_true rfl) rfl ?_
      refine ev_goto dX3_power_18 (t := 5) rfl ?_
      exact ev_sub (lsub_c (lsub_c (lsub_c (lsub_c (lsub_c (lsub_c lsub_nil)))))) (ih v7 v8 h)
set_option maxRecDepth 100000 in
set_option maxHeartbeats 8000000 in
theorem X3_power_ca {S : Sc} {d : Nat} {a1 : Int64} {a2 : Int32} {mem : Mm} {rr : Int64} {Q : Po}  (h : X3_power a1 a2 = some rr) (q : Q (some (.long rr)) mem) : Ca S (d + 1) 107 [.long a1, .int a2] mem Q := by
  unfold X3_power at h
  refine ca_in (by decide) mt_X3_power (Nat.le_of_ble_eq_true rfl) ?_
  show Ev S (d + 0) 3 cX3_power (some .long) 0 [some (.long a1), none, some (.int a2), none, none, none] [] mem Q
  refine ev_lconst dX3_power_0 (pc' := 1) (v := 1) rfl (by decide) ?_
  refine ev_lstore_n dX3_power_1 (pc' := 2) (ls' := [some (.long a1), none, some (.int a2), some (.long 1), none, none]) rfl (Nat.le_of_ble_eq_true rfl) rfl ?_
  refine ev_iconst dX3_power_2 (pc' := 3) (v := 0) rfl (by decide) ?_
  refine ev_istore dX3_power_3 (pc' := 5) (ls' := [some (.long a1), none, some (.int a2), some (.long 1), none, some (.int 0)]) rfl (Nat.le_of_ble_eq_true rfl) rfl ?_
  exact ev_sub (lsub_c (lsub_c (lsub_c (lsub_c (lsub_c (lsub_c lsub_nil)))))) (X3_power_L5_ev  q LF 1 0 h)
def X3_chance_L44  (a3 : Int32) (a4 : Int32) (a5 : Int32) (a6 : Int32) (a7 : Int32) : Nat → Int64 → Int32 → Mm → Option (Int64 × Mm)
  | 0, _, _, _ => none
  | n + 1, w8, w9, m10 => if (1 <<< (a5 &&& 31)) ≤ w9 then (ob (X3_power (a6).toInt64 a5) (fun y12 => ob (X3_partOf w8 y12 a7) (fun y13 => some (y13, m10)))) else (ob2 (X3_amountByLents 0 a3 a5 w9 m10) (fun y14 m15 => if y14 < a4 then (nm (w9 + 1) (fun v17 => X3_chance_L44 a3 a4 a5 a6 a7 n w8 v17 m15)) else (ob (X3_power ((a6 - 1)).toInt64 (a5 - (J6_bitCount_0f7a4 w9))) (fun y18 => nm (w8 + y18) (fun v19 => nm (w9 + 1) (fun v20 => X3_chance_L44 a3 a4 a5 a6 a7 n v19 v20 m15))))))
def X3_chance (_o : Nat) (a1 : Int32) (a2 : Int32) (a3 : Int32) (a4 : Int32) (a5 : Int32) (mem : Mm) : Option (Int64 × Mm) := nm (X3_firstOf (X2_caskFault 1 a1 mem) (X3_chanceFault a2 a3 a4) (X3_whatFault a5 1)) (fun v1 => if v1 = 0 then (X3_chance_L44 a1 a2 a3 a4 a5 LF 0 0 mem) else (ob2 (X3_refuseLong 0 v1 mem) (fun y21 m22 => some (y21, m22))))
set_option maxRecDepth 100000 in
set_option maxHeartbeats 8000000 in
theorem X3_chance_L44_ev {S : Sc} {d : Nat}  {a3 : Int32} {a4 : Int32} {a5 : Int32} {a6 : Int32} {a7 : Int32} {rr : Int64} {mr : Mm} {Q : Po}  (q : Q (some (.long rr)) mr) : ∀ (n : Nat) (w8 : Int64) (w9 : Int32) (m10 : Mm), X3_chance_L44 a3 a4 a5 a6 a7 n w8 w9 m10 = some (rr, mr) → Ev S (d + 4) 3 cX3_chance (some .long) 44 [some (.ref 0), some (.int a3), some (.int a4), some (.int a5), some (.int a6), some (.int a7), none, some (.long w8), none, some (.int w9)] [] m10 Q := by
  intro n
  induction n with
  | zero => intro w8 w9 m10 h; cases h
  | succ n ih =>
    intro w8 w9 m10 h
    unfold X3_chance_L44 at h
    refine ev_iload dX3_chance_44 (pc' := 46) rfl rfl ?_
    refine ev_iconst dX3_chance_46 (pc' := 47) (v := 1) rfl (by decide) ?_
    refine ev_iload_n dX3_chance_47 (pc' := 48) rfl rfl ?_
    refine ev_ishl dX3_chance_48 (pc' := 49) rfl ?_
    refine ev_icmp_ge dX3_chance_49 (pc' := 52) rfl (t := 90) rfl (fun c11 => ?_) (fun c11 => ?_)
    · replace h := it_t c11 h
      refine ev_lload dX3_chance_90 (pc' := 92) rfl rfl ?_
      refine ev_iload dX3_chance_92 (pc' := 94) rfl rfl ?_
      refine ev_i2l dX3_chance_94 (pc' := 95) rfl ?_
      refine ev_iload_n dX3_chance_95 (pc' := 96) rfl rfl ?_
      obtain ⟨y12, x_y12, h⟩ := ob_of h
      refine ev_invS dX3_chance_96 (pc' := 99) rfl sq_3_221 mt_X3_power rfl ⟨_, rfl, Nat.le_of_ble_eq_true rfl, Nat.le_of_ble_eq_true rfl, rfl, rfl⟩ ?_
      refine X3_power_ca  x_y12 ?_
      refine ev_r1 ?_
      refine ev_iload dX3_chance_99 (pc' := 101) rfl rfl ?_
      obtain ⟨y13, x_y13, h⟩ := ob_of h
      refine ev_invS dX3_chance_101 (pc' := 104) rfl sq_3_141 mt_X3_partOf rfl ⟨_, rfl, Nat.le_of_ble_eq_true rfl, Nat.le_of_ble_eq_true rfl, rfl, rfl⟩ ?_
      refine X3_partOf_ca  x_y13 ?_
      refine ev_r1 ?_
      obtain ⟨rfl, rfl⟩ := rt2 h
      exact ev_lreturn dX3_chance_104 rfl q
    · replace h := it_f c11 h
      refine ev_aload_n dX3_chance_52 (pc' := 53) rfl rfl ?_
      refine ev_iload_n dX3_chance_53 (pc' := 54) rfl rfl ?_
      refine ev_iload_n dX3_chance_54 (pc' := 55) rfl rfl ?_
      refine ev_iload dX3_chance_55 (pc' := 57) rfl rfl ?_
      obtain ⟨y14, m15, x_y14, h⟩ := ob2_of h
      refine ev_invV dX3_chance_57 (pc' := 60) rfl sq_3_213 mt_X3_amountByLents rfl (arecv_ob (x := 0) rfl rfl (by decide) kn_0) ⟨_, rfl, Nat.le_of_ble_eq_true rfl, Nat.le_of_ble_eq_true rfl, rfl, rfl⟩ ?_
      refine X3_amountByLents_ca  x_y14 ?_
      refine ev_r1 ?_
      refine ev_iload_n dX3_chance_60 (pc' := 61) rfl rfl ?_
      refine ev_icmp_lt dX3_chance_61 (pc' := 64) rfl (t := 84) rfl (fun c16 => ?_) (fun c16 => ?_)
      · replace h := it_t c16 h
        obtain ⟨v17, e_v17⟩ : ∃ y : Int32, y = (w9 + 1) := ⟨_, rfl⟩
        replace h := nm_at e_v17 h
        refine ev_iinc dX3_chance_84 (pc' := 87) (v := v17) (ls' := [some (.ref 0), some (.int a3), some (.int a4), some (.int a5), some (.int a6), some (.int a7), none, some (.long w8), none, some (.int v17)]) rfl rfl (by rw [e_v17]; rfl) (Nat.le_of_ble_eq_true rfl) rfl ?_
        refine ev_goto dX3_chance_87 (t := 44) rfl ?_
        exact ev_sub (lsub_c (lsub_c (lsub_c (lsub_c (lsub_c (lsub_c (lsub_c (lsub_c (lsub_c (lsub_c lsub_nil)))))))))) (ih w8 v17 m15 h)
      · replace h := it_f c16 h
        refine ev_lload dX3_chance_64 (pc' := 66) rfl rfl ?_
        refine ev_iload dX3_chance_66 (pc' := 68) rfl rfl ?_
        refine ev_iconst dX3_chance_68 (pc' := 69) (v := 1) rfl (by decide) ?_
        refine ev_isub dX3_chance_69 (pc' := 70) rfl ?_
        refine ev_i2l dX3_chance_70 (pc' := 71) rfl ?_
        refine ev_iload_n dX3_chance_71 (pc' := 72) rfl rfl ?_
        refine ev_iload dX3_chance_72 (pc' := 74) rfl rfl ?_
        refine ev_invS dX3_chance_74 (pc' := 77) rfl sq_3_216 mt_J6_bitCount_0f7a4 rfl ⟨_, rfl, Nat.le_of_ble_eq_true rfl, Nat.le_of_ble_eq_true rfl, rfl, rfl⟩ ?_
        refine J6_bitCount_0f7a4_ca  rfl ?_
        refine ev_r1 ?_
        refine ev_isub dX3_chance_77 (pc' := 78) rfl ?_
        obtain ⟨y18, x_y18, h⟩ := ob_of h
        refine ev_invS dX3_chance_78 (pc' := 81) rfl sq_3_221 mt_X3_power rfl ⟨_, rfl, Nat.le_of_ble_eq_true rfl, Nat.le_of_ble_eq_true rfl, rfl, rfl⟩ ?_
        refine X3_power_ca  x_y18 ?_
        refine ev_r1 ?_
        refine ev_ladd dX3_chance_81 (pc' := 82) rfl ?_
        refine ev_topl (fun v19 e_v19 => ?_)
        replace h := nm_at e_v19 h
        refine ev_lstore dX3_chance_82 (pc' := 84) (ls' := [some (.ref 0), some (.int a3), some (.int a4), some (.int a5), some (.int a6), some (.int a7), none, some (.long v19), none, some (.int w9)]) rfl (Nat.le_of_ble_eq_true rfl) rfl ?_
        obtain ⟨v20, e_v20⟩ : ∃ y : Int32, y = (w9 + 1) := ⟨_, rfl⟩
        replace h := nm_at e_v20 h
        refine ev_iinc dX3_chance_84 (pc' := 87) (v := v20) (ls' := [some (.ref 0), some (.int a3), some (.int a4), some (.int a5), some (.int a6), some (.int a7), none, some (.long v19), none, some (.int v20)]) rfl rfl (by rw [e_v20]; rfl) (Nat.le_of_ble_eq_true rfl) rfl ?_
        refine ev_goto dX3_chance_87 (t := 44) rfl ?_
        exact ev_sub (lsub_c (lsub_c (lsub_c (lsub_c (lsub_c (lsub_c (lsub_c (lsub_c (lsub_c (lsub_c lsub_nil)))))))))) (ih v19 v20 m15 h)
set_option maxRecDepth 100000 in
set_option maxHeartbeats 8000000 in
theorem X3_chance_ca {S : Sc} {d : Nat} {a1 : Int32} {a2 : Int32} {a3 : Int32} {a4 : Int32} {a5 : Int32} {mem : Mm} {rr : Int64} {mr : Mm} {Q : Po}  (h : X3_chance 0 a1 a2 a3 a4 a5 mem = some (rr, mr)) (q : Q (some (.long rr)) mr) : Ca S (d + 5) 77 [.ref 0, .int a1, .int a2, .int a3, .int a4, .int a5] mem Q := by
  unfold X3_chance at h
  refine ca_in (by decide) mt_X3_chance (Nat.le_of_ble_eq_true rfl) ?_
  show Ev S (d + 4) 3 cX3_chance (some .long) 0 [some (.ref 0), some (.int a1), some (.int a2), some (.int a3), some (.int a4), some (.int a5), none, none, none, none] [] mem Q
  refine ev_aload_n dX3_chance_0 (pc' := 1) rfl rfl ?_
  refine ev_getR (y := 1) dX3_chance_1 (pc' := 4) rfl fq_3_10 kn_0 rfl ?_
  refine ev_iload_n dX3_chance_4 (pc' := 5) rfl rfl ?_
  refine ev_invV dX3_chance_5 (pc' := 8) rfl sq_3_66 mt_X2_caskFault rfl (arecv_ob (x := 1) rfl rfl (by decide) kn_1) ⟨_, rfl, Nat.le_of_ble_eq_true rfl, Nat.le_of_ble_eq_true rfl, rfl, rfl⟩ ?_
  refine X2_caskFault_ca kn_1 rfl ?_
  refine ev_r1 ?_
  refine ev_iload_n dX3_chance_8 (pc' := 9) rfl rfl ?_
  refine ev_iload_n dX3_chance_9 (pc' := 10) rfl rfl ?_
  refine ev_iload dX3_chance_10 (pc' := 12) rfl rfl ?_
  refine ev_invS dX3_chance_12 (pc' := 15) rfl sq_3_210 mt_X3_chanceFault rfl ⟨_, rfl, Nat.le_of_ble_eq_true rfl, Nat.le_of_ble_eq_true rfl, rfl, rfl⟩ ?_
  refine X3_chanceFault_ca  rfl ?_
  refine ev_r1 ?_
  refine ev_iload dX3_chance_15 (pc' := 17) rfl rfl ?_
  refine ev_iconst dX3_chance_17 (pc' := 18) (v := 1) rfl (by decide) ?_
  refine ev_invS dX3_chance_18 (pc' := 21) rfl sq_3_69 mt_X3_whatFault rfl ⟨_, rfl, Nat.le_of_ble_eq_true rfl, Nat.le_of_ble_eq_true rfl, rfl, rfl⟩ ?_
  refine X3_whatFault_ca  rfl ?_
  refine ev_r1 ?_
  refine ev_invS dX3_chance_21 (pc' := 24) rfl sq_3_73 mt_X3_firstOf rfl ⟨_, rfl, Nat.le_of_ble_eq_true rfl, Nat.le_of_ble_eq_true rfl, rfl, rfl⟩ ?_
  refine X3_firstOf_ca  rfl ?_
  refine ev_r1 ?_
  refine ev_topi (fun v1 e_v1 => ?_)
  replace h := nm_at e_v1 h
  refine ev_istore dX3_chance_24 (pc' := 26) (ls' := [some (.ref 0), some (.int a1), some (.int a2), some (.int a3), some (.int a4), some (.int a5), some (.int v1), none, none, none]) rfl (Nat.le_of_ble_eq_true rfl) rfl ?_
  refine ev_iload dX3_chance_26 (pc' := 28) rfl rfl ?_
  refine ev_if_eq dX3_chance_28 (pc' := 31) rfl (t := 38) rfl (fun c2 => ?_) (fun c2 => ?_)
  · replace h := it_t c2 h
    refine ev_lconst dX3_chance_38 (pc' := 39) (v := 0) rfl (by decide) ?_
    refine ev_lstore dX3_chance_39 (pc' := 41) (ls' := [some (.ref 0), some (.int a1), some (.int a2), some (.int a3), some (.int a4), some (.int a5), some (.int v1), some (.long 0), none, none]) rfl (Nat.le_of_ble_eq_true rfl) rfl ?_
    refine ev_iconst dX3_chance_41 (pc' := 42) (v := 0) rfl (by decide) ?_
    refine ev_istore dX3_chance_42 (pc' := 44) (ls' := [some (.ref 0), some (.int a1), some (.int a2), some (.int a3), some (.int a4), some (.int a5), some (.int v1), some (.long 0), none, some (.int 0)]) rfl (Nat.le_of_ble_eq_true rfl) rfl ?_
    exact ev_sub (lsub_c (lsub_c (lsub_c (lsub_c (lsub_c (lsub_c (lsub_n (lsub_c (lsub_c (lsub_c lsub_nil)))))))))) (X3_chance_L44_ev  q LF 0 0 mem h)
  · replace h := it_f c2 h
    refine ev_aload_n dX3_chance_31 (pc' := 32) rfl rfl ?_
    refine ev_iload dX3_chance_32 (pc' := 34) rfl rfl ?_
    obtain ⟨y21, m22, x_y21, h⟩ := ob2_of h
    refine ev_invV dX3_chance_34 (pc' := 37) rfl sq_3_137 mt_X3_refuseLong rfl (arecv_ob (x := 0) rfl rfl (by decide) kn_0) ⟨_, rfl, Nat.le_of_ble_eq_true rfl, Nat.le_of_ble_eq_true rfl, rfl, rfl⟩ ?_
    refine X3_refuseLong_ca  x_y21 ?_
    refine ev_r1 ?_
    obtain ⟨rfl, rfl⟩ := rt2 h
    exact ev_lreturn dX3_chance_37 rfl q
def X3_nextSeed (a1 : Int32) : Int32 := ((a1 * 1664525) + 1013904223)
set_option maxRecDepth 100000 in
set_option maxHeartbeats 8000000 in
theorem X3_nextSeed_ca {S : Sc} {d : Nat} {a1 : Int32} {mem : Mm} {rr : Int32} {Q : Po}  (h : X3_nextSeed a1 = rr) (q : Q (some (.int rr)) mem) : Ca S (d + 1) 105 [.int a1] mem Q := by
  unfold X3_nextSeed at h
  refine ca_in (by decide) mt_X3_nextSeed (Nat.le_of_ble_eq_true rfl) ?_
  show Ev S (d + 0) 3 cX3_nextSeed (some .int) 0 [some (.int a1)] [] mem Q
  refine ev_iload_n dX3_nextSeed_0 (pc' := 1) rfl rfl ?_
  refine ev_ldc_w dX3_nextSeed_1 (pc' := 4) rfl iq_3_285 ?_
  refine ev_imul dX3_nextSeed_4 (pc' := 5) rfl ?_
  refine ev_ldc_w dX3_nextSeed_5 (pc' := 8) rfl iq_3_286 ?_
  refine ev_iadd dX3_nextSeed_8 (pc' := 9) rfl ?_
  obtain rfl := h
  exact ev_ireturn dX3_nextSeed_9 rfl q
def X3_drawn (a1 : Int32) (a2 : Int32) : Option Int32 := if a2 ≤ 0 then (some 0) else (gd (¬ a2 = 0) (some (airem ((a1 &&& 2147483647) / 256) a2)))
set_option maxRecDepth 100000 in
set_option maxHeartbeats 8000000 in
theorem X3_drawn_ca {S : Sc} {d : Nat} {a1 : Int32} {a2 : Int32} {mem : Mm} {rr : Int32} {Q : Po}  (h : X3_drawn a1 a2 = some rr) (q : Q (some (.int rr)) mem) : Ca S (d + 1) 106 [.int a1, .int a2] mem Q := by
  unfold X3_drawn at h
  refine ca_in (by decide) mt_X3_drawn (Nat.le_of_ble_eq_true rfl) ?_
  show Ev S (d + 0) 3 cX3_drawn (some .int) 0 [some (.int a1), some (.int a2)] [] mem Q
  refine ev_iload_n dX3_drawn_0 (pc' := 1) rfl rfl ?_
  refine ev_if_le dX3_drawn_1 (pc' := 4) rfl (t := 18) rfl (fun c1 => ?_) (fun c1 => ?_)
  · replace h := it_t c1 h
    refine ev_iconst dX3_drawn_18 (pc' := 19) (v := 0) rfl (by decide) ?_
    obtain rfl := rt1 h
    exact ev_ireturn dX3_drawn_19 rfl q
  · replace h := it_f c1 h
    refine ev_iload_n dX3_drawn_4 (pc' := 5) rfl rfl ?_
    refine ev_ldc_w dX3_drawn_5 (pc' := 8) rfl iq_3_287 ?_
    refine ev_iand dX3_drawn_8 (pc' := 9) rfl ?_
    refine ev_sipush dX3_drawn_9 (pc' := 12) (v := 256) rfl (by decide) ?_
    refine ev_idiv dX3_drawn_12 (pc' := 13) rfl (by decide) ?_
    refine ev_iload_n dX3_drawn_13 (pc' := 14) rfl rfl ?_
    obtain ⟨g2, h⟩ := gd_of h
    refine ev_irem dX3_drawn_14 (pc' := 15) rfl g2 ?_
    refine ev_goto dX3_drawn_15 (t := 19) rfl ?_
    obtain rfl := rt1 h
    exact ev_ireturn dX3_drawn_19 rfl q
def X3_lots_L39  (a3 : Int32) (a4 : Int32) : Nat → Int32 → Int32 → Int32 → Mm → Option (Int32 × Mm)
  | 0, _, _, _, _ => none
  | n + 1, w5, w6, w7, m8 => if a3 ≤ w7 then (some (w6, m8)) else (nm (X3_nextSeed w5) (fun v10 => ob (X2_become 11 1 m8) (fun m11 => ob (X3_drawn v10 9) (fun y12 => nm2 (X2_choose 11 1 (y12 + 1) m11) (fun y13 m14 => ob (X2_goOn 11 20 m14) (fun m15 => if a4 = 0 then (ob (X2_allAmounts 11 m15) (fun y17 => nm (w6 + y17) (fun v18 => nm (w7 + 1) (fun v19 => X3_lots_L39 a3 a4 n v10 v18 v19 m15)))) else (ob (X2_allTaken 11 m15) (fun y20 => nm (w6 + y20) (fun v21 => nm (w7 + 1) (fun v22 => X3_lots_L39 a3 a4 n v10 v21 v22 m15))))))))))
def X3_lots (_o : Nat) (a1 : Int32) (a2 : Int32) (a3 : Int32) (mem : Mm) : Option (Int32 × Mm) := nm (X3_firstOf (X3_rangeFault a1 1 20) (X3_whatFault a3 1) 0) (fun v1 => if v1 = 0 then (X3_lots_L39 a1 a3 LF a2 0 0 mem) else (ob2 (X3_refuse 0 v1 mem) (fun y23 m24 => some (y23, m24))))
set_option maxRecDepth 100000 in
set_option maxHeartbeats 8000000 in
theorem X3_lots_L39_ev {S : Sc} {d : Nat}  {a3 : Int32} {a4 : Int32} {rr : Int32} {mr : Mm} {Q : Po}  (q : Q (some (.int rr)) mr) : ∀ (n : Nat) (w5 : Int32) (w6 : Int32) (w7 : Int32) (m8 : Mm), X3_lots_L39 a3 a4 n w5 w6 w7 m8 = some (rr, mr) → Ev S (d + 4) 3 cX3_lots (some .int) 39 [some (.ref 0), some (.int a3), none, some (.int a4), none, some (.int w5), some (.int w6), some (.int w7)] [] m8 Q := by
  intro n
  induction n with
  | zero => intro w5 w6 w7 m8 h; cases h
  | succ n ih =>
    intro w5 w6 w7 m8 h
    unfold X3_lots_L39 at h
    refine ev_iload dX3_lots_39 (pc' := 41) rfl rfl ?_
    refine ev_iload_n dX3_lots_41 (pc' := 42) rfl rfl ?_
    refine ev_icmp_ge dX3_lots_42 (pc' := 45) rfl (t := 122) rfl (fun c9 => ?_) (fun c9 => ?_)
    · replace h := it_t c9 h
      refine ev_iload dX3_lots_122 (pc' := 124) rfl rfl ?_
      obtain ⟨rfl, rfl⟩ := rt2 h
      exact ev_ireturn dX3_lots_124 rfl q
    · replace h := it_f c9 h
      refine ev_iload dX3_lots_45 (pc' := 47) rfl rfl ?_
      refine ev_invS dX3_lots_47 (pc' := 50) rfl sq_3_225 mt_X3_nextSeed rfl ⟨_, rfl, Nat.le_of_ble_eq_true rfl, Nat.le_of_ble_eq_true rfl, rfl, rfl⟩ ?_
      refine X3_nextSeed_ca  rfl ?_
      refine ev_r1 ?_
      refine ev_topi (fun v10 e_v10 => ?_)
      replace h := nm_at e_v10 h
      refine ev_istore dX3_lots_50 (pc' := 52) (ls' := [some (.ref 0), some (.int a3), none, some (.int a4), none, some (.int v10), some (.int w6), some (.int w7)]) rfl (Nat.le_of_ble_eq_true rfl) rfl ?_
      refine ev_aload_n dX3_lots_52 (pc' := 53) rfl rfl ?_
      refine ev_getR (y := 11) dX3_lots_53 (pc' := 56) rfl fq_3_16 kn_0 rfl ?_
      refine ev_aload_n dX3_lots_56 (pc' := 57) rfl rfl ?_
      refine ev_getR (y := 1) dX3_lots_57 (pc' := 60) rfl fq_3_10 kn_0 rfl ?_
      obtain ⟨m11, x_m11, h⟩ := ob_of h
      refine ev_invV dX3_lots_60 (pc' := 63) rfl sq_3_151 mt_X2_become rfl (arecv_ob (x := 11) rfl rfl (by decide) kn_11) ⟨_, rfl, Nat.le_of_ble_eq_true rfl, Nat.le_of_ble_eq_true rfl, rfl, rfl⟩ ?_
      refine X2_become_ca kn_11 kn_1 x_m11 ?_
      refine ev_r0 ?_
      refine ev_aload_n dX3_lots_63 (pc' := 64) rfl rfl ?_
      refine ev_getR (y := 11) dX3_lots_64 (pc' := 67) rfl fq_3_16 kn_0 rfl ?_
      refine ev_iconst dX3_lots_67 (pc' := 68) (v := 1) rfl (by decide) ?_
      refine ev_iload dX3_lots_68 (pc' := 70) rfl rfl ?_
      refine ev_bipush dX3_lots_70 (pc' := 72) (v := 9) rfl (by decide) ?_
      obtain ⟨y12, x_y12, h⟩ := ob_of h
      refine ev_invS dX3_lots_72 (pc' := 75) rfl sq_3_228 mt_X3_drawn rfl ⟨_, rfl, Nat.le_of_ble_eq_true rfl, Nat.le_of_ble_eq_true rfl, rfl, rfl⟩ ?_
      refine X3_drawn_ca  x_y12 ?_
      refine ev_r1 ?_
      refine ev_iconst dX3_lots_75 (pc' := 76) (v := 1) rfl (by decide) ?_
      refine ev_iadd dX3_lots_76 (pc' := 77) rfl ?_
      obtain ⟨y13, m14, x_y13, h⟩ := nm2_of h
      refine ev_invV dX3_lots_77 (pc' := 80) rfl sq_3_103 mt_X2_choose rfl (arecv_ob (x := 11) rfl rfl (by decide) kn_11) ⟨_, rfl, Nat.le_of_ble_eq_true rfl, Nat.le_of_ble_eq_true rfl, rfl, rfl⟩ ?_
      refine X2_choose_ca kn_11 x_y13 ?_
      refine ev_r1 ?_
      refine ev_pop dX3_lots_80 (pc' := 81) rfl rfl ?_
      refine ev_aload_n dX3_lots_81 (pc' := 82) rfl rfl ?_
      refine ev_getR (y := 11) dX3_lots_82 (pc' := 85) rfl fq_3_16 kn_0 rfl ?_
      refine ev_bipush dX3_lots_85 (pc' := 87) (v := 20) rfl (by decide) ?_
      obtain ⟨m15, x_m15, h⟩ := ob_of h
      refine ev_invV dX3_lots_87 (pc' := 90) rfl sq_3_155 mt_X2_goOn rfl (arecv_ob (x := 11) rfl rfl (by decide) kn_11) ⟨_, rfl, Nat.le_of_ble_eq_true rfl, Nat.le_of_ble_eq_true rfl, rfl, rfl⟩ ?_
      refine X2_goOn_ca kn_11 x_m15 ?_
      refine ev_r0 ?_
      refine ev_iload dX3_lots_90 (pc' := 92) rfl rfl ?_
      refine ev_iload_n dX3_lots_92 (pc' := 93) rfl rfl ?_
      refine ev_if_ne dX3_lots_93 (pc' := 96) rfl (t := 106) rfl (fun c16 => ?_) (fun c16 => ?_)
      · replace h := it_f c16 h
        refine ev_aload_n dX3_lots_106 (pc' := 107) rfl rfl ?_
        refine ev_getR (y := 11) dX3_lots_107 (pc' := 110) rfl fq_3_16 kn_0 rfl ?_
        obtain ⟨y20, x_y20, h⟩ := ob_of h
        refine ev_invV dX3_lots_110 (pc' := 113) rfl sq_3_128 mt_X2_allTaken rfl (arecv_ob (x := 11) rfl rfl (by decide) kn_11) ⟨_, rfl, Nat.le_of_ble_eq_true rfl, Nat.le_of_ble_eq_true rfl, rfl, rfl⟩ ?_
        refine X2_allTaken_ca kn_11 x_y20 ?_
        refine ev_r1 ?_
        refine ev_iadd dX3_lots_113 (pc' := 114) rfl ?_
        refine ev_topi (fun v21 e_v21 => ?_)
        replace h := nm_at e_v21 h
        refine ev_istore dX3_lots_114 (pc' := 116) (ls' := [some (.ref 0), some (.int a3), none, some (.int a4), none, some (.int v10), some (.int v21), some (.int w7)]) rfl (Nat.le_of_ble_eq_true rfl) rfl ?_
        obtain ⟨v22, e_v22⟩ : ∃ y : Int32, y = (w7 + 1) := ⟨_, rfl⟩
        replace h := nm_at e_v22 h
        refine ev_iinc dX3_lots_116 (pc' := 119) (v := v22) (ls' := [some (.ref 0), some (.int a3), none, some (.int a4), none, some (.int v10), some (.int v21), some (.int v22)]) rfl rfl (by rw [e_v22]; rfl) (Nat.le_of_ble_eq_true rfl) rfl ?_
        refine ev_goto dX3_lots_119 (t := 39) rfl ?_
        exact ev_sub (lsub_c (lsub_c (lsub_c (lsub_c (lsub_c (lsub_c (lsub_c (lsub_c lsub_nil)))))))) (ih v10 v21 v22 m15 h)
      · replace h := it_t c16 h
        refine ev_aload_n dX3_lots_96 (pc' := 97) rfl rfl ?_
        refine ev_getR (y := 11) dX3_lots_97 (pc' := 100) rfl fq_3_16 kn_0 rfl ?_
        obtain ⟨y17, x_y17, h⟩ := ob_of h
        refine ev_invV dX3_lots_100 (pc' := 103) rfl sq_3_125 mt_X2_allAmounts rfl (arecv_ob (x := 11) rfl rfl (by decide) kn_11) ⟨_, rfl, Nat.le_of_ble_eq_true rfl, Nat.le_of_ble_eq_true rfl, rfl, rfl⟩ ?_
        refine X2_allAmounts_ca kn_11 x_y17 ?_
        refine ev_r1 ?_
        refine ev_goto dX3_lots_103 (t := 113) rfl ?_
        refine ev_iadd dX3_lots_113 (pc' := 114) rfl ?_
        refine ev_topi (fun v18 e_v18 => ?_)
        replace h := nm_at e_v18 h
        refine ev_istore dX3_lots_114 (pc' := 116) (ls' := [some (.ref 0), some (.int a3), none, some (.int a4), none, some (.int v10), some (.int v18), some (.int w7)]) rfl (Nat.le_of_ble_eq_true rfl) rfl ?_
        obtain ⟨v19, e_v19⟩ : ∃ y : Int32, y = (w7 + 1) := ⟨_, rfl⟩
        replace h := nm_at e_v19 h
        refine ev_iinc dX3_lots_116 (pc' := 119) (v := v19) (ls' := [some (.ref 0), some (.int a3), none, some (.int a4), none, some (.int v10), some (.int v18), some (.int v19)]) rfl rfl (by rw [e_v19]; rfl) (Nat.le_of_ble_eq_true rfl) rfl ?_
        refine ev_goto dX3_lots_119 (t := 39) rfl ?_
        exact ev_sub (lsub_c (lsub_c (lsub_c (lsub_c (lsub_c (lsub_c (lsub_c (lsub_c lsub_nil)))))))) (ih v10 v18 v19 m15 h)
set_option maxRecDepth 100000 in
set_option maxHeartbeats 8000000 in
theorem X3_lots_ca {S : Sc} {d : Nat} {a1 : Int32} {a2 : Int32} {a3 : Int32} {mem : Mm} {rr : Int32} {mr : Mm} {Q : Po}  (h : X3_lots 0 a1 a2 a3 mem = some (rr, mr)) (q : Q (some (.int rr)) mr) : Ca S (d + 5) 78 [.ref 0, .int a1, .int a2, .int a3] mem Q := by
  unfold X3_lots at h
  refine ca_in (by decide) mt_X3_lots (Nat.le_of_ble_eq_true rfl) ?_
  show Ev S (d + 4) 3 cX3_lots (some .int) 0 [some (.ref 0), some (.int a1), some (.int a2), some (.int a3), none, none, none, none] [] mem Q
  refine ev_iload_n dX3_lots_0 (pc' := 1) rfl rfl ?_
  refine ev_iconst dX3_lots_1 (pc' := 2) (v := 1) rfl (by decide) ?_
  refine ev_bipush dX3_lots_2 (pc' := 4) (v := 20) rfl (by decide) ?_
  refine ev_invS dX3_lots_4 (pc' := 7) rfl sq_3_44 mt_X3_rangeFault rfl ⟨_, rfl, Nat.le_of_ble_eq_true rfl, Nat.le_of_ble_eq_true rfl, rfl, rfl⟩ ?_
  refine X3_rangeFault_ca  rfl ?_
  refine ev_r1 ?_
  refine ev_iload_n dX3_lots_7 (pc' := 8) rfl rfl ?_
  refine ev_iconst dX3_lots_8 (pc' := 9) (v := 1) rfl (by decide) ?_
  refine ev_invS dX3_lots_9 (pc' := 12) rfl sq_3_69 mt_X3_whatFault rfl ⟨_, rfl, Nat.le_of_ble_eq_true rfl, Nat.le_of_ble_eq_true rfl, rfl, rfl⟩ ?_
  refine X3_whatFault_ca  rfl ?_
  refine ev_r1 ?_
  refine ev_iconst dX3_lots_12 (pc' := 13) (v := 0) rfl (by decide) ?_
  refine ev_invS dX3_lots_13 (pc' := 16) rfl sq_3_73 mt_X3_firstOf rfl ⟨_, rfl, Nat.le_of_ble_eq_true rfl, Nat.le_of_ble_eq_true rfl, rfl, rfl⟩ ?_
  refine X3_firstOf_ca  rfl ?_
  refine ev_r1 ?_
  refine ev_topi (fun v1 e_v1 => ?_)
  replace h := nm_at e_v1 h
  refine ev_istore dX3_lots_16 (pc' := 18) (ls' := [some (.ref 0), some (.int a1), some (.int a2), some (.int a3), some (.int v1), none, none, none]) rfl (Nat.le_of_ble_eq_true rfl) rfl ?_
  refine ev_iload dX3_lots_18 (pc' := 20) rfl rfl ?_
  refine ev_if_eq dX3_lots_20 (pc' := 23) rfl (t := 30) rfl (fun c2 => ?_) (fun c2 => ?_)
  · replace h := it_t c2 h
    refine ev_iload_n dX3_lots_30 (pc' := 31) rfl rfl ?_
    refine ev_istore dX3_lots_31 (pc' := 33) (ls' := [some (.ref 0), some (.int a1), some (.int a2), some (.int a3), some (.int v1), some (.int a2), none, none]) rfl (Nat.le_of_ble_eq_true rfl) rfl ?_
    refine ev_iconst dX3_lots_33 (pc' := 34) (v := 0) rfl (by decide) ?_
    refine ev_istore dX3_lots_34 (pc' := 36) (ls' := [some (.ref 0), some (.int a1), some (.int a2), some (.int a3), some (.int v1), some (.int a2), some (.int 0), none]) rfl (Nat.le_of_ble_eq_true rfl) rfl ?_
    refine ev_iconst dX3_lots_36 (pc' := 37) (v := 0) rfl (by decide) ?_
    refine ev_istore dX3_lots_37 (pc' := 39) (ls' := [some (.ref 0), some (.int a1), some (.int a2), some (.int a3), some (.int v1), some (.int a2), some (.int 0), some (.int 0)]) rfl (Nat.le_of_ble_eq_true rfl) rfl ?_
    exact ev_sub (lsub_c (lsub_c (lsub_n (lsub_c (lsub_n (lsub_c (lsub_c (lsub_c lsub_nil)))))))) (X3_lots_L39_ev  q LF a2 0 0 mem h)
  · replace h := it_f c2 h
    refine ev_aload_n dX3_lots_23 (pc' := 24) rfl rfl ?_
    refine ev_iload dX3_lots_24 (pc' := 26) rfl rfl ?_
    obtain ⟨y23, m24, x_y23, h⟩ := ob2_of h
    refine ev_invV dX3_lots_26 (pc' := 29) rfl sq_3_56 mt_X3_refuse rfl (arecv_ob (x := 0) rfl rfl (by decide) kn_0) ⟨_, rfl, Nat.le_of_ble_eq_true rfl, Nat.le_of_ble_eq_true rfl, rfl, rfl⟩ ?_
    refine X3_refuse_ca  x_y23 ?_
    refine ev_r1 ?_
    obtain ⟨rfl, rfl⟩ := rt2 h
    exact ev_ireturn dX3_lots_29 rfl q
def X3_image (_o : Nat) (mem : Mm) : Option (Int32 × Mm) := ob (X2_become 21 1 mem) (fun m1 => nm (mset m1 0 3 1) (fun m2 => some ((m2 1 6), m2)))
set_option maxRecDepth 100000 in
set_option maxHeartbeats 8000000 in
theorem X3_image_ca {S : Sc} {d : Nat}  {mem : Mm} {rr : Int32} {mr : Mm} {Q : Po}  (h : X3_image 0 mem = some (rr, mr)) (q : Q (some (.int rr)) mr) : Ca S (d + 3) 79 [.ref 0] mem Q := by
  unfold X3_image at h
  refine ca_in (by decide) mt_X3_image (Nat.le_of_ble_eq_true rfl) ?_
  show Ev S (d + 2) 3 cX3_image (some .int) 0 [some (.ref 0)] [] mem Q
  refine ev_aload_n dX3_image_0 (pc' := 1) rfl rfl ?_
  refine ev_getR (y := 21) dX3_image_1 (pc' := 4) rfl fq_3_19 kn_0 rfl ?_
  refine ev_aload_n dX3_image_4 (pc' := 5) rfl rfl ?_
  refine ev_getR (y := 1) dX3_image_5 (pc' := 8) rfl fq_3_10 kn_0 rfl ?_
  obtain ⟨m1, x_m1, h⟩ := ob_of h
  refine ev_invV dX3_image_8 (pc' := 11) rfl sq_3_151 mt_X2_become rfl (arecv_ob (x := 21) rfl rfl (by decide) kn_21) ⟨_, rfl, Nat.le_of_ble_eq_true rfl, Nat.le_of_ble_eq_true rfl, rfl, rfl⟩ ?_
  refine X2_become_ca kn_21 kn_1 x_m1 ?_
  refine ev_r0 ?_
  refine ev_aload_n dX3_image_11 (pc' := 12) rfl rfl ?_
  refine ev_iconst dX3_image_12 (pc' := 13) (v := 1) rfl (by decide) ?_
  refine ev_put dX3_image_13 (pc' := 16) rfl fq_3_22 kn_0 rfl ((by decide)) ?_
  refine ev_topm (fun m2 e_m2 => ?_)
  replace h := nm_at e_m2 h
  refine ev_aload_n dX3_image_16 (pc' := 17) rfl rfl ?_
  refine ev_getR (y := 1) dX3_image_17 (pc' := 20) rfl fq_3_10 kn_0 rfl ?_
  refine ev_get dX3_image_20 (pc' := 23) rfl fq_3_115 kn_1 rfl ?_
  obtain ⟨rfl, rfl⟩ := rt2 h
  exact ev_ireturn dX3_image_23 rfl q
def X3_on (_o : Nat) (mem : Mm) : Option (Int32 × Mm) := if (mem 0 3) = 0 then (ob2 (X3_refuse 0 (-3) mem) (fun y2 m3 => some (y2, m3))) else (ob (X2_become 1 21 mem) (fun m4 => some ((m4 1 6), m4)))
set_option maxRecDepth 100000 in
set_option maxHeartbeats 8000000 in
theorem X3_on_ca {S : Sc} {d : Nat}  {mem : Mm} {rr : Int32} {mr : Mm} {Q : Po}  (h : X3_on 0 mem = some (rr, mr)) (q : Q (some (.int rr)) mr) : Ca S (d + 3) 80 [.ref 0] mem Q := by
  unfold X3_on at h
  refine ca_in (by decide) mt_X3_on (Nat.le_of_ble_eq_true rfl) ?_
  show Ev S (d + 2) 3 cX3_on (some .int) 0 [some (.ref 0)] [] mem Q
  refine ev_aload_n dX3_on_0 (pc' := 1) rfl rfl ?_
  refine ev_get dX3_on_1 (pc' := 4) rfl fq_3_22 kn_0 rfl ?_
  refine ev_if_ne dX3_on_4 (pc' := 7) rfl (t := 14) rfl (fun c1 => ?_) (fun c1 => ?_)
  · replace h := it_f c1 h
    refine ev_aload_n dX3_on_14 (pc' := 15) rfl rfl ?_
    refine ev_getR (y := 1) dX3_on_15 (pc' := 18) rfl fq_3_10 kn_0 rfl ?_
    refine ev_aload_n dX3_on_18 (pc' := 19) rfl rfl ?_
    refine ev_getR (y := 21) dX3_on_19 (pc' := 22) rfl fq_3_19 kn_0 rfl ?_
    obtain ⟨m4, x_m4, h⟩ := ob_of h
    refine ev_invV dX3_on_22 (pc' := 25) rfl sq_3_151 mt_X2_become rfl (arecv_ob (x := 1) rfl rfl (by decide) kn_1) ⟨_, rfl, Nat.le_of_ble_eq_true rfl, Nat.le_of_ble_eq_true rfl, rfl, rfl⟩ ?_
    refine X2_become_ca kn_1 kn_21 x_m4 ?_
    refine ev_r0 ?_
    refine ev_aload_n dX3_on_25 (pc' := 26) rfl rfl ?_
    refine ev_getR (y := 1) dX3_on_26 (pc' := 29) rfl fq_3_10 kn_0 rfl ?_
    refine ev_get dX3_on_29 (pc' := 32) rfl fq_3_115 kn_1 rfl ?_
    obtain ⟨rfl, rfl⟩ := rt2 h
    exact ev_ireturn dX3_on_32 rfl q
  · replace h := it_t c1 h
    refine ev_aload_n dX3_on_7 (pc' := 8) rfl rfl ?_
    refine ev_bipush dX3_on_8 (pc' := 10) (v := (-3)) rfl (by decide) ?_
    obtain ⟨y2, m3, x_y2, h⟩ := ob2_of h
    refine ev_invV dX3_on_10 (pc' := 13) rfl sq_3_56 mt_X3_refuse rfl (arecv_ob (x := 0) rfl rfl (by decide) kn_0) ⟨_, rfl, Nat.le_of_ble_eq_true rfl, Nat.le_of_ble_eq_true rfl, rfl, rfl⟩ ?_
    refine X3_refuse_ca  x_y2 ?_
    refine ev_r1 ?_
    obtain ⟨rfl, rfl⟩ := rt2 h
    exact ev_ireturn dX3_on_13 rfl q
def X3_refused (_o : Nat) (a1 : Int32) (mem : Mm) : Option Int32 := if a1 < 0 then (some 0) else (if 7 ≤ a1 then (some 0) else (gd (vin a1 7) (some (mem 34 (a1).toNatClampNeg))))
set_option maxRecDepth 100000 in
set_option maxHeartbeats 8000000 in
theorem X3_refused_ca {S : Sc} {d : Nat} {a1 : Int32} {mem : Mm} {rr : Int32} {Q : Po}  (h : X3_refused 0 a1 mem = some rr) (q : Q (some (.int rr)) mem) : Ca S (d + 1) 84 [.ref 0, .int a1] mem Q := by
  unfold X3_refused at h
  refine ca_in (by decide) mt_X3_refused (Nat.le_of_ble_eq_true rfl) ?_
  show Ev S (d + 0) 3 cX3_refused (some .int) 0 [some (.ref 0), some (.int a1)] [] mem Q
  refine ev_iload_n dX3_refused_0 (pc' := 1) rfl rfl ?_
  refine ev_if_lt dX3_refused_1 (pc' := 4) rfl (t := 22) rfl (fun c1 => ?_) (fun c1 => ?_)
  · replace h := it_t c1 h
    refine ev_iconst dX3_refused_22 (pc' := 23) (v := 0) rfl (by decide) ?_
    obtain rfl := rt1 h
    exact ev_ireturn dX3_refused_23 rfl q
  · replace h := it_f c1 h
    refine ev_iload_n dX3_refused_4 (pc' := 5) rfl rfl ?_
    refine ev_aload_n dX3_refused_5 (pc' := 6) rfl rfl ?_
    refine ev_getR (y := 34) dX3_refused_6 (pc' := 9) rfl fq_3_41 kn_0 rfl ?_
    refine ev_alen (n := 7) dX3_refused_9 (pc' := 10) rfl kn_34 rfl ?_
    refine ev_icmp_ge dX3_refused_10 (pc' := 13) rfl (t := 22) rfl (fun c2 => ?_) (fun c2 => ?_)
    · replace h := it_t c2 h
      refine ev_iconst dX3_refused_22 (pc' := 23) (v := 0) rfl (by decide) ?_
      obtain rfl := rt1 h
      exact ev_ireturn dX3_refused_23 rfl q
    · replace h := it_f c2 h
      refine ev_aload_n dX3_refused_13 (pc' := 14) rfl rfl ?_
      refine ev_getR (y := 34) dX3_refused_14 (pc' := 17) rfl fq_3_41 kn_0 rfl ?_
      refine ev_iload_n dX3_refused_17 (pc' := 18) rfl rfl ?_
      obtain ⟨g3, h⟩ := gd_of h
      refine ev_ialdK (k0 := (a1).toNatClampNeg) dX3_refused_18 (pc' := 19) rfl kn_34 g3 rfl ?_
      refine ev_goto dX3_refused_19 (t := 23) rfl ?_
      obtain rfl := rt1 h
      exact ev_ireturn dX3_refused_23 rfl q
def X3_count (_o : Nat) (a1 : Int32) (mem : Mm) : Option Int32 := if a1 = 0 then (some (mem 1 2)) else (if a1 = 1 then (some (mem 1 6)) else (if a1 = 2 then (some (mem 1 3)) else (if a1 = 3 then (some (mem 1 4)) else (if a1 = 4 then (some (mem 1 5)) else (if a1 = 5 then (ob (X2_allAmounts 1 mem) (fun y7 => some y7)) else (if a1 = 6 then (ob (X2_allTaken 1 mem) (fun y9 => some y9)) else (if a1 = 7 then (some (mem 0 6)) else (if a1 = 8 then (some (mem 31 1)) else (if a1 < 11 then (some (-9)) else (if 16 < a1 then (some (-9)) else (ob (X3_refused 0 (a1 - 10) mem) (fun y14 => some y14))))))))))))
set_option maxRecDepth 100000 in
set_option maxHeartbeats 8000000 in
theorem X3_count_ca {S : Sc} {d : Nat} {a1 : Int32} {mem : Mm} {rr : Int32} {Q : Po}  (h : X3_count 0 a1 mem = some rr) (q : Q (some (.int rr)) mem) : Ca S (d + 3) 81 [.ref 0, .int a1] mem Q := by
  unfold X3_count at h
  refine ca_in (by decide) mt_X3_count (Nat.le_of_ble_eq_true rfl) ?_
  show Ev S (d + 2) 3 cX3_count (some .int) 0 [some (.ref 0), some (.int a1)] [] mem Q
  refine ev_iload_n dX3_count_0 (pc' := 1) rfl rfl ?_
  by_cases c1 : a1 = 0
  · replace h := it_t c1 h
    refine ev_tableIn dX3_count_1 c1 (by decide) rfl (t := 52) rfl ?_
    refine ev_aload_n dX3_count_52 (pc' := 53) rfl rfl ?_
    refine ev_getR (y := 1) dX3_count_53 (pc' := 56) rfl fq_3_10 kn_0 rfl ?_
    refine ev_get dX3_count_56 (pc' := 59) rfl fq_3_161 kn_1 rfl ?_
    obtain rfl := rt1 h
    exact ev_ireturn dX3_count_59 rfl q
  · replace h := it_f c1 h
    by_cases c2 : a1 = 1
    · replace h := it_t c2 h
      refine ev_tableIn dX3_count_1 c2 (by decide) rfl (t := 60) rfl ?_
      refine ev_aload_n dX3_count_60 (pc' := 61) rfl rfl ?_
      refine ev_getR (y := 1) dX3_count_61 (pc' := 64) rfl fq_3_10 kn_0 rfl ?_
      refine ev_get dX3_count_64 (pc' := 67) rfl fq_3_115 kn_1 rfl ?_
      obtain rfl := rt1 h
      exact ev_ireturn dX3_count_67 rfl q
    · replace h := it_f c2 h
      by_cases c3 : a1 = 2
      · replace h := it_t c3 h
        refine ev_tableIn dX3_count_1 c3 (by decide) rfl (t := 68) rfl ?_
        refine ev_aload_n dX3_count_68 (pc' := 69) rfl rfl ?_
        refine ev_getR (y := 1) dX3_count_69 (pc' := 72) rfl fq_3_10 kn_0 rfl ?_
        refine ev_get dX3_count_72 (pc' := 75) rfl fq_3_231 kn_1 rfl ?_
        obtain rfl := rt1 h
        exact ev_ireturn dX3_count_75 rfl q
      · replace h := it_f c3 h
        by_cases c4 : a1 = 3
        · replace h := it_t c4 h
          refine ev_tableIn dX3_count_1 c4 (by decide) rfl (t := 76) rfl ?_
          refine ev_aload_n dX3_count_76 (pc' := 77) rfl rfl ?_
          refine ev_getR (y := 1) dX3_count_77 (pc' := 80) rfl fq_3_10 kn_0 rfl ?_
          refine ev_get dX3_count_80 (pc' := 83) rfl fq_3_234 kn_1 rfl ?_
          obtain rfl := rt1 h
          exact ev_ireturn dX3_count_83 rfl q
        · replace h := it_f c4 h
          by_cases c5 : a1 = 4
          · replace h := it_t c5 h
            refine ev_tableIn dX3_count_1 c5 (by decide) rfl (t := 84) rfl ?_
            refine ev_aload_n dX3_count_84 (pc' := 85) rfl rfl ?_
            refine ev_getR (y := 1) dX3_count_85 (pc' := 88) rfl fq_3_10 kn_0 rfl ?_
            refine ev_get dX3_count_88 (pc' := 91) rfl fq_3_237 kn_1 rfl ?_
            obtain rfl := rt1 h
            exact ev_ireturn dX3_count_91 rfl q
          · replace h := it_f c5 h
            by_cases c6 : a1 = 5
            · replace h := it_t c6 h
              refine ev_tableIn dX3_count_1 c6 (by decide) rfl (t := 92) rfl ?_
              refine ev_aload_n dX3_count_92 (pc' := 93) rfl rfl ?_
              refine ev_getR (y := 1) dX3_count_93 (pc' := 96) rfl fq_3_10 kn_0 rfl ?_
              obtain ⟨y7, x_y7, h⟩ := ob_of h
              refine ev_invV dX3_count_96 (pc' := 99) rfl sq_3_125 mt_X2_allAmounts rfl (arecv_ob (x := 1) rfl rfl (by decide) kn_1) ⟨_, rfl, Nat.le_of_ble_eq_true rfl, Nat.le_of_ble_eq_true rfl, rfl, rfl⟩ ?_
              refine X2_allAmounts_ca kn_1 x_y7 ?_
              refine ev_r1 ?_
              obtain rfl := rt1 h
              exact ev_ireturn dX3_count_99 rfl q
            · replace h := it_f c6 h
              by_cases c8 : a1 = 6
              · replace h := it_t c8 h
                refine ev_tableIn dX3_count_1 c8 (by decide) rfl (t := 100) rfl ?_
                refine ev_aload_n dX3_count_100 (pc' := 101) rfl rfl ?_
                refine ev_getR (y := 1) dX3_count_101 (pc' := 104) rfl fq_3_10 kn_0 rfl ?_
                obtain ⟨y9, x_y9, h⟩ := ob_of h
                refine ev_invV dX3_count_104 (pc' := 107) rfl sq_3_128 mt_X2_allTaken rfl (arecv_ob (x := 1) rfl rfl (by decide) kn_1) ⟨_, rfl, Nat.le_of_ble_eq_true rfl, Nat.le_of_ble_eq_true rfl, rfl, rfl⟩ ?_
                refine X2_allTaken_ca kn_1 x_y9 ?_
                refine ev_r1 ?_
                obtain rfl := rt1 h
                exact ev_ireturn dX3_count_107 rfl q
              · replace h := it_f c8 h
                by_cases c10 : a1 = 7
                · replace h := it_t c10 h
                  refine ev_tableIn dX3_count_1 c10 (by decide) rfl (t := 108) rfl ?_
                  refine ev_aload_n dX3_count_108 (pc' := 109) rfl rfl ?_
                  refine ev_get dX3_count_109 (pc' := 112) rfl fq_3_37 kn_0 rfl ?_
                  obtain rfl := rt1 h
                  exact ev_ireturn dX3_count_112 rfl q
                · replace h := it_f c10 h
                  by_cases c11 : a1 = 8
                  · replace h := it_t c11 h
                    refine ev_tableIn dX3_count_1 c11 (by decide) rfl (t := 113) rfl ?_
                    refine ev_aload_n dX3_count_113 (pc' := 114) rfl rfl ?_
                    refine ev_getR (y := 31) dX3_count_114 (pc' := 117) rfl fq_3_29 kn_0 rfl ?_
                    refine ev_get dX3_count_117 (pc' := 120) rfl fq_3_240 kn_31 rfl ?_
                    obtain rfl := rt1 h
                    exact ev_ireturn dX3_count_120 rfl q
                  · replace h := it_f c11 h
                    refine ev_tableDef dX3_count_1 [0, 1, 2, 3, 4, 5, 6, 7, 8] (by decide) (List.forall_mem_cons.mpr ⟨c1, List.forall_mem_cons.mpr ⟨c2, List.forall_mem_cons.mpr ⟨c3, List.forall_mem_cons.mpr ⟨c4, List.forall_mem_cons.mpr ⟨c5, List.forall_mem_cons.mpr ⟨c6, List.forall_mem_cons.mpr ⟨c8, List.forall_mem_cons.mpr ⟨c10, List.forall_mem_cons.mpr ⟨c11, fun _ h => absurd h List.not_mem_nil⟩⟩⟩⟩⟩⟩⟩⟩⟩) (t := 121) rfl ?_
                    refine ev_iload_n dX3_count_121 (pc' := 122) rfl rfl ?_
                    refine ev_bipush dX3_count_122 (pc' := 124) (v := 11) rfl (by decide) ?_
                    refine ev_icmp_lt dX3_count_124 (pc' := 127) rfl (t := 144) rfl (fun c12 => ?_) (fun c12 => ?_)
                    · replace h := it_t c12 h
                      refine ev_bipush dX3_count_144 (pc' := 146) (v := (-9)) rfl (by decide) ?_
                      obtain rfl := rt1 h
                      exact ev_ireturn dX3_count_146 rfl q
                    · replace h := it_f c12 h
                      refine ev_iload_n dX3_count_127 (pc' := 128) rfl rfl ?_
                      refine ev_bipush dX3_count_128 (pc' := 130) (v := 16) rfl (by decide) ?_
                      refine ev_icmp_gt dX3_count_130 (pc' := 133) rfl (t := 144) rfl (fun c13 => ?_) (fun c13 => ?_)
                      · replace h := it_t c13 h
                        refine ev_bipush dX3_count_144 (pc' := 146) (v := (-9)) rfl (by decide) ?_
                        obtain rfl := rt1 h
                        exact ev_ireturn dX3_count_146 rfl q
                      · replace h := it_f c13 h
                        refine ev_aload_n dX3_count_133 (pc' := 134) rfl rfl ?_
                        refine ev_iload_n dX3_count_134 (pc' := 135) rfl rfl ?_
                        refine ev_bipush dX3_count_135 (pc' := 137) (v := 10) rfl (by decide) ?_
                        refine ev_isub dX3_count_137 (pc' := 138) rfl ?_
                        obtain ⟨y14, x_y14, h⟩ := ob_of h
                        refine ev_invV dX3_count_138 (pc' := 141) rfl sq_3_243 mt_X3_refused rfl (arecv_ob (x := 0) rfl rfl (by decide) kn_0) ⟨_, rfl, Nat.le_of_ble_eq_true rfl, Nat.le_of_ble_eq_true rfl, rfl, rfl⟩ ?_
                        refine X3_refused_ca  x_y14 ?_
                        refine ev_r1 ?_
                        refine ev_goto dX3_count_141 (t := 146) rfl ?_
                        obtain rfl := rt1 h
                        exact ev_ireturn dX3_count_146 rfl q
def X4_isIn (a1 : Int32) (a2 : Int32) (a3 : Int32) : Int32 := if a1 < a2 then (0) else (if a3 < a1 then (0) else (1))
theorem X4_isIn_b (a1 : Int32) (a2 : Int32) (a3 : Int32) : X4_isIn a1 a2 a3 = 0 ∨ X4_isIn a1 a2 a3 = 1 := by
  unfold X4_isIn
  (repeat' split) <;> first | exact Or.inl rfl | exact Or.inr rfl
set_option maxRecDepth 100000 in
set_option maxHeartbeats 8000000 in
theorem X4_isIn_ca {S : Sc} {d : Nat} {a1 : Int32} {a2 : Int32} {a3 : Int32} {mem : Mm} {rr : Int32} {Q : Po}  (h : X4_isIn a1 a2 a3 = rr) (q : Q (some (.int rr)) mem) : Ca S (d + 1) 110 [.int a1, .int a2, .int a3] mem Q := by
  unfold X4_isIn at h
  refine ca_in (by decide) mt_X4_isIn (Nat.le_of_ble_eq_true rfl) ?_
  show Ev S (d + 0) 4 cX4_isIn (some .boolean) 0 [some (.int a1), some (.int a2), some (.int a3)] [] mem Q
  refine ev_iload_n dX4_isIn_0 (pc' := 1) rfl rfl ?_
  refine ev_iload_n dX4_isIn_1 (pc' := 2) rfl rfl ?_
  refine ev_icmp_lt dX4_isIn_2 (pc' := 5) rfl (t := 14) rfl (fun c1 => ?_) (fun c1 => ?_)
  · replace h := it_t c1 h
    refine ev_iconst dX4_isIn_14 (pc' := 15) (v := 0) rfl (by decide) ?_
    obtain rfl := h
    exact ev_ireturn dX4_isIn_15 (aret_z (by decide)) q
  · replace h := it_f c1 h
    refine ev_iload_n dX4_isIn_5 (pc' := 6) rfl rfl ?_
    refine ev_iload_n dX4_isIn_6 (pc' := 7) rfl rfl ?_
    refine ev_icmp_gt dX4_isIn_7 (pc' := 10) rfl (t := 14) rfl (fun c2 => ?_) (fun c2 => ?_)
    · replace h := it_t c2 h
      refine ev_iconst dX4_isIn_14 (pc' := 15) (v := 0) rfl (by decide) ?_
      obtain rfl := h
      exact ev_ireturn dX4_isIn_15 (aret_z (by decide)) q
    · replace h := it_f c2 h
      refine ev_iconst dX4_isIn_10 (pc' := 11) (v := 1) rfl (by decide) ?_
      refine ev_goto dX4_isIn_11 (t := 15) rfl ?_
      obtain rfl := h
      exact ev_ireturn dX4_isIn_15 (aret_z (by decide)) q
def X4_least (a1 : Int32) (a2 : Int32) : Int32 := if a2 ≤ a1 then (a2) else (a1)
set_option maxRecDepth 100000 in
set_option maxHeartbeats 8000000 in
theorem X4_least_ca {S : Sc} {d : Nat} {a1 : Int32} {a2 : Int32} {mem : Mm} {rr : Int32} {Q : Po}  (h : X4_least a1 a2 = rr) (q : Q (some (.int rr)) mem) : Ca S (d + 1) 111 [.int a1, .int a2] mem Q := by
  unfold X4_least at h
  refine ca_in (by decide) mt_X4_least (Nat.le_of_ble_eq_true rfl) ?_
  show Ev S (d + 0) 4 cX4_least (some .int) 0 [some (.int a1), some (.int a2)] [] mem Q
  refine ev_iload_n dX4_least_0 (pc' := 1) rfl rfl ?_
  refine ev_iload_n dX4_least_1 (pc' := 2) rfl rfl ?_
  refine ev_icmp_ge dX4_least_2 (pc' := 5) rfl (t := 9) rfl (fun c1 => ?_) (fun c1 => ?_)
  · replace h := it_t c1 h
    refine ev_iload_n dX4_least_9 (pc' := 10) rfl rfl ?_
    obtain rfl := h
    exact ev_ireturn dX4_least_10 rfl q
  · replace h := it_f c1 h
    refine ev_iload_n dX4_least_5 (pc' := 6) rfl rfl ?_
    refine ev_goto dX4_least_6 (t := 10) rfl ?_
    obtain rfl := h
    exact ev_ireturn dX4_least_10 rfl q
def X4_size (a1 : Int32) : Int32 := if 0 ≤ a1 then (a1) else ((-a1))
set_option maxRecDepth 100000 in
set_option maxHeartbeats 8000000 in
theorem X4_size_ca {S : Sc} {d : Nat} {a1 : Int32} {mem : Mm} {rr : Int32} {Q : Po}  (h : X4_size a1 = rr) (q : Q (some (.int rr)) mem) : Ca S (d + 1) 112 [.int a1] mem Q := by
  unfold X4_size at h
  refine ca_in (by decide) mt_X4_size (Nat.le_of_ble_eq_true rfl) ?_
  show Ev S (d + 0) 4 cX4_size (some .int) 0 [some (.int a1)] [] mem Q
  refine ev_iload_n dX4_size_0 (pc' := 1) rfl rfl ?_
  refine ev_if_ge dX4_size_1 (pc' := 4) rfl (t := 9) rfl (fun c1 => ?_) (fun c1 => ?_)
  · replace h := it_t c1 h
    refine ev_iload_n dX4_size_9 (pc' := 10) rfl rfl ?_
    obtain rfl := h
    exact ev_ireturn dX4_size_10 rfl q
  · replace h := it_f c1 h
    refine ev_iload_n dX4_size_4 (pc' := 5) rfl rfl ?_
    refine ev_ineg dX4_size_5 (pc' := 6) rfl ?_
    refine ev_goto dX4_size_6 (t := 10) rfl ?_
    obtain rfl := h
    exact ev_ireturn dX4_size_10 rfl q
def X4_lays_L2 (p1 : Nat) (p2 : Nat)  : Nat → Int32 → Mm → Option Mm
  | 0, _, _ => none
  | n + 1, w1, m2 => if 47 ≤ w1 then (some m2) else (gd (vin w1 47) (nm (mset m2 p2 (w1).toNatClampNeg (m2 p1 (w1).toNatClampNeg)) (fun m5 => nm (w1 + 1) (fun v6 => X4_lays_L2 p1 p2 n v6 m5))))
def X4_lays (p1 : Nat) (p2 : Nat) (mem : Mm) : Option Mm := X4_lays_L2 p1 p2 LF 0 mem
set_option maxRecDepth 100000 in
set_option maxHeartbeats 8000000 in
theorem X4_lays_L2_ev {S : Sc} {d : Nat} {p1 : Nat} {p2 : Nat}  {mr : Mm} {Q : Po} (h_p1 : kdp p1 5) (l_p1 : ln p1 = 47) (h_p2 : kdp p2 5) (l_p2 : ln p2 = 47) (q : Q none mr) : ∀ (n : Nat) (w1 : Int32) (m2 : Mm), X4_lays_L2 p1 p2 n w1 m2 = some mr → Ev S (d + 0) 4 cX4_lays none 2 [some (.ref p1), some (.ref p2), some (.int w1)] [] m2 Q := by
  intro n
  induction n with
  | zero => intro w1 m2 h; cases h
  | succ n ih =>
    intro w1 m2 h
    unfold X4_lays_L2 at h
    refine ev_iload_n dX4_lays_2 (pc' := 3) rfl rfl ?_
    refine ev_bipush dX4_lays_3 (pc' := 5) (v := 47) rfl (by decide) ?_
    refine ev_icmp_ge dX4_lays_5 (pc' := 8) rfl (t := 20) rfl (fun c3 => ?_) (fun c3 => ?_)
    · replace h := it_t c3 h
      obtain rfl := rt1 h
      exact ev_return dX4_lays_20 rfl q
    · replace h := it_f c3 h
      refine ev_aload_n dX4_lays_8 (pc' := 9) rfl rfl ?_
      refine ev_iload_n dX4_lays_9 (pc' := 10) rfl rfl ?_
      refine ev_aload_n dX4_lays_10 (pc' := 11) rfl rfl ?_
      refine ev_iload_n dX4_lays_11 (pc' := 12) rfl rfl ?_
      obtain ⟨g4, h⟩ := gd_of h
      refine ev_ialdK (k0 := (w1).toNatClampNeg) dX4_lays_12 (pc' := 13) rfl h_p1 (by rw [l_p1]; exact g4) rfl ?_
      refine ev_iastK (k0 := (w1).toNatClampNeg) dX4_lays_13 (pc' := 14) rfl h_p2 (by rw [l_p2]; exact g4) rfl ?_
      refine ev_topm (fun m5 e_m5 => ?_)
      replace h := nm_at e_m5 h
      obtain ⟨v6, e_v6⟩ : ∃ y : Int32, y = (w1 + 1) := ⟨_, rfl⟩
      replace h := nm_at e_v6 h
      refine ev_iinc dX4_lays_14 (pc' := 17) (v := v6) (ls' := [some (.ref p1), some (.ref p2), some (.int v6)]) rfl rfl (by rw [e_v6]; rfl) (Nat.le_of_ble_eq_true rfl) rfl ?_
      refine ev_goto dX4_lays_17 (t := 2) rfl ?_
      exact ev_sub (lsub_c (lsub_c (lsub_c lsub_nil))) (ih v6 m5 h)
set_option maxRecDepth 100000 in
set_option maxHeartbeats 8000000 in
theorem X4_lays_ca {S : Sc} {d : Nat} {p1 : Nat} {p2 : Nat} {mem : Mm} {mr : Mm} {Q : Po} (h_p1 : kdp p1 5) (l_p1 : ln p1 = 47) (h_p2 : kdp p2 5) (l_p2 : ln p2 = 47) (h : X4_lays p1 p2 mem = some mr) (q : Q none mr) : Ca S (d + 1) 113 [.ref p1, .ref p2] mem Q := by
  unfold X4_lays at h
  refine ca_in (by decide) mt_X4_lays (Nat.le_of_ble_eq_true rfl) ?_
  show Ev S (d + 0) 4 cX4_lays none 0 [some (.ref p1), some (.ref p2), none] [] mem Q
  refine ev_iconst dX4_lays_0 (pc' := 1) (v := 0) rfl (by decide) ?_
  refine ev_istore_n dX4_lays_1 (pc' := 2) (ls' := [some (.ref p1), some (.ref p2), some (.int 0)]) rfl (Nat.le_of_ble_eq_true rfl) rfl ?_
  exact ev_sub (lsub_c (lsub_c (lsub_c lsub_nil))) (X4_lays_L2_ev h_p1 l_p1 h_p2 l_p2 q LF 0 mem h)
def X4_no (_o : Nat) (a1 : Int32) (mem : Mm) : Option (Int32 × Mm) := gd (vin (-a1) 7) (nm (mset mem 42 ((-a1)).toNatClampNeg ((mem 42 ((-a1)).toNatClampNeg) + 1)) (fun m2 => some (a1, m2)))
set_option maxRecDepth 100000 in
set_option maxHeartbeats 8000000 in
theorem X4_no_ca {S : Sc} {d : Nat} {a1 : Int32} {mem : Mm} {rr : Int32} {mr : Mm} {Q : Po}  (h : X4_no 35 a1 mem = some (rr, mr)) (q : Q (some (.int rr)) mr) : Ca S (d + 1) 114 [.ref 35, .int a1] mem Q := by
  unfold X4_no at h
  refine ca_in (by decide) mt_X4_no (Nat.le_of_ble_eq_true rfl) ?_
  show Ev S (d + 0) 4 cX4_no (some .int) 0 [some (.ref 35), some (.int a1)] [] mem Q
  refine ev_aload_n dX4_no_0 (pc' := 1) rfl rfl ?_
  refine ev_getR (y := 42) dX4_no_1 (pc' := 4) rfl fq_4_28 kn_35 rfl ?_
  refine ev_iload_n dX4_no_4 (pc' := 5) rfl rfl ?_
  refine ev_ineg dX4_no_5 (pc' := 6) rfl ?_
  refine ev_dup2 dX4_no_6 (pc' := 7) rfl rfl rfl ?_
  obtain ⟨g1, h⟩ := gd_of h
  refine ev_ialdK (k0 := ((-a1)).toNatClampNeg) dX4_no_7 (pc' := 8) rfl kn_42 g1 rfl ?_
  refine ev_iconst dX4_no_8 (pc' := 9) (v := 1) rfl (by decide) ?_
  refine ev_iadd dX4_no_9 (pc' := 10) rfl ?_
  refine ev_iastK (k0 := ((-a1)).toNatClampNeg) dX4_no_10 (pc' := 11) rfl kn_42 g1 rfl ?_
  refine ev_topm (fun m2 e_m2 => ?_)
  replace h := nm_at e_m2 h
  refine ev_iload_n dX4_no_11 (pc' := 12) rfl rfl ?_
  obtain ⟨rfl, rfl⟩ := rt2 h
  exact ev_ireturn dX4_no_12 rfl q
def X4_noWide (_o : Nat) (a1 : Int32) (mem : Mm) : Option (Int64 × Mm) := ob2 (X4_no 35 a1 mem) (fun y1 m2 => some ((4000000000000000000 - (y1).toInt64), m2))
set_option maxRecDepth 100000 in
set_option maxHeartbeats 8000000 in
theorem X4_noWide_ca {S : Sc} {d : Nat} {a1 : Int32} {mem : Mm} {rr : Int64} {mr : Mm} {Q : Po}  (h : X4_noWide 35 a1 mem = some (rr, mr)) (q : Q (some (.long rr)) mr) : Ca S (d + 2) 115 [.ref 35, .int a1] mem Q := by
  unfold X4_noWide at h
  refine ca_in (by decide) mt_X4_noWide (Nat.le_of_ble_eq_true rfl) ?_
  show Ev S (d + 1) 4 cX4_noWide (some .long) 0 [some (.ref 35), some (.int a1)] [] mem Q
  refine ev_ldc2 dX4_noWide_0 (pc' := 3) rfl lq_4_34 ?_
  refine ev_aload_n dX4_noWide_3 (pc' := 4) rfl rfl ?_
  refine ev_iload_n dX4_noWide_4 (pc' := 5) rfl rfl ?_
  obtain ⟨y1, m2, x_y1, h⟩ := ob2_of h
  refine ev_invV dX4_noWide_5 (pc' := 8) rfl sq_4_36 mt_X4_no rfl (arecv_ob (x := 35) rfl rfl (by decide) kn_35) ⟨_, rfl, Nat.le_of_ble_eq_true rfl, Nat.le_of_ble_eq_true rfl, rfl, rfl⟩ ?_
  refine X4_no_ca  x_y1 ?_
  refine ev_r1 ?_
  refine ev_i2l dX4_noWide_8 (pc' := 9) rfl ?_
  refine ev_lsub dX4_noWide_9 (pc' := 10) rfl ?_
  obtain ⟨rfl, rfl⟩ := rt2 h
  exact ev_lreturn dX4_noWide_10 rfl q
def X4_isCask (_o : Nat) (a1 : Int32) (mem : Mm) : Int32 := (X4_isIn a1 0 ((mem 36 0) - 1))
theorem X4_isCask_b (_o : Nat) (a1 : Int32) (mem : Mm) : X4_isCask _o a1 mem = 0 ∨ X4_isCask _o a1 mem = 1 := by
  unfold X4_isCask
  exact X4_isIn_b _ _ _
set_option maxRecDepth 100000 in
set_option maxHeartbeats 8000000 in
theorem X4_isCask_ca {S : Sc} {d : Nat} {a1 : Int32} {mem : Mm} {rr : Int32} {Q : Po}  (h : X4_isCask 35 a1 mem = rr) (q : Q (some (.int rr)) mem) : Ca S (d + 2) 116 [.ref 35, .int a1] mem Q := by
  unfold X4_isCask at h
  refine ca_in (by decide) mt_X4_isCask (Nat.le_of_ble_eq_true rfl) ?_
  show Ev S (d + 1) 4 cX4_isCask (some .boolean) 0 [some (.ref 35), some (.int a1)] [] mem Q
  refine ev_iload_n dX4_isCask_0 (pc' := 1) rfl rfl ?_
  refine ev_iconst dX4_isCask_1 (pc' := 2) (v := 0) rfl (by decide) ?_
  refine ev_aload_n dX4_isCask_2 (pc' := 3) rfl rfl ?_
  refine ev_getR (y := 36) dX4_isCask_3 (pc' := 6) rfl fq_4_9 kn_35 rfl ?_
  refine ev_iconst dX4_isCask_6 (pc' := 7) (v := 0) rfl (by decide) ?_
  refine ev_ialdK (k0 := 0) dX4_isCask_7 (pc' := 8) rfl kn_36 (by decide) rfl ?_
  refine ev_iconst dX4_isCask_8 (pc' := 9) (v := 1) rfl (by decide) ?_
  refine ev_isub dX4_isCask_9 (pc' := 10) rfl ?_
  refine ev_invS dX4_isCask_10 (pc' := 13) rfl sq_4_40 mt_X4_isIn rfl ⟨_, rfl, Nat.le_of_ble_eq_true rfl, Nat.le_of_ble_eq_true rfl, rfl, rfl⟩ ?_
  refine X4_isIn_ca  rfl ?_
  refine ev_r1 ?_
  obtain rfl := h
  exact ev_ireturn dX4_isCask_13 (aret_z (X4_isIn_b a1 0 ((mem 36 0) - 1))) q
def X4_at (a1 : Int32) (a2 : Int32) : Int32 := ((5 + (6 * a1)) + a2)
set_option maxRecDepth 100000 in
set_option maxHeartbeats 8000000 in
theorem X4_at_ca {S : Sc} {d : Nat} {a1 : Int32} {a2 : Int32} {mem : Mm} {rr : Int32} {Q : Po}  (h : X4_at a1 a2 = rr) (q : Q (some (.int rr)) mem) : Ca S (d + 1) 117 [.int a1, .int a2] mem Q := by
  unfold X4_at at h
  refine ca_in (by decide) mt_X4_at (Nat.le_of_ble_eq_true rfl) ?_
  show Ev S (d + 0) 4 cX4_at (some .int) 0 [some (.int a1), some (.int a2)] [] mem Q
  refine ev_iconst dX4_at_0 (pc' := 1) (v := 5) rfl (by decide) ?_
  refine ev_bipush dX4_at_1 (pc' := 3) (v := 6) rfl (by decide) ?_
  refine ev_iload_n dX4_at_3 (pc' := 4) rfl rfl ?_
  refine ev_imul dX4_at_4 (pc' := 5) rfl ?_
  refine ev_iadd dX4_at_5 (pc' := 6) rfl ?_
  refine ev_iload_n dX4_at_6 (pc' := 7) rfl rfl ?_
  refine ev_iadd dX4_at_7 (pc' := 8) rfl ?_
  obtain rfl := h
  exact ev_ireturn dX4_at_8 rfl q
def X4_takesOf (p1 : Nat) (a2 : Int32) (a3 : Int32) (a4 : Int32) (mem : Mm) : Option Int32 := nm ((a3 * a4) / 100) (fun v1 => gd (vin (X4_at a2 0) 47) (if (mem p1 ((X4_at a2 0)).toNatClampNeg) = 1 then (some (v1 / 2)) else (if (mem p1 ((X4_at a2 0)).toNatClampNeg) = 3 then (some 0) else (if (mem p1 ((X4_at a2 0)).toNatClampNeg) = 4 then (gd (vin (X4_at a2 4) 47) (some (X4_least a3 (v1 + (mem p1 ((X4_at a2 4)).toNatClampNeg))))) else (if (mem p1 ((X4_at a2 0)).toNatClampNeg) = 5 then (gd (vin (X4_at a2 5) 47) (if (mem p1 ((X4_at a2 5)).toNatClampNeg) ≤ a3 then (some (X4_least a3 v1)) else (some (X4_least a3 (2 * v1))))) else (some v1))))))
set_option maxRecDepth 100000 in
set_option maxHeartbeats 8000000 in
theorem X4_takesOf_ca {S : Sc} {d : Nat} {p1 : Nat} {a2 : Int32} {a3 : Int32} {a4 : Int32} {mem : Mm} {rr : Int32} {Q : Po} (h_p1 : kdp p1 5) (l_p1 : ln p1 = 47) (h : X4_takesOf p1 a2 a3 a4 mem = some rr) (q : Q (some (.int rr)) mem) : Ca S (d + 2) 118 [.ref p1, .int a2, .int a3, .int a4] mem Q := by
  unfold X4_takesOf at h
  refine ca_in (by decide) mt_X4_takesOf (Nat.le_of_ble_eq_true rfl) ?_
  show Ev S (d + 1) 4 cX4_takesOf (some .int) 0 [some (.ref p1), some (.int a2), some (.int a3), some (.int a4), none] [] mem Q
  refine ev_iload_n dX4_takesOf_0 (pc' := 1) rfl rfl ?_
  refine ev_iload_n dX4_takesOf_1 (pc' := 2) rfl rfl ?_
  refine ev_imul dX4_takesOf_2 (pc' := 3) rfl ?_
  refine ev_bipush dX4_takesOf_3 (pc' := 5) (v := 100) rfl (by decide) ?_
  refine ev_idiv dX4_takesOf_5 (pc' := 6) rfl (by decide) ?_
  refine ev_topi (fun v1 e_v1 => ?_)
  replace h := nm_at e_v1 h
  refine ev_istore dX4_takesOf_6 (pc' := 8) (ls' := [some (.ref p1), some (.int a2), some (.int a3), some (.int a4), some (.int v1)]) rfl (Nat.le_of_ble_eq_true rfl) rfl ?_
  refine ev_aload_n dX4_takesOf_8 (pc' := 9) rfl rfl ?_
  refine ev_iload_n dX4_takesOf_9 (pc' := 10) rfl rfl ?_
  refine ev_iconst dX4_takesOf_10 (pc' := 11) (v := 0) rfl (by decide) ?_
  refine ev_invS dX4_takesOf_11 (pc' := 14) rfl sq_4_44 mt_X4_at rfl ⟨_, rfl, Nat.le_of_ble_eq_true rfl, Nat.le_of_ble_eq_true rfl, rfl, rfl⟩ ?_
  refine X4_at_ca  rfl ?_
  refine ev_r1 ?_
  obtain ⟨g2, h⟩ := gd_of h
  refine ev_ialdK (k0 := ((X4_at a2 0)).toNatClampNeg) dX4_takesOf_14 (pc' := 15) rfl h_p1 (by rw [l_p1]; exact g2) rfl ?_
  by_cases c3 : (mem p1 ((X4_at a2 0)).toNatClampNeg) = 1
  · replace h := it_t c3 h
    refine ev_tableIn dX4_takesOf_15 c3 (by decide) rfl (t := 48) rfl ?_
    refine ev_iload dX4_takesOf_48 (pc' := 50) rfl rfl ?_
    refine ev_iconst dX4_takesOf_50 (pc' := 51) (v := 2) rfl (by decide) ?_
    refine ev_idiv dX4_takesOf_51 (pc' := 52) rfl (by decide) ?_
    obtain rfl := rt1 h
    exact ev_ireturn dX4_takesOf_52 rfl q
  · replace h := it_f c3 h
    by_cases c4 : (mem p1 ((X4_at a2 0)).toNatClampNeg) = 3
    · replace h := it_t c4 h
      refine ev_tableIn dX4_takesOf_15 c4 (by decide) rfl (t := 53) rfl ?_
      refine ev_iconst dX4_takesOf_53 (pc' := 54) (v := 0) rfl (by decide) ?_
      obtain rfl := rt1 h
      exact ev_ireturn dX4_takesOf_54 rfl q
    · replace h := it_f c4 h
      by_cases c5 : (mem p1 ((X4_at a2 0)).toNatClampNeg) = 4
      · replace h := it_t c5 h
        refine ev_tableIn dX4_takesOf_15 c5 (by decide) rfl (t := 55) rfl ?_
        refine ev_iload_n dX4_takesOf_55 (pc' := 56) rfl rfl ?_
        refine ev_iload dX4_takesOf_56 (pc' := 58) rfl rfl ?_
        refine ev_aload_n dX4_takesOf_58 (pc' := 59) rfl rfl ?_
        refine ev_iload_n dX4_takesOf_59 (pc' := 60) rfl rfl ?_
        refine ev_iconst dX4_takesOf_60 (pc' := 61) (v := 4) rfl (by decide) ?_
        refine ev_invS dX4_takesOf_61 (pc' := 64) rfl sq_4_44 mt_X4_at rfl ⟨_, rfl, Nat.le_of_ble_eq_true rfl, Nat.le_of_ble_eq_true rfl, rfl, rfl⟩ ?_
        refine X4_at_ca  rfl ?_
        refine ev_r1 ?_
        obtain ⟨g6, h⟩ := gd_of h
        refine ev_ialdK (k0 := ((X4_at a2 4)).toNatClampNeg) dX4_takesOf_64 (pc' := 65) rfl h_p1 (by rw [l_p1]; exact g6) rfl ?_
        refine ev_iadd dX4_takesOf_65 (pc' := 66) rfl ?_
        refine ev_invS dX4_takesOf_66 (pc' := 69) rfl sq_4_48 mt_X4_least rfl ⟨_, rfl, Nat.le_of_ble_eq_true rfl, Nat.le_of_ble_eq_true rfl, rfl, rfl⟩ ?_
        refine X4_least_ca  rfl ?_
        refine ev_r1 ?_
        obtain rfl := rt1 h
        exact ev_ireturn dX4_takesOf_69 rfl q
      · replace h := it_f c5 h
        by_cases c7 : (mem p1 ((X4_at a2 0)).toNatClampNeg) = 5
        · replace h := it_t c7 h
          refine ev_tableIn dX4_takesOf_15 c7 (by decide) rfl (t := 70) rfl ?_
          refine ev_iload_n dX4_takesOf_70 (pc' := 71) rfl rfl ?_
          refine ev_aload_n dX4_takesOf_71 (pc' := 72) rfl rfl ?_
          refine ev_iload_n dX4_takesOf_72 (pc' := 73) rfl rfl ?_
          refine ev_iconst dX4_takesOf_73 (pc' := 74) (v := 5) rfl (by decide) ?_
          refine ev_invS dX4_takesOf_74 (pc' := 77) rfl sq_4_44 mt_X4_at rfl ⟨_, rfl, Nat.le_of_ble_eq_true rfl, Nat.le_of_ble_eq_true rfl, rfl, rfl⟩ ?_
          refine X4_at_ca  rfl ?_
          refine ev_r1 ?_
          obtain ⟨g8, h⟩ := gd_of h
          refine ev_ialdK (k0 := ((X4_at a2 5)).toNatClampNeg) dX4_takesOf_77 (pc' := 78) rfl h_p1 (by rw [l_p1]; exact g8) rfl ?_
          refine ev_iload_n dX4_takesOf_78 (pc' := 79) rfl rfl ?_
          refine ev_icmp_le dX4_takesOf_79 (pc' := 82) rfl (t := 89) rfl (fun c9 => ?_) (fun c9 => ?_)
          · replace h := it_t c9 h
            refine ev_iload dX4_takesOf_89 (pc' := 91) rfl rfl ?_
            refine ev_invS dX4_takesOf_91 (pc' := 94) rfl sq_4_48 mt_X4_least rfl ⟨_, rfl, Nat.le_of_ble_eq_true rfl, Nat.le_of_ble_eq_true rfl, rfl, rfl⟩ ?_
            refine X4_least_ca  rfl ?_
            refine ev_r1 ?_
            obtain rfl := rt1 h
            exact ev_ireturn dX4_takesOf_94 rfl q
          · replace h := it_f c9 h
            refine ev_iconst dX4_takesOf_82 (pc' := 83) (v := 2) rfl (by decide) ?_
            refine ev_iload dX4_takesOf_83 (pc' := 85) rfl rfl ?_
            refine ev_imul dX4_takesOf_85 (pc' := 86) rfl ?_
            refine ev_goto dX4_takesOf_86 (t := 91) rfl ?_
            refine ev_invS dX4_takesOf_91 (pc' := 94) rfl sq_4_48 mt_X4_least rfl ⟨_, rfl, Nat.le_of_ble_eq_true rfl, Nat.le_of_ble_eq_true rfl, rfl, rfl⟩ ?_
            refine X4_least_ca  rfl ?_
            refine ev_r1 ?_
            obtain rfl := rt1 h
            exact ev_ireturn dX4_takesOf_94 rfl q
        · replace h := it_f c7 h
          refine ev_tableDef dX4_takesOf_15 [1, 3, 4, 5] (by decide) (List.forall_mem_cons.mpr ⟨c3, List.forall_mem_cons.mpr ⟨c4, List.forall_mem_cons.mpr ⟨c5, List.forall_mem_cons.mpr ⟨c7, fun _ h => absurd h List.not_mem_nil⟩⟩⟩⟩) (t := 95) rfl ?_
          refine ev_iload dX4_takesOf_95 (pc' := 97) rfl rfl ?_
          obtain rfl := rt1 h
          exact ev_ireturn dX4_takesOf_97 rfl q
