def J6_bitCount_0f7a4 (a1 : Int32) : Int32 := nm (a1 - ((aiush a1 1) &&& 1431655765)) (fun v1 => nm ((v1 &&& 858993459) + ((aiush v1 2) &&& 858993459)) (fun v2 => nm ((v2 + (aiush v2 4)) &&& 252645135) (fun v3 => nm (v3 + (aiush v3 8)) (fun v4 => nm (v4 + (aiush v4 16)) (fun v5 => (v5 &&& 63))))))
set_option maxRecDepth 100000 in
set_option maxHeartbeats 8000000 in
theorem J6_bitCount_0f7a4_ca {S : Sc} {d : Nat} {a1 : Int32} {mem : Mm} {rr : Int32} {Q : Po}  (h : J6_bitCount_0f7a4 a1 = rr) (q : Q (some (.int rr)) mem) : Ca S (d + 1) 3 [.int a1] mem Q := by
  unfold J6_bitCount_0f7a4 at h
  refine ca_in (by decide) mt_J6_bitCount_0f7a4 (Nat.le_of_ble_eq_true rfl) ?_
  show Ev S (d + 0) 16 cJ6_bitCount_0f7a4 (some .int) 0 [some (.int a1)] [] mem Q
  refine ev_iload_n dJ6_bitCount_0f7a4_0 (pc' := 1) rfl rfl ?_
  refine ev_iload_n dJ6_bitCount_0f7a4_1 (pc' := 2) rfl rfl ?_
  refine ev_iconst dJ6_bitCount_0f7a4_2 (pc' := 3) (v := 1) rfl (by decide) ?_
  refine ev_iushr dJ6_bitCount_0f7a4_3 (pc' := 4) rfl ?_
  refine ev_ldc_w dJ6_bitCount_0f7a4_4 (pc' := 7) rfl iq_16_265 ?_
  refine ev_iand dJ6_bitCount_0f7a4_7 (pc' := 8) rfl ?_
  refine ev_isub dJ6_bitCount_0f7a4_8 (pc' := 9) rfl ?_
  refine ev_topi (fun v1 e_v1 => ?_)
  replace h := nm_at e_v1 h
  refine ev_istore_n dJ6_bitCount_0f7a4_9 (pc' := 10) (ls' := [some (.int v1)]) rfl (Nat.le_of_ble_eq_true rfl) rfl ?_
  refine ev_iload_n dJ6_bitCount_0f7a4_10 (pc' := 11) rfl rfl ?_
  refine ev_ldc_w dJ6_bitCount_0f7a4_11 (pc' := 14) rfl iq_16_266 ?_
  refine ev_iand dJ6_bitCount_0f7a4_14 (pc' := 15) rfl ?_
  refine ev_iload_n dJ6_bitCount_0f7a4_15 (pc' := 16) rfl rfl ?_
  refine ev_iconst dJ6_bitCount_0f7a4_16 (pc' := 17) (v := 2) rfl (by decide) ?_
  refine ev_iushr dJ6_bitCount_0f7a4_17 (pc' := 18) rfl ?_
  refine ev_ldc_w dJ6_bitCount_0f7a4_18 (pc' := 21) rfl iq_16_266 ?_
  refine ev_iand dJ6_bitCount_0f7a4_21 (pc' := 22) rfl ?_
  refine ev_iadd dJ6_bitCount_0f7a4_22 (pc' := 23) rfl ?_
  refine ev_topi (fun v2 e_v2 => ?_)
  replace h := nm_at e_v2 h
  refine ev_istore_n dJ6_bitCount_0f7a4_23 (pc' := 24) (ls' := [some (.int v2)]) rfl (Nat.le_of_ble_eq_true rfl) rfl ?_
  refine ev_iload_n dJ6_bitCount_0f7a4_24 (pc' := 25) rfl rfl ?_
  refine ev_iload_n dJ6_bitCount_0f7a4_25 (pc' := 26) rfl rfl ?_
  refine ev_iconst dJ6_bitCount_0f7a4_26 (pc' := 27) (v := 4) rfl (by decide) ?_
  refine ev_iushr dJ6_bitCount_0f7a4_27 (pc' := 28) rfl ?_
  refine ev_iadd dJ6_bitCount_0f7a4_28 (pc' := 29) rfl ?_
  refine ev_ldc_w dJ6_bitCount_0f7a4_29 (pc' := 32) rfl iq_16_267 ?_
  refine ev_iand dJ6_bitCount_0f7a4_32 (pc' := 33) rfl ?_
  refine ev_topi (fun v3 e_v3 => ?_)
  replace h := nm_at e_v3 h
  refine ev_istore_n dJ6_bitCount_0f7a4_33 (pc' := 34) (ls' := [some (.int v3)]) rfl (Nat.le_of_ble_eq_true rfl) rfl ?_
  refine ev_iload_n dJ6_bitCount_0f7a4_34 (pc' := 35) rfl rfl ?_
  refine ev_iload_n dJ6_bitCount_0f7a4_35 (pc' := 36) rfl rfl ?_
  refine ev_bipush dJ6_bitCount_0f7a4_36 (pc' := 38) (v := 8) rfl (by decide) ?_
  refine ev_iushr dJ6_bitCount_0f7a4_38 (pc' := 39) rfl ?_
  refine ev_iadd dJ6_bitCount_0f7a4_39 (pc' := 40) rfl ?_
  refine ev_topi (fun v4 e_v4 => ?_)
  replace h := nm_at e_v4 h
  refine ev_istore_n dJ6_bitCount_0f7a4_40 (pc' := 41) (ls' := [some (.int v4)]) rfl (Nat.le_of_ble_eq_true rfl) rfl ?_
  refine ev_iload_n dJ6_bitCount_0f7a4_41 (pc' := 42) rfl rfl ?_
  refine ev_iload_n dJ6_bitCount_0f7a4_42 (pc' := 43) rfl rfl ?_
  refine ev_bipush dJ6_bitCount_0f7a4_43 (pc' := 45) (v := 16) rfl (by decide) ?_
  refine ev_iushr dJ6_bitCount_0f7a4_45 (pc' := 46) rfl ?_
  refine ev_iadd dJ6_bitCount_0f7a4_46 (pc' := 47) rfl ?_
  refine ev_topi (fun v5 e_v5 => ?_)
  replace h := nm_at e_v5 h
  refine ev_istore_n dJ6_bitCount_0f7a4_47 (pc' := 48) (ls' := [some (.int v5)]) rfl (Nat.le_of_ble_eq_true rfl) rfl ?_
  refine ev_iload_n dJ6_bitCount_0f7a4_48 (pc' := 49) rfl rfl ?_
  refine ev_bipush dJ6_bitCount_0f7a4_49 (pc' := 51) (v := 63) rfl (by decide) ?_
  refine ev_iand dJ6_bitCount_0f7a4_51 (pc' := 52) rfl ?_
  obtain rfl := h
  exact ev_ireturn dJ6_bitCount_0f7a4_52 rfl q
def J0_coder_7d493 (o : Nat) : Int32 := 0
set_option maxRecDepth 100000 in
set_option maxHeartbeats 8000000 in
theorem J0_coder_7d493_ca {S : Sc} {d : Nat} {o : Nat} {mem : Mm} {rr : Int32} {Q : Po} (h_o : kd o = 7) (h : J0_coder_7d493 o = rr) (q : Q (some (.int rr)) mem) : Ca S (d + 1) 8 [.ref o] mem Q := by
  unfold J0_coder_7d493 at h
  refine ca_in (by decide) mt_J0_coder_7d493 (Nat.le_of_ble_eq_true rfl) ?_
  show Ev S (d + 0) 10 cJ0_coder_7d493 (some .byte) 0 [some (.ref o)] [] mem Q
  refine ev_getsC dJ0_coder_7d493_0 (pc' := 3) rfl rfl ?_
  refine ev_if_eq dJ0_coder_7d493_3 (pc' := 6) rfl (t := 13) rfl (fun q => absurd q (by decide)) (fun _ => ?_)
  refine ev_aload_n dJ0_coder_7d493_6 (pc' := 7) rfl rfl ?_
  refine ev_getC dJ0_coder_7d493_7 (pc' := 10) rfl rfl h_o ?_
  refine ev_goto dJ0_coder_7d493_10 (t := 14) rfl ?_
  obtain rfl := h
  exact ev_ireturn dJ0_coder_7d493_14 (aret_b (by decide)) q
def J0_length_8abf5 (o : Nat) : Int32 := ((Int32.ofNat (ablen (o + 10))) >>> ((J0_coder_7d493 o) &&& 31))
set_option maxRecDepth 100000 in
set_option maxHeartbeats 8000000 in
theorem J0_length_8abf5_ca {S : Sc} {d : Nat} {o : Nat} {mem : Mm} {rr : Int32} {Q : Po} (h_o : kd o = 7) (h : J0_length_8abf5 o = rr) (q : Q (some (.int rr)) mem) : Ca S (d + 2) 4 [.ref o] mem Q := by
  unfold J0_length_8abf5 at h
  refine ca_in (by decide) mt_J0_length_8abf5 (Nat.le_of_ble_eq_true rfl) ?_
  show Ev S (d + 1) 10 cJ0_length_8abf5 (some .int) 0 [some (.ref o)] [] mem Q
  refine ev_aload_n dJ0_length_8abf5_0 (pc' := 1) rfl rfl ?_
  refine ev_getV dJ0_length_8abf5_1 (pc' := 4) rfl rfl h_o ?_
  refine ev_alenB dJ0_length_8abf5_4 (pc' := 5) rfl (kd78 h_o) ?_
  refine ev_aload_n dJ0_length_8abf5_5 (pc' := 6) rfl rfl ?_
  refine ev_invV dJ0_length_8abf5_6 (pc' := 9) rfl sq_10_335 mt_J0_coder_7d493 rfl (arecv_tx (x := o) rfl rfl h_o) ⟨_, rfl, Nat.le_of_ble_eq_true rfl, Nat.le_of_ble_eq_true rfl, rfl, rfl⟩ ?_
  refine J0_coder_7d493_ca h_o rfl ?_
  refine ev_r1 ?_
  refine ev_ishr dJ0_length_8abf5_9 (pc' := 10) rfl ?_
  obtain rfl := h
  exact ev_ireturn dJ0_length_8abf5_10 rfl q
def J0_isLatin1_aae02 (o : Nat) : Int32 := 1
theorem J0_isLatin1_aae02_b (o : Nat) : J0_isLatin1_aae02 o = 0 ∨ J0_isLatin1_aae02 o = 1 := by
  unfold J0_isLatin1_aae02
  (repeat' split) <;> first | exact Or.inl rfl | exact Or.inr rfl
set_option maxRecDepth 100000 in
set_option maxHeartbeats 8000000 in
theorem J0_isLatin1_aae02_ca {S : Sc} {d : Nat} {o : Nat} {mem : Mm} {rr : Int32} {Q : Po} (h_o : kd o = 7) (h : J0_isLatin1_aae02 o = rr) (q : Q (some (.int rr)) mem) : Ca S (d + 1) 9 [.ref o] mem Q := by
  unfold J0_isLatin1_aae02 at h
  refine ca_in (by decide) mt_J0_isLatin1_aae02 (Nat.le_of_ble_eq_true rfl) ?_
  show Ev S (d + 0) 10 cJ0_isLatin1_aae02 (some .boolean) 0 [some (.ref o)] [] mem Q
  refine ev_getsC dJ0_isLatin1_aae02_0 (pc' := 3) rfl rfl ?_
  refine ev_if_eq dJ0_isLatin1_aae02_3 (pc' := 6) rfl (t := 17) rfl (fun q => absurd q (by decide)) (fun _ => ?_)
  refine ev_aload_n dJ0_isLatin1_aae02_6 (pc' := 7) rfl rfl ?_
  refine ev_getC dJ0_isLatin1_aae02_7 (pc' := 10) rfl rfl h_o ?_
  refine ev_if_ne dJ0_isLatin1_aae02_10 (pc' := 13) rfl (t := 17) rfl (fun q => absurd (by decide) q) (fun _ => ?_)
  refine ev_iconst dJ0_isLatin1_aae02_13 (pc' := 14) (v := 1) rfl (by decide) ?_
  refine ev_goto dJ0_isLatin1_aae02_14 (t := 18) rfl ?_
  obtain rfl := h
  exact ev_ireturn dJ0_isLatin1_aae02_18 (aret_z (by decide)) q
def J3_checkIndex_8e157 (a1 : Int32) (a2 : Int32) : Option Int32 := if a1 < 0 then (none) else (if a1 < a2 then (some a1) else (none))
set_option maxRecDepth 100000 in
set_option maxHeartbeats 8000000 in
theorem J3_checkIndex_8e157_ca {S : Sc} {d : Nat} {a1 : Int32} {a2 : Int32} {mem : Mm} {rr : Int32} {Q : Po}  (h : J3_checkIndex_8e157 a1 a2 = some rr) (q : Q (some (.int rr)) mem) : Ca S (d + 1) 15 [.int a1, .int a2, .ref 99] mem Q := by
  unfold J3_checkIndex_8e157 at h
  refine ca_in (by decide) mt_J3_checkIndex_8e157 (Nat.le_of_ble_eq_true rfl) ?_
  show Ev S (d + 0) 13 cJ3_checkIndex_8e157 (some .int) 0 [some (.int a1), some (.int a2), some (.ref 99)] [] mem Q
  refine ev_iload_n dJ3_checkIndex_8e157_0 (pc' := 1) rfl rfl ?_
  refine ev_if_lt dJ3_checkIndex_8e157_1 (pc' := 4) rfl (t := 9) rfl (fun c1 => ?_) (fun c1 => ?_)
  · replace h := it_t c1 h
    refine ev_aload_n dJ3_checkIndex_8e157_9 (pc' := 10) rfl rfl ?_
    refine ev_iload_n dJ3_checkIndex_8e157_10 (pc' := 11) rfl rfl ?_
    refine ev_iload_n dJ3_checkIndex_8e157_11 (pc' := 12) rfl rfl ?_
    cases h
  · replace h := it_f c1 h
    refine ev_iload_n dJ3_checkIndex_8e157_4 (pc' := 5) rfl rfl ?_
    refine ev_iload_n dJ3_checkIndex_8e157_5 (pc' := 6) rfl rfl ?_
    refine ev_icmp_lt dJ3_checkIndex_8e157_6 (pc' := 9) rfl (t := 16) rfl (fun c2 => ?_) (fun c2 => ?_)
    · replace h := it_t c2 h
      refine ev_iload_n dJ3_checkIndex_8e157_16 (pc' := 17) rfl rfl ?_
      obtain rfl := rt1 h
      exact ev_ireturn dJ3_checkIndex_8e157_17 rfl q
    · replace h := it_f c2 h
      refine ev_aload_n dJ3_checkIndex_8e157_9 (pc' := 10) rfl rfl ?_
      refine ev_iload_n dJ3_checkIndex_8e157_10 (pc' := 11) rfl rfl ?_
      refine ev_iload_n dJ3_checkIndex_8e157_11 (pc' := 12) rfl rfl ?_
      cases h
def J0_checkIndex_df160 (a1 : Int32) (a2 : Int32) : Option Unit := ob (J3_checkIndex_8e157 a1 a2) (fun y1 => some ())
set_option maxRecDepth 100000 in
set_option maxHeartbeats 8000000 in
theorem J0_checkIndex_df160_ca {S : Sc} {d : Nat} {a1 : Int32} {a2 : Int32} {mem : Mm}  {Q : Po}  (h : J0_checkIndex_df160 a1 a2 = some ()) (q : Q none mem) : Ca S (d + 2) 10 [.int a1, .int a2] mem Q := by
  unfold J0_checkIndex_df160 at h
  refine ca_in (by decide) mt_J0_checkIndex_df160 (Nat.le_of_ble_eq_true rfl) ?_
  show Ev S (d + 1) 10 cJ0_checkIndex_df160 none 0 [some (.int a1), some (.int a2)] [] mem Q
  refine ev_iload_n dJ0_checkIndex_df160_0 (pc' := 1) rfl rfl ?_
  refine ev_iload_n dJ0_checkIndex_df160_1 (pc' := 2) rfl rfl ?_
  refine ev_getsF dJ0_checkIndex_df160_2 (pc' := 5) rfl rfl ?_
  obtain ⟨y1, x_y1, h⟩ := ob_of h
  refine ev_invS dJ0_checkIndex_df160_5 (pc' := 8) rfl sq_10_1059 mt_J3_checkIndex_8e157 rfl ⟨_, rfl, Nat.le_of_ble_eq_true rfl, Nat.le_of_ble_eq_true rfl, rfl, rfl⟩ ?_
  refine J3_checkIndex_8e157_ca  x_y1 ?_
  refine ev_r1 ?_
  refine ev_pop dJ0_checkIndex_df160_8 (pc' := 9) rfl rfl ?_
  skip
  exact ev_return dJ0_checkIndex_df160_9 rfl q
def J1_charAt_3b067 (p1 : Nat) (a2 : Int32) : Option Int32 := ob (J0_checkIndex_df160 a2 (Int32.ofNat (ablen p1))) (fun y1 => gd (vin a2 (ablen p1)) (gd ((((((abyt p1 (a2).toNatClampNeg) &&& 255)).toUInt32 % 65536).toInt32).toUInt32.toUInt16.toUInt32.toInt32 = ((((abyt p1 (a2).toNatClampNeg) &&& 255)).toUInt32 % 65536).toInt32) (some ((((abyt p1 (a2).toNatClampNeg) &&& 255)).toUInt32 % 65536).toInt32)))
set_option maxRecDepth 100000 in
set_option maxHeartbeats 8000000 in
theorem J1_charAt_3b067_ca {S : Sc} {d : Nat} {p1 : Nat} {a2 : Int32} {mem : Mm} {rr : Int32} {Q : Po} (h_p1 : kd p1 = 8) (h : J1_charAt_3b067 p1 a2 = some rr) (q : Q (some (.int rr)) mem) : Ca S (d + 3) 11 [.ref p1, .int a2] mem Q := by
  unfold J1_charAt_3b067 at h
  refine ca_in (by decide) mt_J1_charAt_3b067 (Nat.le_of_ble_eq_true rfl) ?_
  show Ev S (d + 2) 11 cJ1_charAt_3b067 (some .char) 0 [some (.ref p1), some (.int a2)] [] mem Q
  refine ev_iload_n dJ1_charAt_3b067_0 (pc' := 1) rfl rfl ?_
  refine ev_aload_n dJ1_charAt_3b067_1 (pc' := 2) rfl rfl ?_
  refine ev_alenB dJ1_charAt_3b067_2 (pc' := 3) rfl h_p1 ?_
  obtain ⟨y1, x_y1, h⟩ := ob_of h
  refine ev_invS dJ1_charAt_3b067_3 (pc' := 6) rfl sq_11_9 mt_J0_checkIndex_df160 rfl ⟨_, rfl, Nat.le_of_ble_eq_true rfl, Nat.le_of_ble_eq_true rfl, rfl, rfl⟩ ?_
  refine J0_checkIndex_df160_ca  x_y1 ?_
  refine ev_r0 ?_
  refine ev_aload_n dJ1_charAt_3b067_6 (pc' := 7) rfl rfl ?_
  refine ev_iload_n dJ1_charAt_3b067_7 (pc' := 8) rfl rfl ?_
  obtain ⟨g2, h⟩ := gd_of h
  refine ev_bald dJ1_charAt_3b067_8 (pc' := 9) rfl h_p1 g2 ?_
  refine ev_sipush dJ1_charAt_3b067_9 (pc' := 12) (v := 255) rfl (by decide) ?_
  refine ev_iand dJ1_charAt_3b067_12 (pc' := 13) rfl ?_
  refine ev_i2c dJ1_charAt_3b067_13 (pc' := 14) rfl ?_
  obtain ⟨g3, h⟩ := gd_of h
  obtain rfl := rt1 h
  exact ev_ireturn dJ1_charAt_3b067_14 (aret_c g3) q
def J0_charAt_5068e (o : Nat) (a1 : Int32) : Option Int32 := if (J0_isLatin1_aae02 o) = 0 then (none) else (ob (J1_charAt_3b067 (o + 10) a1) (fun y2 => gd ((y2).toUInt32.toUInt16.toUInt32.toInt32 = y2) (some y2)))
set_option maxRecDepth 100000 in
set_option maxHeartbeats 8000000 in
theorem J0_charAt_5068e_ca {S : Sc} {d : Nat} {o : Nat} {a1 : Int32} {mem : Mm} {rr : Int32} {Q : Po} (h_o : kd o = 7) (h : J0_charAt_5068e o a1 = some rr) (q : Q (some (.int rr)) mem) : Ca S (d + 4) 5 [.ref o, .int a1] mem Q := by
  unfold J0_charAt_5068e at h
  refine ca_in (by decide) mt_J0_charAt_5068e (Nat.le_of_ble_eq_true rfl) ?_
  show Ev S (d + 3) 10 cJ0_charAt_5068e (some .char) 0 [some (.ref o), some (.int a1)] [] mem Q
  refine ev_aload_n dJ0_charAt_5068e_0 (pc' := 1) rfl rfl ?_
  refine ev_invV dJ0_charAt_5068e_1 (pc' := 4) rfl sq_10_492 mt_J0_isLatin1_aae02 rfl (arecv_tx (x := o) rfl rfl h_o) ⟨_, rfl, Nat.le_of_ble_eq_true rfl, Nat.le_of_ble_eq_true rfl, rfl, rfl⟩ ?_
  refine J0_isLatin1_aae02_ca h_o rfl ?_
  refine ev_r1 ?_
  refine ev_if_eq dJ0_charAt_5068e_4 (pc' := 7) rfl (t := 16) rfl (fun c1 => ?_) (fun c1 => ?_)
  · replace h := it_t c1 h
    refine ev_aload_n dJ0_charAt_5068e_16 (pc' := 17) rfl rfl ?_
    refine ev_getV dJ0_charAt_5068e_17 (pc' := 20) rfl rfl h_o ?_
    refine ev_iload_n dJ0_charAt_5068e_20 (pc' := 21) rfl rfl ?_
    cases h
  · replace h := it_f c1 h
    refine ev_aload_n dJ0_charAt_5068e_7 (pc' := 8) rfl rfl ?_
    refine ev_getV dJ0_charAt_5068e_8 (pc' := 11) rfl rfl h_o ?_
    refine ev_iload_n dJ0_charAt_5068e_11 (pc' := 12) rfl rfl ?_
    obtain ⟨y2, x_y2, h⟩ := ob_of h
    refine ev_invS dJ0_charAt_5068e_12 (pc' := 15) rfl sq_10_495 mt_J1_charAt_3b067 rfl ⟨_, rfl, Nat.le_of_ble_eq_true rfl, Nat.le_of_ble_eq_true rfl, rfl, rfl⟩ ?_
    refine J1_charAt_3b067_ca (kd78 h_o) x_y2 ?_
    refine ev_r1 ?_
    obtain ⟨g3, h⟩ := gd_of h
    obtain rfl := rt1 h
    exact ev_ireturn dJ0_charAt_5068e_15 (aret_c g3) q
def J1_canEncode_9a6ad (a1 : Int32) : Int32 := if a1 < 0 then (0) else (if 255 < a1 then (0) else (1))
theorem J1_canEncode_9a6ad_b (a1 : Int32) : J1_canEncode_9a6ad a1 = 0 ∨ J1_canEncode_9a6ad a1 = 1 := by
  unfold J1_canEncode_9a6ad
  (repeat' split) <;> first | exact Or.inl rfl | exact Or.inr rfl
set_option maxRecDepth 100000 in
set_option maxHeartbeats 8000000 in
theorem J1_canEncode_9a6ad_ca {S : Sc} {d : Nat} {a1 : Int32} {mem : Mm} {rr : Int32} {Q : Po}  (h : J1_canEncode_9a6ad a1 = rr) (q : Q (some (.int rr)) mem) : Ca S (d + 1) 12 [.int a1] mem Q := by
  unfold J1_canEncode_9a6ad at h
  refine ca_in (by decide) mt_J1_canEncode_9a6ad (Nat.le_of_ble_eq_true rfl) ?_
  show Ev S (d + 0) 11 cJ1_canEncode_9a6ad (some .boolean) 0 [some (.int a1)] [] mem Q
  refine ev_iload_n dJ1_canEncode_9a6ad_0 (pc' := 1) rfl rfl ?_
  refine ev_if_lt dJ1_canEncode_9a6ad_1 (pc' := 4) rfl (t := 15) rfl (fun c1 => ?_) (fun c1 => ?_)
  · replace h := it_t c1 h
    refine ev_iconst dJ1_canEncode_9a6ad_15 (pc' := 16) (v := 0) rfl (by decide) ?_
    obtain rfl := h
    exact ev_ireturn dJ1_canEncode_9a6ad_16 (aret_z (by decide)) q
  · replace h := it_f c1 h
    refine ev_iload_n dJ1_canEncode_9a6ad_4 (pc' := 5) rfl rfl ?_
    refine ev_sipush dJ1_canEncode_9a6ad_5 (pc' := 8) (v := 255) rfl (by decide) ?_
    refine ev_icmp_gt dJ1_canEncode_9a6ad_8 (pc' := 11) rfl (t := 15) rfl (fun c2 => ?_) (fun c2 => ?_)
    · replace h := it_t c2 h
      refine ev_iconst dJ1_canEncode_9a6ad_15 (pc' := 16) (v := 0) rfl (by decide) ?_
      obtain rfl := h
      exact ev_ireturn dJ1_canEncode_9a6ad_16 (aret_z (by decide)) q
    · replace h := it_f c2 h
      refine ev_iconst dJ1_canEncode_9a6ad_11 (pc' := 12) (v := 1) rfl (by decide) ?_
      refine ev_goto dJ1_canEncode_9a6ad_12 (t := 16) rfl ?_
      obtain rfl := h
      exact ev_ireturn dJ1_canEncode_9a6ad_16 (aret_z (by decide)) q
def J1_indexOfChar_4cfef_L7 (p1 : Nat) (a2 : Int32) (a3 : Int32) : Nat → Int32 → Option Int32
  | 0, _ => none
  | n + 1, w4 => if a2 ≤ w4 then (some (-1)) else (gd (vin w4 (ablen p1)) (if (abyt p1 (w4).toNatClampNeg) = a3 then (some w4) else (nm (w4 + 1) (fun v9 => J1_indexOfChar_4cfef_L7 p1 a2 a3 n v9))))
def J1_indexOfChar_4cfef (p1 : Nat) (a2 : Int32) (a3 : Int32) (a4 : Int32) : Option Int32 := nm (a2).toInt8.toInt32 (fun v1 => J1_indexOfChar_4cfef_L7 p1 a4 v1 LF a3)
set_option maxRecDepth 100000 in
set_option maxHeartbeats 8000000 in
theorem J1_indexOfChar_4cfef_L7_ev {S : Sc} {d : Nat} {p1 : Nat} {a2 : Int32} {a3 : Int32} {m5 : Mm} {rr : Int32} {Q : Po} (h_p1 : kd p1 = 8) (q : Q (some (.int rr)) m5) : ∀ (n : Nat) (w4 : Int32), J1_indexOfChar_4cfef_L7 p1 a2 a3 n w4 = some rr → Ev S (d + 0) 11 cJ1_indexOfChar_4cfef (some .int) 7 [some (.ref p1), none, none, some (.int a2), some (.int a3), some (.int w4)] [] m5 Q := by
  intro n
  induction n with
  | zero => intro w4 h; cases h
  | succ n ih =>
    intro w4 h
    unfold J1_indexOfChar_4cfef_L7 at h
    refine ev_iload dJ1_indexOfChar_4cfef_7 (pc' := 9) rfl rfl ?_
    refine ev_iload_n dJ1_indexOfChar_4cfef_9 (pc' := 10) rfl rfl ?_
    refine ev_icmp_ge dJ1_indexOfChar_4cfef_10 (pc' := 13) rfl (t := 31) rfl (fun c6 => ?_) (fun c6 => ?_)
    · replace h := it_t c6 h
      refine ev_iconst dJ1_indexOfChar_4cfef_31 (pc' := 32) (v := (-1)) rfl (by decide) ?_
      obtain rfl := rt1 h
      exact ev_ireturn dJ1_indexOfChar_4cfef_32 rfl q
    · replace h := it_f c6 h
      refine ev_aload_n dJ1_indexOfChar_4cfef_13 (pc' := 14) rfl rfl ?_
      refine ev_iload dJ1_indexOfChar_4cfef_14 (pc' := 16) rfl rfl ?_
      obtain ⟨g7, h⟩ := gd_of h
      refine ev_bald dJ1_indexOfChar_4cfef_16 (pc' := 17) rfl h_p1 g7 ?_
      refine ev_iload dJ1_indexOfChar_4cfef_17 (pc' := 19) rfl rfl ?_
      refine ev_icmp_ne dJ1_indexOfChar_4cfef_19 (pc' := 22) rfl (t := 25) rfl (fun c8 => ?_) (fun c8 => ?_)
      · replace h := it_f c8 h
        obtain ⟨v9, e_v9⟩ : ∃ y : Int32, y = (w4 + 1) := ⟨_, rfl⟩
        replace h := nm_at e_v9 h
        refine ev_iinc dJ1_indexOfChar_4cfef_25 (pc' := 28) (v := v9) (ls' := [some (.ref p1), none, none, some (.int a2), some (.int a3), some (.int v9)]) rfl rfl (by rw [e_v9]; rfl) (Nat.le_of_ble_eq_true rfl) rfl ?_
        refine ev_goto dJ1_indexOfChar_4cfef_28 (t := 7) rfl ?_
        exact ev_sub (lsub_c (lsub_c (lsub_c (lsub_c (lsub_c (lsub_c lsub_nil)))))) (ih v9 h)
      · replace h := it_t c8 h
        refine ev_iload dJ1_indexOfChar_4cfef_22 (pc' := 24) rfl rfl ?_
        obtain rfl := rt1 h
        exact ev_ireturn dJ1_indexOfChar_4cfef_24 rfl q
set_option maxRecDepth 100000 in
set_option maxHeartbeats 8000000 in
theorem J1_indexOfChar_4cfef_ca {S : Sc} {d : Nat} {p1 : Nat} {a2 : Int32} {a3 : Int32} {a4 : Int32} {mem : Mm} {rr : Int32} {Q : Po} (h_p1 : kd p1 = 8) (h : J1_indexOfChar_4cfef p1 a2 a3 a4 = some rr) (q : Q (some (.int rr)) mem) : Ca S (d + 1) 14 [.ref p1, .int a2, .int a3, .int a4] mem Q := by
  unfold J1_indexOfChar_4cfef at h
  refine ca_in (by decide) mt_J1_indexOfChar_4cfef (Nat.le_of_ble_eq_true rfl) ?_
  show Ev S (d + 0) 11 cJ1_indexOfChar_4cfef (some .int) 0 [some (.ref p1), some (.int a2), some (.int a3), some (.int a4), none, none] [] mem Q
  refine ev_iload_n dJ1_indexOfChar_4cfef_0 (pc' := 1) rfl rfl ?_
  refine ev_i2b dJ1_indexOfChar_4cfef_1 (pc' := 2) rfl ?_
  refine ev_topi (fun v1 e_v1 => ?_)
  replace h := nm_at e_v1 h
  refine ev_istore dJ1_indexOfChar_4cfef_2 (pc' := 4) (ls' := [some (.ref p1), some (.int a2), some (.int a3), some (.int a4), some (.int v1), none]) rfl (Nat.le_of_ble_eq_true rfl) rfl ?_
  refine ev_iload_n dJ1_indexOfChar_4cfef_4 (pc' := 5) rfl rfl ?_
  refine ev_istore dJ1_indexOfChar_4cfef_5 (pc' := 7) (ls' := [some (.ref p1), some (.int a2), some (.int a3), some (.int a4), some (.int v1), some (.int a3)]) rfl (Nat.le_of_ble_eq_true rfl) rfl ?_
  exact ev_sub (lsub_c (lsub_n (lsub_n (lsub_c (lsub_c (lsub_c lsub_nil)))))) (J1_indexOfChar_4cfef_L7_ev h_p1 q LF a3 h)
def J1_indexOf_4cfef (p1 : Nat) (a2 : Int32) (a3 : Int32) (a4 : Int32) : Option Int32 := if (J1_canEncode_9a6ad a2) = 0 then (some (-1)) else (nm (mmax a3 0) (fun v2 => nm (mmin a4 (Int32.ofNat (ablen p1))) (fun v3 => if v2 < v3 then (ob (J1_indexOfChar_4cfef p1 a2 v2 v3) (fun y5 => some y5)) else (some (-1)))))
set_option maxRecDepth 100000 in
set_option maxHeartbeats 8000000 in
theorem J1_indexOf_4cfef_ca {S : Sc} {d : Nat} {p1 : Nat} {a2 : Int32} {a3 : Int32} {a4 : Int32} {mem : Mm} {rr : Int32} {Q : Po} (h_p1 : kd p1 = 8) (h : J1_indexOf_4cfef p1 a2 a3 a4 = some rr) (q : Q (some (.int rr)) mem) : Ca S (d + 2) 13 [.ref p1, .int a2, .int a3, .int a4] mem Q := by
  unfold J1_indexOf_4cfef at h
  refine ca_in (by decide) mt_J1_indexOf_4cfef (Nat.le_of_ble_eq_true rfl) ?_
  show Ev S (d + 1) 11 cJ1_indexOf_4cfef (some .int) 0 [some (.ref p1), some (.int a2), some (.int a3), some (.int a4)] [] mem Q
  refine ev_iload_n dJ1_indexOf_4cfef_0 (pc' := 1) rfl rfl ?_
  refine ev_invS dJ1_indexOf_4cfef_1 (pc' := 4) rfl sq_11_88 mt_J1_canEncode_9a6ad rfl ⟨_, rfl, Nat.le_of_ble_eq_true rfl, Nat.le_of_ble_eq_true rfl, rfl, rfl⟩ ?_
  refine J1_canEncode_9a6ad_ca  rfl ?_
  refine ev_r1 ?_
  refine ev_if_ne dJ1_indexOf_4cfef_4 (pc' := 7) rfl (t := 9) rfl (fun c1 => ?_) (fun c1 => ?_)
  · replace h := it_f c1 h
    refine ev_iload_n dJ1_indexOf_4cfef_9 (pc' := 10) rfl rfl ?_
    refine ev_iconst dJ1_indexOf_4cfef_10 (pc' := 11) (v := 0) rfl (by decide) ?_
    refine ev_invS dJ1_indexOf_4cfef_11 (pc' := 14) rfl sq_11_92 mt_J9_max_7cf53 rfl ⟨_, rfl, Nat.le_of_ble_eq_true rfl, Nat.le_of_ble_eq_true rfl, rfl, rfl⟩ ?_
    refine ca_math (by decide) (r := some (.int (mmax a3 0))) rfl ?_
    refine ev_r1 ?_
    refine ev_topi (fun v2 e_v2 => ?_)
    replace h := nm_at e_v2 h
    refine ev_istore_n dJ1_indexOf_4cfef_14 (pc' := 15) (ls' := [some (.ref p1), some (.int a2), some (.int v2), some (.int a4)]) rfl (Nat.le_of_ble_eq_true rfl) rfl ?_
    refine ev_iload_n dJ1_indexOf_4cfef_15 (pc' := 16) rfl rfl ?_
    refine ev_aload_n dJ1_indexOf_4cfef_16 (pc' := 17) rfl rfl ?_
    refine ev_alenB dJ1_indexOf_4cfef_17 (pc' := 18) rfl h_p1 ?_
    refine ev_invS dJ1_indexOf_4cfef_18 (pc' := 21) rfl sq_11_38 mt_J9_min_7cf53 rfl ⟨_, rfl, Nat.le_of_ble_eq_true rfl, Nat.le_of_ble_eq_true rfl, rfl, rfl⟩ ?_
    refine ca_math (by decide) (r := some (.int (mmin a4 (Int32.ofNat (ablen p1))))) rfl ?_
    refine ev_r1 ?_
    refine ev_topi (fun v3 e_v3 => ?_)
    replace h := nm_at e_v3 h
    refine ev_istore_n dJ1_indexOf_4cfef_21 (pc' := 22) (ls' := [some (.ref p1), some (.int a2), some (.int v2), some (.int v3)]) rfl (Nat.le_of_ble_eq_true rfl) rfl ?_
    refine ev_iload_n dJ1_indexOf_4cfef_22 (pc' := 23) rfl rfl ?_
    refine ev_iload_n dJ1_indexOf_4cfef_23 (pc' := 24) rfl rfl ?_
    refine ev_icmp_lt dJ1_indexOf_4cfef_24 (pc' := 27) rfl (t := 29) rfl (fun c4 => ?_) (fun c4 => ?_)
    · replace h := it_t c4 h
      refine ev_aload_n dJ1_indexOf_4cfef_29 (pc' := 30) rfl rfl ?_
      refine ev_iload_n dJ1_indexOf_4cfef_30 (pc' := 31) rfl rfl ?_
      refine ev_iload_n dJ1_indexOf_4cfef_31 (pc' := 32) rfl rfl ?_
      refine ev_iload_n dJ1_indexOf_4cfef_32 (pc' := 33) rfl rfl ?_
      obtain ⟨y5, x_y5, h⟩ := ob_of h
      refine ev_invS dJ1_indexOf_4cfef_33 (pc' := 36) rfl sq_11_95 mt_J1_indexOfChar_4cfef rfl ⟨_, rfl, Nat.le_of_ble_eq_true rfl, Nat.le_of_ble_eq_true rfl, rfl, rfl⟩ ?_
      refine J1_indexOfChar_4cfef_ca h_p1 x_y5 ?_
      refine ev_r1 ?_
      obtain rfl := rt1 h
      exact ev_ireturn dJ1_indexOf_4cfef_36 rfl q
    · replace h := it_f c4 h
      refine ev_iconst dJ1_indexOf_4cfef_27 (pc' := 28) (v := (-1)) rfl (by decide) ?_
      obtain rfl := rt1 h
      exact ev_ireturn dJ1_indexOf_4cfef_28 rfl q
  · replace h := it_t c1 h
    refine ev_iconst dJ1_indexOf_4cfef_7 (pc' := 8) (v := (-1)) rfl (by decide) ?_
    obtain rfl := rt1 h
    exact ev_ireturn dJ1_indexOf_4cfef_8 rfl q
def J0_indexOf_7cf53 (o : Nat) (a1 : Int32) (a2 : Int32) : Option Int32 := if (J0_isLatin1_aae02 o) = 0 then (none) else (ob (J1_indexOf_4cfef (o + 10) a1 a2 (J0_length_8abf5 o)) (fun y2 => some y2))
set_option maxRecDepth 100000 in
set_option maxHeartbeats 8000000 in
theorem J0_indexOf_7cf53_ca {S : Sc} {d : Nat} {o : Nat} {a1 : Int32} {a2 : Int32} {mem : Mm} {rr : Int32} {Q : Po} (h_o : kd o = 7) (h : J0_indexOf_7cf53 o a1 a2 = some rr) (q : Q (some (.int rr)) mem) : Ca S (d + 3) 7 [.ref o, .int a1, .int a2] mem Q := by
  unfold J0_indexOf_7cf53 at h
  refine ca_in (by decide) mt_J0_indexOf_7cf53 (Nat.le_of_ble_eq_true rfl) ?_
  show Ev S (d + 2) 10 cJ0_indexOf_7cf53 (some .int) 0 [some (.ref o), some (.int a1), some (.int a2)] [] mem Q
  refine ev_aload_n dJ0_indexOf_7cf53_0 (pc' := 1) rfl rfl ?_
  refine ev_invV dJ0_indexOf_7cf53_1 (pc' := 4) rfl sq_10_492 mt_J0_isLatin1_aae02 rfl (arecv_tx (x := o) rfl rfl h_o) ⟨_, rfl, Nat.le_of_ble_eq_true rfl, Nat.le_of_ble_eq_true rfl, rfl, rfl⟩ ?_
  refine J0_isLatin1_aae02_ca h_o rfl ?_
  refine ev_r1 ?_
  refine ev_if_eq dJ0_indexOf_7cf53_4 (pc' := 7) rfl (t := 23) rfl (fun c1 => ?_) (fun c1 => ?_)
  · replace h := it_t c1 h
    refine ev_aload_n dJ0_indexOf_7cf53_23 (pc' := 24) rfl rfl ?_
    refine ev_getV dJ0_indexOf_7cf53_24 (pc' := 27) rfl rfl h_o ?_
    refine ev_iload_n dJ0_indexOf_7cf53_27 (pc' := 28) rfl rfl ?_
    refine ev_iload_n dJ0_indexOf_7cf53_28 (pc' := 29) rfl rfl ?_
    refine ev_aload_n dJ0_indexOf_7cf53_29 (pc' := 30) rfl rfl ?_
    refine ev_invV dJ0_indexOf_7cf53_30 (pc' := 33) rfl sq_10_505 mt_J0_length_8abf5 rfl (arecv_tx (x := o) rfl rfl h_o) ⟨_, rfl, Nat.le_of_ble_eq_true rfl, Nat.le_of_ble_eq_true rfl, rfl, rfl⟩ ?_
    refine J0_length_8abf5_ca h_o rfl ?_
    refine ev_r1 ?_
    cases h
  · replace h := it_f c1 h
    refine ev_aload_n dJ0_indexOf_7cf53_7 (pc' := 8) rfl rfl ?_
    refine ev_getV dJ0_indexOf_7cf53_8 (pc' := 11) rfl rfl h_o ?_
    refine ev_iload_n dJ0_indexOf_7cf53_11 (pc' := 12) rfl rfl ?_
    refine ev_iload_n dJ0_indexOf_7cf53_12 (pc' := 13) rfl rfl ?_
    refine ev_aload_n dJ0_indexOf_7cf53_13 (pc' := 14) rfl rfl ?_
    refine ev_invV dJ0_indexOf_7cf53_14 (pc' := 17) rfl sq_10_505 mt_J0_length_8abf5 rfl (arecv_tx (x := o) rfl rfl h_o) ⟨_, rfl, Nat.le_of_ble_eq_true rfl, Nat.le_of_ble_eq_true rfl, rfl, rfl⟩ ?_
    refine J0_length_8abf5_ca h_o rfl ?_
    refine ev_r1 ?_
    obtain ⟨y2, x_y2, h⟩ := ob_of h
    refine ev_invS dJ0_indexOf_7cf53_17 (pc' := 20) rfl sq_10_637 mt_J1_indexOf_4cfef rfl ⟨_, rfl, Nat.le_of_ble_eq_true rfl, Nat.le_of_ble_eq_true rfl, rfl, rfl⟩ ?_
    refine J1_indexOf_4cfef_ca (kd78 h_o) x_y2 ?_
    refine ev_r1 ?_
    refine ev_goto dJ0_indexOf_7cf53_20 (t := 36) rfl ?_
    obtain rfl := rt1 h
    exact ev_ireturn dJ0_indexOf_7cf53_36 rfl q
def J0_indexOf_0f7a4 (o : Nat) (a1 : Int32) : Option Int32 := ob (J0_indexOf_7cf53 o a1 0) (fun y1 => some y1)
set_option maxRecDepth 100000 in
set_option maxHeartbeats 8000000 in
theorem J0_indexOf_0f7a4_ca {S : Sc} {d : Nat} {o : Nat} {a1 : Int32} {mem : Mm} {rr : Int32} {Q : Po} (h_o : kd o = 7) (h : J0_indexOf_0f7a4 o a1 = some rr) (q : Q (some (.int rr)) mem) : Ca S (d + 4) 6 [.ref o, .int a1] mem Q := by
  unfold J0_indexOf_0f7a4 at h
  refine ca_in (by decide) mt_J0_indexOf_0f7a4 (Nat.le_of_ble_eq_true rfl) ?_
  show Ev S (d + 3) 10 cJ0_indexOf_0f7a4 (some .int) 0 [some (.ref o), some (.int a1)] [] mem Q
  refine ev_aload_n dJ0_indexOf_0f7a4_0 (pc' := 1) rfl rfl ?_
  refine ev_iload_n dJ0_indexOf_0f7a4_1 (pc' := 2) rfl rfl ?_
  refine ev_iconst dJ0_indexOf_0f7a4_2 (pc' := 3) (v := 0) rfl (by decide) ?_
  obtain ⟨y1, x_y1, h⟩ := ob_of h
  refine ev_invV dJ0_indexOf_0f7a4_3 (pc' := 6) rfl sq_10_633 mt_J0_indexOf_7cf53 rfl (arecv_tx (x := o) rfl rfl h_o) ⟨_, rfl, Nat.le_of_ble_eq_true rfl, Nat.le_of_ble_eq_true rfl, rfl, rfl⟩ ?_
  refine J0_indexOf_7cf53_ca h_o x_y1 ?_
  refine ev_r1 ?_
  obtain rfl := rt1 h
  exact ev_ireturn dJ0_indexOf_0f7a4_6 rfl q
def X0_become (o : Nat) (p1 : Nat) (mem : Mm) : Mm := nm (mset mem o 0 (mem p1 0)) (fun m1 => nm (mset m1 o 1 (m1 p1 1)) (fun m2 => nm (mset m2 o 2 (m2 p1 2)) (fun m3 => nm (mset m3 o 3 (m3 p1 3)) (fun m4 => nm (mset m4 o 4 (m4 p1 4)) (fun m5 => nm (mset m5 o 5 (m5 p1 5)) (fun m6 => m6))))))
set_option maxRecDepth 100000 in
set_option maxHeartbeats 8000000 in
theorem X0_become_ca {S : Sc} {d : Nat} {o : Nat} {p1 : Nat} {mem : Mm} {mr : Mm} {Q : Po} (h_o : kdp o 0) (h_p1 : kdp p1 0) (h : X0_become o p1 mem = mr) (q : Q none mr) : Ca S (d + 1) 16 [.ref o, .ref p1] mem Q := by
  unfold X0_become at h
  refine ca_in (by decide) mt_X0_become (Nat.le_of_ble_eq_true rfl) ?_
  show Ev S (d + 0) 0 cX0_become none 0 [some (.ref o), some (.ref p1)] [] mem Q
  refine ev_aload_n dX0_become_0 (pc' := 1) rfl rfl ?_
  refine ev_aload_n dX0_become_1 (pc' := 2) rfl rfl ?_
  refine ev_get dX0_become_2 (pc' := 5) rfl fq_0_9 h_p1 rfl ?_
  refine ev_put dX0_become_5 (pc' := 8) rfl fq_0_9 h_o rfl (Or.inl (by decide)) ?_
  refine ev_topm (fun m1 e_m1 => ?_)
  replace h := nm_at e_m1 h
  refine ev_aload_n dX0_become_8 (pc' := 9) rfl rfl ?_
  refine ev_aload_n dX0_become_9 (pc' := 10) rfl rfl ?_
  refine ev_get dX0_become_10 (pc' := 13) rfl fq_0_15 h_p1 rfl ?_
  refine ev_put dX0_become_13 (pc' := 16) rfl fq_0_15 h_o rfl (Or.inl (by decide)) ?_
  refine ev_topm (fun m2 e_m2 => ?_)
  replace h := nm_at e_m2 h
  refine ev_aload_n dX0_become_16 (pc' := 17) rfl rfl ?_
  refine ev_aload_n dX0_become_17 (pc' := 18) rfl rfl ?_
  refine ev_get dX0_become_18 (pc' := 21) rfl fq_0_18 h_p1 rfl ?_
  refine ev_put dX0_become_21 (pc' := 24) rfl fq_0_18 h_o rfl (Or.inl (by decide)) ?_
  refine ev_topm (fun m3 e_m3 => ?_)
  replace h := nm_at e_m3 h
  refine ev_aload_n dX0_become_24 (pc' := 25) rfl rfl ?_
  refine ev_aload_n dX0_become_25 (pc' := 26) rfl rfl ?_
  refine ev_get dX0_become_26 (pc' := 29) rfl fq_0_21 h_p1 rfl ?_
  refine ev_put dX0_become_29 (pc' := 32) rfl fq_0_21 h_o rfl (Or.inl (by decide)) ?_
  refine ev_topm (fun m4 e_m4 => ?_)
  replace h := nm_at e_m4 h
  refine ev_aload_n dX0_become_32 (pc' := 33) rfl rfl ?_
  refine ev_aload_n dX0_become_33 (pc' := 34) rfl rfl ?_
  refine ev_get dX0_become_34 (pc' := 37) rfl fq_0_24 h_p1 rfl ?_
  refine ev_put dX0_become_37 (pc' := 40) rfl fq_0_24 h_o rfl (Or.inl (by decide)) ?_
  refine ev_topm (fun m5 e_m5 => ?_)
  replace h := nm_at e_m5 h
  refine ev_aload_n dX0_become_40 (pc' := 41) rfl rfl ?_
  refine ev_aload_n dX0_become_41 (pc' := 42) rfl rfl ?_
  refine ev_get dX0_become_42 (pc' := 45) rfl fq_0_27 h_p1 rfl ?_
  refine ev_put dX0_become_45 (pc' := 48) rfl fq_0_27 h_o rfl (Or.inl (by decide)) ?_
  refine ev_topm (fun m6 e_m6 => ?_)
  replace h := nm_at e_m6 h
  obtain rfl := h
  exact ev_return dX0_become_48 rfl q
def X0_angelsPart (o : Nat) (a1 : Int32) (a2 : Int32) (mem : Mm) : Int32 := nm ((a1 * a2) / 100) (fun v1 => if (mem o 0) = 1 then ((v1 / 2)) else (if (mem o 0) = 3 then (0) else (if (mem o 0) = 4 then ((mmin (v1 + (mem o 4)) a1)) else (if (mem o 0) = 5 then (if (mem o 5) ≤ a1 then ((mmin v1 a1)) else ((mmin (2 * v1) a1))) else (v1)))))
set_option maxRecDepth 100000 in
set_option maxHeartbeats 8000000 in
theorem X0_angelsPart_ca {S : Sc} {d : Nat} {o : Nat} {a1 : Int32} {a2 : Int32} {mem : Mm} {rr : Int32} {Q : Po} (h_o : kdp o 0) (h : X0_angelsPart o a1 a2 mem = rr) (q : Q (some (.int rr)) mem) : Ca S (d + 2) 17 [.ref o, .int a1, .int a2] mem Q := by
  unfold X0_angelsPart at h
  refine ca_in (by decide) mt_X0_angelsPart (Nat.le_of_ble_eq_true rfl) ?_
  show Ev S (d + 1) 0 cX0_angelsPart (some .int) 0 [some (.ref o), some (.int a1), some (.int a2), none] [] mem Q
  refine ev_iload_n dX0_angelsPart_0 (pc' := 1) rfl rfl ?_
  refine ev_iload_n dX0_angelsPart_1 (pc' := 2) rfl rfl ?_
  refine ev_imul dX0_angelsPart_2 (pc' := 3) rfl ?_
  refine ev_bipush dX0_angelsPart_3 (pc' := 5) (v := 100) rfl (by decide) ?_
  refine ev_idiv dX0_angelsPart_5 (pc' := 6) rfl (by decide) ?_
  refine ev_topi (fun v1 e_v1 => ?_)
  replace h := nm_at e_v1 h
  refine ev_istore_n dX0_angelsPart_6 (pc' := 7) (ls' := [some (.ref o), some (.int a1), some (.int a2), some (.int v1)]) rfl (Nat.le_of_ble_eq_true rfl) rfl ?_
  refine ev_aload_n dX0_angelsPart_7 (pc' := 8) rfl rfl ?_
  refine ev_get dX0_angelsPart_8 (pc' := 11) rfl fq_0_9 h_o rfl ?_
  by_cases c2 : (mem o 0) = 1
  · replace h := it_t c2 h
    refine ev_tableIn dX0_angelsPart_11 c2 (by decide) rfl (t := 44) rfl ?_
    refine ev_iload_n dX0_angelsPart_44 (pc' := 45) rfl rfl ?_
    refine ev_iconst dX0_angelsPart_45 (pc' := 46) (v := 2) rfl (by decide) ?_
    refine ev_idiv dX0_angelsPart_46 (pc' := 47) rfl (by decide) ?_
    obtain rfl := h
    exact ev_ireturn dX0_angelsPart_47 rfl q
  · replace h := it_f c2 h
    by_cases c3 : (mem o 0) = 3
    · replace h := it_t c3 h
      refine ev_tableIn dX0_angelsPart_11 c3 (by decide) rfl (t := 48) rfl ?_
      refine ev_iconst dX0_angelsPart_48 (pc' := 49) (v := 0) rfl (by decide) ?_
      obtain rfl := h
      exact ev_ireturn dX0_angelsPart_49 rfl q
    · replace h := it_f c3 h
      by_cases c4 : (mem o 0) = 4
      · replace h := it_t c4 h
        refine ev_tableIn dX0_angelsPart_11 c4 (by decide) rfl (t := 50) rfl ?_
        refine ev_iload_n dX0_angelsPart_50 (pc' := 51) rfl rfl ?_
        refine ev_aload_n dX0_angelsPart_51 (pc' := 52) rfl rfl ?_
        refine ev_get dX0_angelsPart_52 (pc' := 55) rfl fq_0_24 h_o rfl ?_
        refine ev_iadd dX0_angelsPart_55 (pc' := 56) rfl ?_
        refine ev_iload_n dX0_angelsPart_56 (pc' := 57) rfl rfl ?_
        refine ev_invS dX0_angelsPart_57 (pc' := 60) rfl sq_0_30 mt_J9_min_7cf53 rfl ⟨_, rfl, Nat.le_of_ble_eq_true rfl, Nat.le_of_ble_eq_true rfl, rfl, rfl⟩ ?_
        refine ca_math (by decide) (r := some (.int (mmin (v1 + (mem o 4)) a1))) rfl ?_
        refine ev_r1 ?_
        obtain rfl := h
        exact ev_ireturn dX0_angelsPart_60 rfl q
      · replace h := it_f c4 h
        by_cases c5 : (mem o 0) = 5
        · replace h := it_t c5 h
          refine ev_tableIn dX0_angelsPart_11 c5 (by decide) rfl (t := 61) rfl ?_
          refine ev_aload_n dX0_angelsPart_61 (pc' := 62) rfl rfl ?_
          refine ev_get dX0_angelsPart_62 (pc' := 65) rfl fq_0_27 h_o rfl ?_
          refine ev_iload_n dX0_angelsPart_65 (pc' := 66) rfl rfl ?_
          refine ev_icmp_le dX0_angelsPart_66 (pc' := 69) rfl (t := 75) rfl (fun c6 => ?_) (fun c6 => ?_)
          · replace h := it_t c6 h
            refine ev_iload_n dX0_angelsPart_75 (pc' := 76) rfl rfl ?_
            refine ev_iload_n dX0_angelsPart_76 (pc' := 77) rfl rfl ?_
            refine ev_invS dX0_angelsPart_77 (pc' := 80) rfl sq_0_30 mt_J9_min_7cf53 rfl ⟨_, rfl, Nat.le_of_ble_eq_true rfl, Nat.le_of_ble_eq_true rfl, rfl, rfl⟩ ?_
            refine ca_math (by decide) (r := some (.int (mmin v1 a1))) rfl ?_
            refine ev_r1 ?_
            obtain rfl := h
            exact ev_ireturn dX0_angelsPart_80 rfl q
          · replace h := it_f c6 h
            refine ev_iconst dX0_angelsPart_69 (pc' := 70) (v := 2) rfl (by decide) ?_
            refine ev_iload_n dX0_angelsPart_70 (pc' := 71) rfl rfl ?_
            refine ev_imul dX0_angelsPart_71 (pc' := 72) rfl ?_
            refine ev_goto dX0_angelsPart_72 (t := 76) rfl ?_
            refine ev_iload_n dX0_angelsPart_76 (pc' := 77) rfl rfl ?_
            refine ev_invS dX0_angelsPart_77 (pc' := 80) rfl sq_0_30 mt_J9_min_7cf53 rfl ⟨_, rfl, Nat.le_of_ble_eq_true rfl, Nat.le_of_ble_eq_true rfl, rfl, rfl⟩ ?_
            refine ca_math (by decide) (r := some (.int (mmin (2 * v1) a1))) rfl ?_
            refine ev_r1 ?_
            obtain rfl := h
            exact ev_ireturn dX0_angelsPart_80 rfl q
        · replace h := it_f c5 h
          refine ev_tableDef dX0_angelsPart_11 [1, 3, 4, 5] (by decide) (List.forall_mem_cons.mpr ⟨c2, List.forall_mem_cons.mpr ⟨c3, List.forall_mem_cons.mpr ⟨c4, List.forall_mem_cons.mpr ⟨c5, fun _ h => absurd h List.not_mem_nil⟩⟩⟩⟩) (t := 81) rfl ?_
          refine ev_iload_n dX0_angelsPart_81 (pc' := 82) rfl rfl ?_
          obtain rfl := h
          exact ev_ireturn dX0_angelsPart_82 rfl q
def X0_strengthIn (o : Nat) (a1 : Int32) (mem : Mm) : Int32 := if (mem o 0) = 1 then ((mmax ((mem o 3) - 1) 0)) else (if (mem o 0) = 2 then (if (airem a1 5) = 0 then ((mmin ((mem o 3) + 1) 99)) else ((mem o 3))) else (if (mem o 0) = 4 then (if (airem a1 5) = 0 then ((mmin ((mem o 3) + 1) 99)) else ((mem o 3))) else (if (mem o 0) = 5 then ((mmin ((mem o 3) + 1) 99)) else ((mem o 3)))))
set_option maxRecDepth 100000 in
set_option maxHeartbeats 8000000 in
theorem X0_strengthIn_ca {S : Sc} {d : Nat} {o : Nat} {a1 : Int32} {mem : Mm} {rr : Int32} {Q : Po} (h_o : kdp o 0) (h : X0_strengthIn o a1 mem = rr) (q : Q (some (.int rr)) mem) : Ca S (d + 2) 18 [.ref o, .int a1] mem Q := by
  unfold X0_strengthIn at h
  refine ca_in (by decide) mt_X0_strengthIn (Nat.le_of_ble_eq_true rfl) ?_
  show Ev S (d + 1) 0 cX0_strengthIn (some .int) 0 [some (.ref o), some (.int a1)] [] mem Q
  refine ev_aload_n dX0_strengthIn_0 (pc' := 1) rfl rfl ?_
  refine ev_get dX0_strengthIn_1 (pc' := 4) rfl fq_0_9 h_o rfl ?_
  by_cases c1 : (mem o 0) = 1
  · replace h := it_t c1 h
    refine ev_tableIn dX0_strengthIn_4 c1 (by decide) rfl (t := 40) rfl ?_
    refine ev_aload_n dX0_strengthIn_40 (pc' := 41) rfl rfl ?_
    refine ev_get dX0_strengthIn_41 (pc' := 44) rfl fq_0_21 h_o rfl ?_
    refine ev_iconst dX0_strengthIn_44 (pc' := 45) (v := 1) rfl (by decide) ?_
    refine ev_isub dX0_strengthIn_45 (pc' := 46) rfl ?_
    refine ev_iconst dX0_strengthIn_46 (pc' := 47) (v := 0) rfl (by decide) ?_
    refine ev_invS dX0_strengthIn_47 (pc' := 50) rfl sq_0_36 mt_J9_max_7cf53 rfl ⟨_, rfl, Nat.le_of_ble_eq_true rfl, Nat.le_of_ble_eq_true rfl, rfl, rfl⟩ ?_
    refine ca_math (by decide) (r := some (.int (mmax ((mem o 3) - 1) 0))) rfl ?_
    refine ev_r1 ?_
    obtain rfl := h
    exact ev_ireturn dX0_strengthIn_50 rfl q
  · replace h := it_f c1 h
    by_cases c2 : (mem o 0) = 2
    · replace h := it_t c2 h
      refine ev_tableIn dX0_strengthIn_4 c2 (by decide) rfl (t := 51) rfl ?_
      refine ev_iload_n dX0_strengthIn_51 (pc' := 52) rfl rfl ?_
      refine ev_iconst dX0_strengthIn_52 (pc' := 53) (v := 5) rfl (by decide) ?_
      refine ev_irem dX0_strengthIn_53 (pc' := 54) rfl (by decide) ?_
      refine ev_if_ne dX0_strengthIn_54 (pc' := 57) rfl (t := 71) rfl (fun c3 => ?_) (fun c3 => ?_)
      · replace h := it_f c3 h
        refine ev_aload_n dX0_strengthIn_71 (pc' := 72) rfl rfl ?_
        refine ev_get dX0_strengthIn_72 (pc' := 75) rfl fq_0_21 h_o rfl ?_
        obtain rfl := h
        exact ev_ireturn dX0_strengthIn_75 rfl q
      · replace h := it_t c3 h
        refine ev_aload_n dX0_strengthIn_57 (pc' := 58) rfl rfl ?_
        refine ev_get dX0_strengthIn_58 (pc' := 61) rfl fq_0_21 h_o rfl ?_
        refine ev_iconst dX0_strengthIn_61 (pc' := 62) (v := 1) rfl (by decide) ?_
        refine ev_iadd dX0_strengthIn_62 (pc' := 63) rfl ?_
        refine ev_bipush dX0_strengthIn_63 (pc' := 65) (v := 99) rfl (by decide) ?_
        refine ev_invS dX0_strengthIn_65 (pc' := 68) rfl sq_0_30 mt_J9_min_7cf53 rfl ⟨_, rfl, Nat.le_of_ble_eq_true rfl, Nat.le_of_ble_eq_true rfl, rfl, rfl⟩ ?_
        refine ca_math (by decide) (r := some (.int (mmin ((mem o 3) + 1) 99))) rfl ?_
        refine ev_r1 ?_
        refine ev_goto dX0_strengthIn_68 (t := 75) rfl ?_
        obtain rfl := h
        exact ev_ireturn dX0_strengthIn_75 rfl q
    · replace h := it_f c2 h
      by_cases c4 : (mem o 0) = 4
      · replace h := it_t c4 h
        refine ev_tableIn dX0_strengthIn_4 c4 (by decide) rfl (t := 51) rfl ?_
        refine ev_iload_n dX0_strengthIn_51 (pc' := 52) rfl rfl ?_
        refine ev_iconst dX0_strengthIn_52 (pc' := 53) (v := 5) rfl (by decide) ?_
        refine ev_irem dX0_strengthIn_53 (pc' := 54) rfl (by decide) ?_
        refine ev_if_ne dX0_strengthIn_54 (pc' := 57) rfl (t := 71) rfl (fun c5 => ?_) (fun c5 => ?_)
        · replace h := it_f c5 h
          refine ev_aload_n dX0_strengthIn_71 (pc' := 72) rfl rfl ?_
          refine ev_get dX0_strengthIn_72 (pc' := 75) rfl fq_0_21 h_o rfl ?_
          obtain rfl := h
          exact ev_ireturn dX0_strengthIn_75 rfl q
        · replace h := it_t c5 h
          refine ev_aload_n dX0_strengthIn_57 (pc' := 58) rfl rfl ?_
          refine ev_get dX0_strengthIn_58 (pc' := 61) rfl fq_0_21 h_o rfl ?_
          refine ev_iconst dX0_strengthIn_61 (pc' := 62) (v := 1) rfl (by decide) ?_
          refine ev_iadd dX0_strengthIn_62 (pc' := 63) rfl ?_
          refine ev_bipush dX0_strengthIn_63 (pc' := 65) (v := 99) rfl (by decide) ?_
          refine ev_invS dX0_strengthIn_65 (pc' := 68) rfl sq_0_30 mt_J9_min_7cf53 rfl ⟨_, rfl, Nat.le_of_ble_eq_true rfl, Nat.le_of_ble_eq_true rfl, rfl, rfl⟩ ?_
          refine ca_math (by decide) (r := some (.int (mmin ((mem o 3) + 1) 99))) rfl ?_
          refine ev_r1 ?_
          refine ev_goto dX0_strengthIn_68 (t := 75) rfl ?_
          obtain rfl := h
          exact ev_ireturn dX0_strengthIn_75 rfl q
      · replace h := it_f c4 h
        by_cases c6 : (mem o 0) = 5
        · replace h := it_t c6 h
          refine ev_tableIn dX0_strengthIn_4 c6 (by decide) rfl (t := 76) rfl ?_
          refine ev_aload_n dX0_strengthIn_76 (pc' := 77) rfl rfl ?_
          refine ev_get dX0_strengthIn_77 (pc' := 80) rfl fq_0_21 h_o rfl ?_
          refine ev_iconst dX0_strengthIn_80 (pc' := 81) (v := 1) rfl (by decide) ?_
          refine ev_iadd dX0_strengthIn_81 (pc' := 82) rfl ?_
          refine ev_bipush dX0_strengthIn_82 (pc' := 84) (v := 99) rfl (by decide) ?_
          refine ev_invS dX0_strengthIn_84 (pc' := 87) rfl sq_0_30 mt_J9_min_7cf53 rfl ⟨_, rfl, Nat.le_of_ble_eq_true rfl, Nat.le_of_ble_eq_true rfl, rfl, rfl⟩ ?_
          refine ca_math (by decide) (r := some (.int (mmin ((mem o 3) + 1) 99))) rfl ?_
          refine ev_r1 ?_
          obtain rfl := h
          exact ev_ireturn dX0_strengthIn_87 rfl q
        · replace h := it_f c6 h
          refine ev_tableDef dX0_strengthIn_4 [1, 2, 4, 5] (by decide) (List.forall_mem_cons.mpr ⟨c1, List.forall_mem_cons.mpr ⟨c2, List.forall_mem_cons.mpr ⟨c4, List.forall_mem_cons.mpr ⟨c6, fun _ h => absurd h List.not_mem_nil⟩⟩⟩⟩) (t := 88) rfl ?_
          refine ev_aload_n dX0_strengthIn_88 (pc' := 89) rfl rfl ?_
          refine ev_get dX0_strengthIn_89 (pc' := 92) rfl fq_0_21 h_o rfl ?_
          obtain rfl := h
          exact ev_ireturn dX0_strengthIn_92 rfl q
def X0_sentBackIn (o : Nat) (a1 : Int32) (mem : Mm) : Int32 := if (airem a1 7) = 0 then (if (mem o 0) = 1 then (0) else (if (mem o 0) = 2 then (if (mem o 5) < (mem o 4) then (0) else ((mem o 4))) else (if (mem o 0) = 3 then (0) else (if (mem o 0) = 4 then (((mem o 5) / 3)) else (if (mem o 0) = 5 then (0) else (((mem o 5) / 2))))))) else (0)
set_option maxRecDepth 100000 in
set_option maxHeartbeats 8000000 in
theorem X0_sentBackIn_ca {S : Sc} {d : Nat} {o : Nat} {a1 : Int32} {mem : Mm} {rr : Int32} {Q : Po} (h_o : kdp o 0) (h : X0_sentBackIn o a1 mem = rr) (q : Q (some (.int rr)) mem) : Ca S (d + 1) 19 [.ref o, .int a1] mem Q := by
  unfold X0_sentBackIn at h
  refine ca_in (by decide) mt_X0_sentBackIn (Nat.le_of_ble_eq_true rfl) ?_
  show Ev S (d + 0) 0 cX0_sentBackIn (some .int) 0 [some (.ref o), some (.int a1)] [] mem Q
  refine ev_iload_n dX0_sentBackIn_0 (pc' := 1) rfl rfl ?_
  refine ev_bipush dX0_sentBackIn_1 (pc' := 3) (v := 7) rfl (by decide) ?_
  refine ev_irem dX0_sentBackIn_3 (pc' := 4) rfl (by decide) ?_
  refine ev_if_eq dX0_sentBackIn_4 (pc' := 7) rfl (t := 9) rfl (fun c1 => ?_) (fun c1 => ?_)
  · replace h := it_t c1 h
    refine ev_aload_n dX0_sentBackIn_9 (pc' := 10) rfl rfl ?_
    refine ev_get dX0_sentBackIn_10 (pc' := 13) rfl fq_0_9 h_o rfl ?_
    by_cases c2 : (mem o 0) = 1
    · replace h := it_t c2 h
      refine ev_tableIn dX0_sentBackIn_13 c2 (by decide) rfl (t := 75) rfl ?_
      refine ev_iconst dX0_sentBackIn_75 (pc' := 76) (v := 0) rfl (by decide) ?_
      obtain rfl := h
      exact ev_ireturn dX0_sentBackIn_76 rfl q
    · replace h := it_f c2 h
      by_cases c3 : (mem o 0) = 2
      · replace h := it_t c3 h
        refine ev_tableIn dX0_sentBackIn_13 c3 (by decide) rfl (t := 48) rfl ?_
        refine ev_aload_n dX0_sentBackIn_48 (pc' := 49) rfl rfl ?_
        refine ev_get dX0_sentBackIn_49 (pc' := 52) rfl fq_0_27 h_o rfl ?_
        refine ev_aload_n dX0_sentBackIn_52 (pc' := 53) rfl rfl ?_
        refine ev_get dX0_sentBackIn_53 (pc' := 56) rfl fq_0_24 h_o rfl ?_
        refine ev_icmp_lt dX0_sentBackIn_56 (pc' := 59) rfl (t := 66) rfl (fun c4 => ?_) (fun c4 => ?_)
        · replace h := it_t c4 h
          refine ev_iconst dX0_sentBackIn_66 (pc' := 67) (v := 0) rfl (by decide) ?_
          obtain rfl := h
          exact ev_ireturn dX0_sentBackIn_67 rfl q
        · replace h := it_f c4 h
          refine ev_aload_n dX0_sentBackIn_59 (pc' := 60) rfl rfl ?_
          refine ev_get dX0_sentBackIn_60 (pc' := 63) rfl fq_0_24 h_o rfl ?_
          refine ev_goto dX0_sentBackIn_63 (t := 67) rfl ?_
          obtain rfl := h
          exact ev_ireturn dX0_sentBackIn_67 rfl q
      · replace h := it_f c3 h
        by_cases c5 : (mem o 0) = 3
        · replace h := it_t c5 h
          refine ev_tableIn dX0_sentBackIn_13 c5 (by decide) rfl (t := 75) rfl ?_
          refine ev_iconst dX0_sentBackIn_75 (pc' := 76) (v := 0) rfl (by decide) ?_
          obtain rfl := h
          exact ev_ireturn dX0_sentBackIn_76 rfl q
        · replace h := it_f c5 h
          by_cases c6 : (mem o 0) = 4
          · replace h := it_t c6 h
            refine ev_tableIn dX0_sentBackIn_13 c6 (by decide) rfl (t := 68) rfl ?_
            refine ev_aload_n dX0_sentBackIn_68 (pc' := 69) rfl rfl ?_
            refine ev_get dX0_sentBackIn_69 (pc' := 72) rfl fq_0_27 h_o rfl ?_
            refine ev_iconst dX0_sentBackIn_72 (pc' := 73) (v := 3) rfl (by decide) ?_
            refine ev_idiv dX0_sentBackIn_73 (pc' := 74) rfl (by decide) ?_
            obtain rfl := h
            exact ev_ireturn dX0_sentBackIn_74 rfl q
          · replace h := it_f c6 h
            by_cases c7 : (mem o 0) = 5
            · replace h := it_t c7 h
              refine ev_tableIn dX0_sentBackIn_13 c7 (by decide) rfl (t := 75) rfl ?_
              refine ev_iconst dX0_sentBackIn_75 (pc' := 76) (v := 0) rfl (by decide) ?_
              obtain rfl := h
              exact ev_ireturn dX0_sentBackIn_76 rfl q
            · replace h := it_f c7 h
              refine ev_tableDef dX0_sentBackIn_13 [1, 2, 3, 4, 5] (by decide) (List.forall_mem_cons.mpr ⟨c2, List.forall_mem_cons.mpr ⟨c3, List.forall_mem_cons.mpr ⟨c5, List.forall_mem_cons.mpr ⟨c6, List.forall_mem_cons.mpr ⟨c7, fun _ h => absurd h List.not_mem_nil⟩⟩⟩⟩⟩) (t := 77) rfl ?_
              refine ev_aload_n dX0_sentBackIn_77 (pc' := 78) rfl rfl ?_
              refine ev_get dX0_sentBackIn_78 (pc' := 81) rfl fq_0_27 h_o rfl ?_
              refine ev_iconst dX0_sentBackIn_81 (pc' := 82) (v := 2) rfl (by decide) ?_
              refine ev_idiv dX0_sentBackIn_82 (pc' := 83) rfl (by decide) ?_
              obtain rfl := h
              exact ev_ireturn dX0_sentBackIn_83 rfl q
  · replace h := it_f c1 h
    refine ev_iconst dX0_sentBackIn_7 (pc' := 8) (v := 0) rfl (by decide) ?_
    obtain rfl := h
    exact ev_ireturn dX0_sentBackIn_8 rfl q
def X0_goOn (o : Nat) (a1 : Int32) (a2 : Int32) (mem : Mm) : Mm := nm (X0_angelsPart o (mem o 2) a1 mem) (fun v1 => nm (mset mem o 5 ((mem o 5) + v1)) (fun m2 => nm (mset m2 o 2 ((m2 o 2) - v1)) (fun m3 => nm (mset m3 o 3 (X0_strengthIn o a2 m3)) (fun m4 => nm (mmin (X0_sentBackIn o a2 m4) ((m4 o 1) - (m4 o 2))) (fun v5 => nm (mset m4 o 5 ((m4 o 5) - v5)) (fun m6 => nm (mset m6 o 2 ((m6 o 2) + v5)) (fun m7 => m7)))))))
set_option maxRecDepth 100000 in
set_option maxHeartbeats 8000000 in
theorem X0_goOn_ca {S : Sc} {d : Nat} {o : Nat} {a1 : Int32} {a2 : Int32} {mem : Mm} {mr : Mm} {Q : Po} (h_o : kdp o 0) (h : X0_goOn o a1 a2 mem = mr) (q : Q none mr) : Ca S (d + 3) 20 [.ref o, .int a1, .int a2] mem Q := by
  unfold X0_goOn at h
  refine ca_in (by decide) mt_X0_goOn (Nat.le_of_ble_eq_true rfl) ?_
  show Ev S (d + 2) 0 cX0_goOn none 0 [some (.ref o), some (.int a1), some (.int a2), none, none] [] mem Q
  refine ev_aload_n dX0_goOn_0 (pc' := 1) rfl rfl ?_
  refine ev_aload_n dX0_goOn_1 (pc' := 2) rfl rfl ?_
  refine ev_get dX0_goOn_2 (pc' := 5) rfl fq_0_18 h_o rfl ?_
  refine ev_iload_n dX0_goOn_5 (pc' := 6) rfl rfl ?_
  refine ev_invV dX0_goOn_6 (pc' := 9) rfl sq_0_39 mt_X0_angelsPart rfl (arecv_ob (x := o) rfl rfl (by decide) h_o) ⟨_, rfl, Nat.le_of_ble_eq_true rfl, Nat.le_of_ble_eq_true rfl, rfl, rfl⟩ ?_
  refine X0_angelsPart_ca h_o rfl ?_
  refine ev_r1 ?_
  refine ev_topi (fun v1 e_v1 => ?_)
  replace h := nm_at e_v1 h
  refine ev_istore_n dX0_goOn_9 (pc' := 10) (ls' := [some (.ref o), some (.int a1), some (.int a2), some (.int v1), none]) rfl (Nat.le_of_ble_eq_true rfl) rfl ?_
  refine ev_aload_n dX0_goOn_10 (pc' := 11) rfl rfl ?_
  refine ev_dup dX0_goOn_11 (pc' := 12) rfl rfl ?_
  refine ev_get dX0_goOn_12 (pc' := 15) rfl fq_0_27 h_o rfl ?_
  refine ev_iload_n dX0_goOn_15 (pc' := 16) rfl rfl ?_
  refine ev_iadd dX0_goOn_16 (pc' := 17) rfl ?_
  refine ev_put dX0_goOn_17 (pc' := 20) rfl fq_0_27 h_o rfl (Or.inl (by decide)) ?_
  refine ev_topm (fun m2 e_m2 => ?_)
  replace h := nm_at e_m2 h
  refine ev_aload_n dX0_goOn_20 (pc' := 21) rfl rfl ?_
  refine ev_dup dX0_goOn_21 (pc' := 22) rfl rfl ?_
  refine ev_get dX0_goOn_22 (pc' := 25) rfl fq_0_18 h_o rfl ?_
  refine ev_iload_n dX0_goOn_25 (pc' := 26) rfl rfl ?_
  refine ev_isub dX0_goOn_26 (pc' := 27) rfl ?_
  refine ev_put dX0_goOn_27 (pc' := 30) rfl fq_0_18 h_o rfl (Or.inl (by decide)) ?_
  refine ev_topm (fun m3 e_m3 => ?_)
  replace h := nm_at e_m3 h
  refine ev_aload_n dX0_goOn_30 (pc' := 31) rfl rfl ?_
  refine ev_aload_n dX0_goOn_31 (pc' := 32) rfl rfl ?_
  refine ev_iload_n dX0_goOn_32 (pc' := 33) rfl rfl ?_
  refine ev_invV dX0_goOn_33 (pc' := 36) rfl sq_0_42 mt_X0_strengthIn rfl (arecv_ob (x := o) rfl rfl (by decide) h_o) ⟨_, rfl, Nat.le_of_ble_eq_true rfl, Nat.le_of_ble_eq_true rfl, rfl, rfl⟩ ?_
  refine X0_strengthIn_ca h_o rfl ?_
  refine ev_r1 ?_
  refine ev_put dX0_goOn_36 (pc' := 39) rfl fq_0_21 h_o rfl (Or.inl (by decide)) ?_
  refine ev_topm (fun m4 e_m4 => ?_)
  replace h := nm_at e_m4 h
  refine ev_aload_n dX0_goOn_39 (pc' := 40) rfl rfl ?_
  refine ev_iload_n dX0_goOn_40 (pc' := 41) rfl rfl ?_
  refine ev_invV dX0_goOn_41 (pc' := 44) rfl sq_0_46 mt_X0_sentBackIn rfl (arecv_ob (x := o) rfl rfl (by decide) h_o) ⟨_, rfl, Nat.le_of_ble_eq_true rfl, Nat.le_of_ble_eq_true rfl, rfl, rfl⟩ ?_
  refine X0_sentBackIn_ca h_o rfl ?_
  refine ev_r1 ?_
  refine ev_aload_n dX0_goOn_44 (pc' := 45) rfl rfl ?_
  refine ev_get dX0_goOn_45 (pc' := 48) rfl fq_0_15 h_o rfl ?_
  refine ev_aload_n dX0_goOn_48 (pc' := 49) rfl rfl ?_
  refine ev_get dX0_goOn_49 (pc' := 52) rfl fq_0_18 h_o rfl ?_
  refine ev_isub dX0_goOn_52 (pc' := 53) rfl ?_
  refine ev_invS dX0_goOn_53 (pc' := 56) rfl sq_0_30 mt_J9_min_7cf53 rfl ⟨_, rfl, Nat.le_of_ble_eq_true rfl, Nat.le_of_ble_eq_true rfl, rfl, rfl⟩ ?_
  refine ca_math (by decide) (r := some (.int (mmin (X0_sentBackIn o a2 m4) ((m4 o 1) - (m4 o 2))))) rfl ?_
  refine ev_r1 ?_
  refine ev_topi (fun v5 e_v5 => ?_)
  replace h := nm_at e_v5 h
  refine ev_istore dX0_goOn_56 (pc' := 58) (ls' := [some (.ref o), some (.int a1), some (.int a2), some (.int v1), some (.int v5)]) rfl (Nat.le_of_ble_eq_true rfl) rfl ?_
  refine ev_aload_n dX0_goOn_58 (pc' := 59) rfl rfl ?_
  refine ev_dup dX0_goOn_59 (pc' := 60) rfl rfl ?_
  refine ev_get dX0_goOn_60 (pc' := 63) rfl fq_0_27 h_o rfl ?_
  refine ev_iload dX0_goOn_63 (pc' := 65) rfl rfl ?_
  refine ev_isub dX0_goOn_65 (pc' := 66) rfl ?_
  refine ev_put dX0_goOn_66 (pc' := 69) rfl fq_0_27 h_o rfl (Or.inl (by decide)) ?_
  refine ev_topm (fun m6 e_m6 => ?_)
  replace h := nm_at e_m6 h
  refine ev_aload_n dX0_goOn_69 (pc' := 70) rfl rfl ?_
  refine ev_dup dX0_goOn_70 (pc' := 71) rfl rfl ?_
  refine ev_get dX0_goOn_71 (pc' := 74) rfl fq_0_18 h_o rfl ?_
  refine ev_iload dX0_goOn_74 (pc' := 76) rfl rfl ?_
  refine ev_iadd dX0_goOn_76 (pc' := 77) rfl ?_
  refine ev_put dX0_goOn_77 (pc' := 80) rfl fq_0_18 h_o rfl (Or.inl (by decide)) ?_
  refine ev_topm (fun m7 e_m7 => ?_)
  replace h := nm_at e_m7 h
  obtain rfl := h
  exact ev_return dX0_goOn_80 rfl q
def X0_isHalfTheirs (o : Nat) (mem : Mm) : Int32 := if (mem o 5) ≤ 0 then (0) else (if (mem o 5) < (mem o 2) then (0) else (1))
theorem X0_isHalfTheirs_b (o : Nat) (mem : Mm) : X0_isHalfTheirs o mem = 0 ∨ X0_isHalfTheirs o mem = 1 := by
  unfold X0_isHalfTheirs
  (repeat' split) <;> first | exact Or.inl rfl | exact Or.inr rfl
set_option maxRecDepth 100000 in
set_option maxHeartbeats 8000000 in
theorem X0_isHalfTheirs_ca {S : Sc} {d : Nat} {o : Nat} {mem : Mm} {rr : Int32} {Q : Po} (h_o : kdp o 0) (h : X0_isHalfTheirs o mem = rr) (q : Q (some (.int rr)) mem) : Ca S (d + 1) 21 [.ref o] mem Q := by
  unfold X0_isHalfTheirs at h
  refine ca_in (by decide) mt_X0_isHalfTheirs (Nat.le_of_ble_eq_true rfl) ?_
  show Ev S (d + 0) 0 cX0_isHalfTheirs (some .boolean) 0 [some (.ref o)] [] mem Q
  refine ev_aload_n dX0_isHalfTheirs_0 (pc' := 1) rfl rfl ?_
  refine ev_get dX0_isHalfTheirs_1 (pc' := 4) rfl fq_0_27 h_o rfl ?_
  refine ev_if_le dX0_isHalfTheirs_4 (pc' := 7) rfl (t := 22) rfl (fun c1 => ?_) (fun c1 => ?_)
  · replace h := it_t c1 h
    refine ev_iconst dX0_isHalfTheirs_22 (pc' := 23) (v := 0) rfl (by decide) ?_
    obtain rfl := h
    exact ev_ireturn dX0_isHalfTheirs_23 (aret_z (by decide)) q
  · replace h := it_f c1 h
    refine ev_aload_n dX0_isHalfTheirs_7 (pc' := 8) rfl rfl ?_
    refine ev_get dX0_isHalfTheirs_8 (pc' := 11) rfl fq_0_27 h_o rfl ?_
    refine ev_aload_n dX0_isHalfTheirs_11 (pc' := 12) rfl rfl ?_
    refine ev_get dX0_isHalfTheirs_12 (pc' := 15) rfl fq_0_18 h_o rfl ?_
    refine ev_icmp_lt dX0_isHalfTheirs_15 (pc' := 18) rfl (t := 22) rfl (fun c2 => ?_) (fun c2 => ?_)
    · replace h := it_t c2 h
      refine ev_iconst dX0_isHalfTheirs_22 (pc' := 23) (v := 0) rfl (by decide) ?_
      obtain rfl := h
      exact ev_ireturn dX0_isHalfTheirs_23 (aret_z (by decide)) q
    · replace h := it_f c2 h
      refine ev_iconst dX0_isHalfTheirs_18 (pc' := 19) (v := 1) rfl (by decide) ?_
      refine ev_goto dX0_isHalfTheirs_19 (t := 23) rfl ?_
      obtain rfl := h
      exact ev_ireturn dX0_isHalfTheirs_23 (aret_z (by decide)) q
def X0_worth (o : Nat) (mem : Mm) : Int32 := ((mem o 2) * (mem o 3))
set_option maxRecDepth 100000 in
set_option maxHeartbeats 8000000 in
theorem X0_worth_ca {S : Sc} {d : Nat} {o : Nat} {mem : Mm} {rr : Int32} {Q : Po} (h_o : kdp o 0) (h : X0_worth o mem = rr) (q : Q (some (.int rr)) mem) : Ca S (d + 1) 22 [.ref o] mem Q := by
  unfold X0_worth at h
  refine ca_in (by decide) mt_X0_worth (Nat.le_of_ble_eq_true rfl) ?_
  show Ev S (d + 0) 0 cX0_worth (some .int) 0 [some (.ref o)] [] mem Q
  refine ev_aload_n dX0_worth_0 (pc' := 1) rfl rfl ?_
  refine ev_get dX0_worth_1 (pc' := 4) rfl fq_0_18 h_o rfl ?_
  refine ev_aload_n dX0_worth_4 (pc' := 5) rfl rfl ?_
  refine ev_get dX0_worth_5 (pc' := 8) rfl fq_0_21 h_o rfl ?_
  refine ev_imul dX0_worth_8 (pc' := 9) rfl ?_
  obtain rfl := h
  exact ev_ireturn dX0_worth_9 rfl q
def X1_isFull (o : Nat) (mem : Mm) : Int32 := if (mem o 1) < 96 then (0) else (1)
theorem X1_isFull_b (o : Nat) (mem : Mm) : X1_isFull o mem = 0 ∨ X1_isFull o mem = 1 := by
  unfold X1_isFull
  (repeat' split) <;> first | exact Or.inl rfl | exact Or.inr rfl
set_option maxRecDepth 100000 in
set_option maxHeartbeats 8000000 in
theorem X1_isFull_ca {S : Sc} {d : Nat} {o : Nat} {mem : Mm} {rr : Int32} {Q : Po} (h_o : kdp o 1) (h : X1_isFull o mem = rr) (q : Q (some (.int rr)) mem) : Ca S (d + 1) 23 [.ref o] mem Q := by
  unfold X1_isFull at h
  refine ca_in (by decide) mt_X1_isFull (Nat.le_of_ble_eq_true rfl) ?_
  show Ev S (d + 0) 1 cX1_isFull (some .boolean) 0 [some (.ref o)] [] mem Q
  refine ev_aload_n dX1_isFull_0 (pc' := 1) rfl rfl ?_
  refine ev_get dX1_isFull_1 (pc' := 4) rfl fq_1_15 h_o rfl ?_
  refine ev_bipush dX1_isFull_4 (pc' := 6) (v := 96) rfl (by decide) ?_
  refine ev_icmp_lt dX1_isFull_6 (pc' := 9) rfl (t := 13) rfl (fun c1 => ?_) (fun c1 => ?_)
  · replace h := it_t c1 h
    refine ev_iconst dX1_isFull_13 (pc' := 14) (v := 0) rfl (by decide) ?_
    obtain rfl := h
    exact ev_ireturn dX1_isFull_14 (aret_z (by decide)) q
  · replace h := it_f c1 h
    refine ev_iconst dX1_isFull_9 (pc' := 10) (v := 1) rfl (by decide) ?_
    refine ev_goto dX1_isFull_10 (t := 14) rfl ?_
    obtain rfl := h
    exact ev_ireturn dX1_isFull_14 (aret_z (by decide)) q
def X1_add (o : Nat) (a1 : Int32) (mem : Mm) : Option (Int32 × Mm) := if (mem o 1) < 0 then (some ((mem o 1), mem)) else (if 96 ≤ (mem o 1) then (some ((mem o 1), mem)) else (gd (vin (mem o 1) 96) (nm (mset mem (o + 1) ((mem o 1)).toNatClampNeg a1) (fun m4 => nm (mset m4 o 1 ((m4 o 1) + 1)) (fun m5 => some ((m5 o 1), m5))))))
set_option maxRecDepth 100000 in
set_option maxHeartbeats 8000000 in
theorem X1_add_ca {S : Sc} {d : Nat} {o : Nat} {a1 : Int32} {mem : Mm} {rr : Int32} {mr : Mm} {Q : Po} (h_o : kdp o 1) (h : X1_add o a1 mem = some (rr, mr)) (q : Q (some (.int rr)) mr) : Ca S (d + 1) 24 [.ref o, .int a1] mem Q := by
  unfold X1_add at h
  refine ca_in (by decide) mt_X1_add (Nat.le_of_ble_eq_true rfl) ?_
  show Ev S (d + 0) 1 cX1_add (some .int) 0 [some (.ref o), some (.int a1)] [] mem Q
  refine ev_aload_n dX1_add_0 (pc' := 1) rfl rfl ?_
  refine ev_get dX1_add_1 (pc' := 4) rfl fq_1_15 h_o rfl ?_
  refine ev_if_lt dX1_add_4 (pc' := 7) rfl (t := 39) rfl (fun c1 => ?_) (fun c1 => ?_)
  · replace h := it_t c1 h
    refine ev_aload_n dX1_add_39 (pc' := 40) rfl rfl ?_
    refine ev_get dX1_add_40 (pc' := 43) rfl fq_1_15 h_o rfl ?_
    obtain ⟨rfl, rfl⟩ := rt2 h
    exact ev_ireturn dX1_add_43 rfl q
  · replace h := it_f c1 h
    refine ev_aload_n dX1_add_7 (pc' := 8) rfl rfl ?_
    refine ev_get dX1_add_8 (pc' := 11) rfl fq_1_15 h_o rfl ?_
    refine ev_aload_n dX1_add_11 (pc' := 12) rfl rfl ?_
    refine ev_getR (y := (o + 1)) dX1_add_12 (pc' := 15) rfl fq_1_9 h_o rfl ?_
    refine ev_alen (n := 96) dX1_add_15 (pc' := 16) rfl (kd_lett h_o).1 (by rw [(kd_lett h_o).2]; rfl) ?_
    refine ev_icmp_ge dX1_add_16 (pc' := 19) rfl (t := 39) rfl (fun c2 => ?_) (fun c2 => ?_)
    · replace h := it_t c2 h
      refine ev_aload_n dX1_add_39 (pc' := 40) rfl rfl ?_
      refine ev_get dX1_add_40 (pc' := 43) rfl fq_1_15 h_o rfl ?_
      obtain ⟨rfl, rfl⟩ := rt2 h
      exact ev_ireturn dX1_add_43 rfl q
    · replace h := it_f c2 h
      refine ev_aload_n dX1_add_19 (pc' := 20) rfl rfl ?_
      refine ev_getR (y := (o + 1)) dX1_add_20 (pc' := 23) rfl fq_1_9 h_o rfl ?_
      refine ev_aload_n dX1_add_23 (pc' := 24) rfl rfl ?_
      refine ev_get dX1_add_24 (pc' := 27) rfl fq_1_15 h_o rfl ?_
      refine ev_iload_n dX1_add_27 (pc' := 28) rfl rfl ?_
      obtain ⟨g3, h⟩ := gd_of h
      refine ev_iastK (k0 := ((mem o 1)).toNatClampNeg) dX1_add_28 (pc' := 29) rfl (kd_lett h_o).1 (by rw [(kd_lett h_o).2]; exact g3) rfl ?_
      refine ev_topm (fun m4 e_m4 => ?_)
      replace h := nm_at e_m4 h
      refine ev_aload_n dX1_add_29 (pc' := 30) rfl rfl ?_
      refine ev_dup dX1_add_30 (pc' := 31) rfl rfl ?_
      refine ev_get dX1_add_31 (pc' := 34) rfl fq_1_15 h_o rfl ?_
      refine ev_iconst dX1_add_34 (pc' := 35) (v := 1) rfl (by decide) ?_
      refine ev_iadd dX1_add_35 (pc' := 36) rfl ?_
      refine ev_put dX1_add_36 (pc' := 39) rfl fq_1_15 h_o rfl (Or.inl (by decide)) ?_
      refine ev_topm (fun m5 e_m5 => ?_)
      replace h := nm_at e_m5 h
      refine ev_aload_n dX1_add_39 (pc' := 40) rfl rfl ?_
      refine ev_get dX1_add_40 (pc' := 43) rfl fq_1_15 h_o rfl ?_
      obtain ⟨rfl, rfl⟩ := rt2 h
      exact ev_ireturn dX1_add_43 rfl q
def X1_forget (o : Nat) (mem : Mm) : Mm := nm (mset mem o 1 0) (fun m1 => m1)
set_option maxRecDepth 100000 in
set_option maxHeartbeats 8000000 in
theorem X1_forget_ca {S : Sc} {d : Nat} {o : Nat} {mem : Mm} {mr : Mm} {Q : Po} (h_o : kdp o 1) (h : X1_forget o mem = mr) (q : Q none mr) : Ca S (d + 1) 25 [.ref o] mem Q := by
  unfold X1_forget at h
  refine ca_in (by decide) mt_X1_forget (Nat.le_of_ble_eq_true rfl) ?_
  show Ev S (d + 0) 1 cX1_forget none 0 [some (.ref o)] [] mem Q
  refine ev_aload_n dX1_forget_0 (pc' := 1) rfl rfl ?_
  refine ev_iconst dX1_forget_1 (pc' := 2) (v := 0) rfl (by decide) ?_
  refine ev_put dX1_forget_2 (pc' := 5) rfl fq_1_15 h_o rfl (Or.inl (by decide)) ?_
  refine ev_topm (fun m1 e_m1 => ?_)
  replace h := nm_at e_m1 h
  obtain rfl := h
  exact ev_return dX1_forget_5 rfl q
def X1_at (o : Nat) (a1 : Int32) (mem : Mm) : Option Int32 := if a1 < 0 then (some (-1)) else (if (mem o 1) ≤ a1 then (some (-1)) else (if 96 ≤ a1 then (some (-1)) else (gd (vin a1 96) (some (mem (o + 1) (a1).toNatClampNeg)))))
set_option maxRecDepth 100000 in
set_option maxHeartbeats 8000000 in
theorem X1_at_ca {S : Sc} {d : Nat} {o : Nat} {a1 : Int32} {mem : Mm} {rr : Int32} {Q : Po} (h_o : kdp o 1) (h : X1_at o a1 mem = some rr) (q : Q (some (.int rr)) mem) : Ca S (d + 1) 26 [.ref o, .int a1] mem Q := by
  unfold X1_at at h
  refine ca_in (by decide) mt_X1_at (Nat.le_of_ble_eq_true rfl) ?_
  show Ev S (d + 0) 1 cX1_at (some .int) 0 [some (.ref o), some (.int a1)] [] mem Q
  refine ev_iload_n dX1_at_0 (pc' := 1) rfl rfl ?_
  refine ev_if_lt dX1_at_1 (pc' := 4) rfl (t := 30) rfl (fun c1 => ?_) (fun c1 => ?_)
  · replace h := it_t c1 h
    refine ev_iconst dX1_at_30 (pc' := 31) (v := (-1)) rfl (by decide) ?_
    obtain rfl := rt1 h
    exact ev_ireturn dX1_at_31 rfl q
  · replace h := it_f c1 h
    refine ev_iload_n dX1_at_4 (pc' := 5) rfl rfl ?_
    refine ev_aload_n dX1_at_5 (pc' := 6) rfl rfl ?_
    refine ev_get dX1_at_6 (pc' := 9) rfl fq_1_15 h_o rfl ?_
    refine ev_icmp_ge dX1_at_9 (pc' := 12) rfl (t := 30) rfl (fun c2 => ?_) (fun c2 => ?_)
    · replace h := it_t c2 h
      refine ev_iconst dX1_at_30 (pc' := 31) (v := (-1)) rfl (by decide) ?_
      obtain rfl := rt1 h
      exact ev_ireturn dX1_at_31 rfl q
    · replace h := it_f c2 h
      refine ev_iload_n dX1_at_12 (pc' := 13) rfl rfl ?_
      refine ev_aload_n dX1_at_13 (pc' := 14) rfl rfl ?_
      refine ev_getR (y := (o + 1)) dX1_at_14 (pc' := 17) rfl fq_1_9 h_o rfl ?_
      refine ev_alen (n := 96) dX1_at_17 (pc' := 18) rfl (kd_lett h_o).1 (by rw [(kd_lett h_o).2]; rfl) ?_
      refine ev_icmp_ge dX1_at_18 (pc' := 21) rfl (t := 30) rfl (fun c3 => ?_) (fun c3 => ?_)
      · replace h := it_t c3 h
        refine ev_iconst dX1_at_30 (pc' := 31) (v := (-1)) rfl (by decide) ?_
        obtain rfl := rt1 h
        exact ev_ireturn dX1_at_31 rfl q
      · replace h := it_f c3 h
        refine ev_aload_n dX1_at_21 (pc' := 22) rfl rfl ?_
        refine ev_getR (y := (o + 1)) dX1_at_22 (pc' := 25) rfl fq_1_9 h_o rfl ?_
        refine ev_iload_n dX1_at_25 (pc' := 26) rfl rfl ?_
        obtain ⟨g4, h⟩ := gd_of h
        refine ev_ialdK (k0 := (a1).toNatClampNeg) dX1_at_26 (pc' := 27) rfl (kd_lett h_o).1 (by rw [(kd_lett h_o).2]; exact g4) rfl ?_
        refine ev_goto dX1_at_27 (t := 31) rfl ?_
        obtain rfl := rt1 h
        exact ev_ireturn dX1_at_31 rfl q
def X1_kind (o : Nat) (a1 : Int32) (mem : Mm) : Option Int32 := ob (X1_at o a1 mem) (fun y1 => if 0 ≤ y1 then (ob (J0_indexOf_0f7a4 50 ((y1).toUInt32 % 65536).toInt32) (fun y3 => some y3)) else (some (-1)))
set_option maxRecDepth 100000 in
set_option maxHeartbeats 8000000 in
theorem X1_kind_ca {S : Sc} {d : Nat} {o : Nat} {a1 : Int32} {mem : Mm} {rr : Int32} {Q : Po} (h_o : kdp o 1) (h : X1_kind o a1 mem = some rr) (q : Q (some (.int rr)) mem) : Ca S (d + 5) 27 [.ref o, .int a1] mem Q := by
  unfold X1_kind at h
  refine ca_in (by decide) mt_X1_kind (Nat.le_of_ble_eq_true rfl) ?_
  show Ev S (d + 4) 1 cX1_kind (some .int) 0 [some (.ref o), some (.int a1), none] [] mem Q
  refine ev_aload_n dX1_kind_0 (pc' := 1) rfl rfl ?_
  refine ev_iload_n dX1_kind_1 (pc' := 2) rfl rfl ?_
  obtain ⟨y1, x_y1, h⟩ := ob_of h
  refine ev_invV dX1_kind_2 (pc' := 5) rfl sq_1_19 mt_X1_at rfl (arecv_ob (x := o) rfl rfl (by decide) h_o) ⟨_, rfl, Nat.le_of_ble_eq_true rfl, Nat.le_of_ble_eq_true rfl, rfl, rfl⟩ ?_
  refine X1_at_ca h_o x_y1 ?_
  refine ev_r1 ?_
  refine ev_istore_n dX1_kind_5 (pc' := 6) (ls' := [some (.ref o), some (.int a1), some (.int y1)]) rfl (Nat.le_of_ble_eq_true rfl) rfl ?_
  refine ev_iload_n dX1_kind_6 (pc' := 7) rfl rfl ?_
  refine ev_if_ge dX1_kind_7 (pc' := 10) rfl (t := 14) rfl (fun c2 => ?_) (fun c2 => ?_)
  · replace h := it_t c2 h
    refine ev_ldcS dX1_kind_14 (pc' := 16) rfl (by decide +kernel) xq_1_23 ?_
    refine ev_iload_n dX1_kind_16 (pc' := 17) rfl rfl ?_
    refine ev_i2c dX1_kind_17 (pc' := 18) rfl ?_
    obtain ⟨y3, x_y3, h⟩ := ob_of h
    refine ev_invV dX1_kind_18 (pc' := 21) rfl sq_1_25 mt_J0_indexOf_0f7a4 rfl (arecv_tx (x := 50) rfl rfl (by decide)) ⟨_, rfl, Nat.le_of_ble_eq_true rfl, Nat.le_of_ble_eq_true rfl, rfl, rfl⟩ ?_
    refine J0_indexOf_0f7a4_ca (by decide) x_y3 ?_
    refine ev_r1 ?_
    obtain rfl := rt1 h
    exact ev_ireturn dX1_kind_21 rfl q
  · replace h := it_f c2 h
    refine ev_iconst dX1_kind_10 (pc' := 11) (v := (-1)) rfl (by decide) ?_
    refine ev_goto dX1_kind_11 (t := 21) rfl ?_
    obtain rfl := rt1 h
    exact ev_ireturn dX1_kind_21 rfl q
def X1_number_L5 (o : Nat) (a1 : Int32) (a2 : Int32) (m5 : Mm) : Nat → Int32 → Int32 → Option Int32
  | 0, _, _ => none
  | n + 1, w3, w4 => if a2 ≤ w4 then (some w3) else (ob (X1_at o (a1 + w4) m5) (fun y7 => nm (((10 * w3) + y7) - 48) (fun v8 => nm (w4 + 1) (fun v9 => X1_number_L5 o a1 a2 m5 n v8 v9))))
def X1_number (o : Nat) (a1 : Int32) (a2 : Int32) (mem : Mm) : Option Int32 := X1_number_L5 o a1 a2 mem LF 0 0
set_option maxRecDepth 100000 in
set_option maxHeartbeats 8000000 in
theorem X1_number_L5_ev {S : Sc} {d : Nat} {o : Nat} {a1 : Int32} {a2 : Int32} {m5 : Mm} {rr : Int32} {Q : Po} (h_o : kdp o 1) (q : Q (some (.int rr)) m5) : ∀ (n : Nat) (w3 : Int32) (w4 : Int32), X1_number_L5 o a1 a2 m5 n w3 w4 = some rr → Ev S (d + 1) 1 cX1_number (some .int) 5 [some (.ref o), some (.int a1), some (.int a2), some (.int w3), some (.int w4)] [] m5 Q := by
  intro n
  induction n with
  | zero => intro w3 w4 h; cases h
  | succ n ih =>
    intro w3 w4 h
    unfold X1_number_L5 at h
    refine ev_iload dX1_number_5 (pc' := 7) rfl rfl ?_
    refine ev_iload_n dX1_number_7 (pc' := 8) rfl rfl ?_
    refine ev_icmp_ge dX1_number_8 (pc' := 11) rfl (t := 34) rfl (fun c6 => ?_) (fun c6 => ?_)
    · replace h := it_t c6 h
      refine ev_iload_n dX1_number_34 (pc' := 35) rfl rfl ?_
      obtain rfl := rt1 h
      exact ev_ireturn dX1_number_35 rfl q
    · replace h := it_f c6 h
      refine ev_bipush dX1_number_11 (pc' := 13) (v := 10) rfl (by decide) ?_
      refine ev_iload_n dX1_number_13 (pc' := 14) rfl rfl ?_
      refine ev_imul dX1_number_14 (pc' := 15) rfl ?_
      refine ev_aload_n dX1_number_15 (pc' := 16) rfl rfl ?_
      refine ev_iload_n dX1_number_16 (pc' := 17) rfl rfl ?_
      refine ev_iload dX1_number_17 (pc' := 19) rfl rfl ?_
      refine ev_iadd dX1_number_19 (pc' := 20) rfl ?_
      obtain ⟨y7, x_y7, h⟩ := ob_of h
      refine ev_invV dX1_number_20 (pc' := 23) rfl sq_1_19 mt_X1_at rfl (arecv_ob (x := o) rfl rfl (by decide) h_o) ⟨_, rfl, Nat.le_of_ble_eq_true rfl, Nat.le_of_ble_eq_true rfl, rfl, rfl⟩ ?_
      refine X1_at_ca h_o x_y7 ?_
      refine ev_r1 ?_
      refine ev_iadd dX1_number_23 (pc' := 24) rfl ?_
      refine ev_bipush dX1_number_24 (pc' := 26) (v := 48) rfl (by decide) ?_
      refine ev_isub dX1_number_26 (pc' := 27) rfl ?_
      refine ev_topi (fun v8 e_v8 => ?_)
      replace h := nm_at e_v8 h
      refine ev_istore_n dX1_number_27 (pc' := 28) (ls' := [some (.ref o), some (.int a1), some (.int a2), some (.int v8), some (.int w4)]) rfl (Nat.le_of_ble_eq_true rfl) rfl ?_
      obtain ⟨v9, e_v9⟩ : ∃ y : Int32, y = (w4 + 1) := ⟨_, rfl⟩
      replace h := nm_at e_v9 h
      refine ev_iinc dX1_number_28 (pc' := 31) (v := v9) (ls' := [some (.ref o), some (.int a1), some (.int a2), some (.int v8), some (.int v9)]) rfl rfl (by rw [e_v9]; rfl) (Nat.le_of_ble_eq_true rfl) rfl ?_
      refine ev_goto dX1_number_31 (t := 5) rfl ?_
      exact ev_sub (lsub_c (lsub_c (lsub_c (lsub_c (lsub_c lsub_nil))))) (ih v8 v9 h)
set_option maxRecDepth 100000 in
set_option maxHeartbeats 8000000 in
theorem X1_number_ca {S : Sc} {d : Nat} {o : Nat} {a1 : Int32} {a2 : Int32} {mem : Mm} {rr : Int32} {Q : Po} (h_o : kdp o 1) (h : X1_number o a1 a2 mem = some rr) (q : Q (some (.int rr)) mem) : Ca S (d + 2) 28 [.ref o, .int a1, .int a2] mem Q := by
  unfold X1_number at h
  refine ca_in (by decide) mt_X1_number (Nat.le_of_ble_eq_true rfl) ?_
  show Ev S (d + 1) 1 cX1_number (some .int) 0 [some (.ref o), some (.int a1), some (.int a2), none, none] [] mem Q
  refine ev_iconst dX1_number_0 (pc' := 1) (v := 0) rfl (by decide) ?_
  refine ev_istore_n dX1_number_1 (pc' := 2) (ls' := [some (.ref o), some (.int a1), some (.int a2), some (.int 0), none]) rfl (Nat.le_of_ble_eq_true rfl) rfl ?_
  refine ev_iconst dX1_number_2 (pc' := 3) (v := 0) rfl (by decide) ?_
  refine ev_istore dX1_number_3 (pc' := 5) (ls' := [some (.ref o), some (.int a1), some (.int a2), some (.int 0), some (.int 0)]) rfl (Nat.le_of_ble_eq_true rfl) rfl ?_
  exact ev_sub (lsub_c (lsub_c (lsub_c (lsub_c (lsub_c lsub_nil))))) (X1_number_L5_ev h_o q LF 0 0 h)
def X1_shapeOf (a1 : Int32) : Nat := if a1 = 99 then (52) else (if a1 = 101 then (55) else (if a1 = 108 then (54) else (if a1 = 112 then (56) else (if a1 = 114 then (53) else (if a1 = 121 then (57) else (51))))))
set_option maxRecDepth 100000 in
set_option maxHeartbeats 8000000 in
theorem X1_shapeOf_ca {S : Sc} {d : Nat} {a1 : Int32} {mem : Mm} {rr : Nat} {Q : Po}  (h : X1_shapeOf a1 = rr) (q : Q (some (.ref rr)) mem) : Ca S (d + 1) 31 [.int a1] mem Q := by
  unfold X1_shapeOf at h
  refine ca_in (by decide) mt_X1_shapeOf (Nat.le_of_ble_eq_true rfl) ?_
  show Ev S (d + 0) 1 cX1_shapeOf (some (.object "java/lang/String")) 0 [some (.int a1)] [] mem Q
  refine ev_iload_n dX1_shapeOf_0 (pc' := 1) rfl rfl ?_
  by_cases c1 : a1 = 99
  · replace h := it_t c1 h
    refine ev_lookupIn dX1_shapeOf_1 rfl c1 rfl (t := 60) rfl ?_
    refine ev_ldcS dX1_shapeOf_60 (pc' := 62) rfl (by decide +kernel) xq_1_50 ?_
    obtain rfl := h
    exact ev_areturn dX1_shapeOf_62 rfl (by decide) q
  · replace h := it_f c1 h
    by_cases c2 : a1 = 101
    · replace h := it_t c2 h
      refine ev_lookupIn dX1_shapeOf_1 rfl c2 rfl (t := 69) rfl ?_
      refine ev_ldcS dX1_shapeOf_69 (pc' := 71) rfl (by decide +kernel) xq_1_56 ?_
      obtain rfl := h
      exact ev_areturn dX1_shapeOf_71 rfl (by decide) q
    · replace h := it_f c2 h
      by_cases c3 : a1 = 108
      · replace h := it_t c3 h
        refine ev_lookupIn dX1_shapeOf_1 rfl c3 rfl (t := 66) rfl ?_
        refine ev_ldcS dX1_shapeOf_66 (pc' := 68) rfl (by decide +kernel) xq_1_54 ?_
        obtain rfl := h
        exact ev_areturn dX1_shapeOf_68 rfl (by decide) q
      · replace h := it_f c3 h
        by_cases c4 : a1 = 112
        · replace h := it_t c4 h
          refine ev_lookupIn dX1_shapeOf_1 rfl c4 rfl (t := 72) rfl ?_
          refine ev_ldcS dX1_shapeOf_72 (pc' := 74) rfl (by decide +kernel) xq_1_58 ?_
          obtain rfl := h
          exact ev_areturn dX1_shapeOf_74 rfl (by decide) q
        · replace h := it_f c4 h
          by_cases c5 : a1 = 114
          · replace h := it_t c5 h
            refine ev_lookupIn dX1_shapeOf_1 rfl c5 rfl (t := 63) rfl ?_
            refine ev_ldcS dX1_shapeOf_63 (pc' := 65) rfl (by decide +kernel) xq_1_52 ?_
            obtain rfl := h
            exact ev_areturn dX1_shapeOf_65 rfl (by decide) q
          · replace h := it_f c5 h
            by_cases c6 : a1 = 121
            · replace h := it_t c6 h
              refine ev_lookupIn dX1_shapeOf_1 rfl c6 rfl (t := 75) rfl ?_
              refine ev_ldcS dX1_shapeOf_75 (pc' := 77) rfl (by decide +kernel) xq_1_60 ?_
              obtain rfl := h
              exact ev_areturn dX1_shapeOf_77 rfl (by decide) q
            · replace h := it_f c6 h
              refine ev_lookupDef dX1_shapeOf_1 rfl [99, 101, 108, 112, 114, 121] (by decide) (List.forall_mem_cons.mpr ⟨c1, List.forall_mem_cons.mpr ⟨c2, List.forall_mem_cons.mpr ⟨c3, List.forall_mem_cons.mpr ⟨c4, List.forall_mem_cons.mpr ⟨c5, List.forall_mem_cons.mpr ⟨c6, fun _ h => absurd h List.not_mem_nil⟩⟩⟩⟩⟩⟩) (t := 78) rfl ?_
              refine ev_ldcS dX1_shapeOf_78 (pc' := 80) rfl (by decide +kernel) xq_1_30 ?_
              obtain rfl := h
              exact ev_areturn dX1_shapeOf_80 rfl (by decide) q
theorem X1_shapeOf_kd (a1 : Int32) : kd (X1_shapeOf a1) = 7 := by
  unfold X1_shapeOf
  (repeat' split) <;> rfl
