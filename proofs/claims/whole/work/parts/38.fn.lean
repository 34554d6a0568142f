def X4_readsStatement (_o : Nat) (mem : Mm) : Option (Int32 × Mm) := ob (X4_here 35 mem) (fun y1 => nm (mset mem 35 12 ((mem 35 12) + 1)) (fun m2 => if y1 = 99 then (ob2 (X4_readsKind 35 m2) (fun y4 m5 => if y4 = 0 then (some (0, m5)) else (ob2 (X4_readsNumber 35 1 3 m5) (fun y7 m8 => if y7 = 0 then (some (0, m8)) else (ob2 (X4_readsNumber 35 2 3 m8) (fun y10 m11 => if y10 = 0 then (some (0, m11)) else (ob2 (X4_readsNumber 35 3 2 m11) (fun y13 m14 => if y13 = 0 then (some (0, m14)) else (ob2 (X4_readsNumber 35 4 1 m14) (fun y16 m17 => if y16 = 0 then (some (0, m17)) else (ob (X4_here 35 m17) (fun y19 => if y19 = 59 then (nm (mset m17 35 12 ((m17 35 12) + 1)) (fun m21 => some (1, m21))) else (some (0, m17)))))))))))))) else (if y1 = 101 then (ob2 (X4_readsNumber 35 0 1 m2) (fun y23 m24 => if y23 = 0 then (some (0, m24)) else (ob (X4_here 35 m24) (fun y26 => if y26 = 59 then (nm (mset m24 35 12 ((m24 35 12) + 1)) (fun m28 => some (1, m28))) else (some (0, m24)))))) else (if y1 = 108 then (ob2 (X4_readsNumber 35 0 1 m2) (fun y30 m31 => if y30 = 0 then (some (0, m31)) else (ob (X4_here 35 m31) (fun y33 => if y33 = 59 then (nm (mset m31 35 12 ((m31 35 12) + 1)) (fun m35 => some (1, m35))) else (some (0, m31)))))) else (if y1 = 112 then (ob2 (X4_readsNumber 35 0 1 m2) (fun y37 m38 => if y37 = 0 then (some (0, m38)) else (ob2 (X4_readsNumber 35 1 1 m38) (fun y40 m41 => if y40 = 0 then (some (0, m41)) else (ob2 (X4_readsNumber 35 2 3 m41) (fun y43 m44 => if y43 = 0 then (some (0, m44)) else (ob (X4_here 35 m44) (fun y46 => if y46 = 59 then (nm (mset m44 35 12 ((m44 35 12) + 1)) (fun m48 => some (1, m48))) else (some (0, m44)))))))))) else (if y1 = 114 then (ob2 (X4_readsNumber 35 0 2 m2) (fun y50 m51 => if y50 = 0 then (some (0, m51)) else (ob (X4_here 35 m51) (fun y53 => if y53 = 59 then (nm (mset m51 35 12 ((m51 35 12) + 1)) (fun m55 => some (1, m55))) else (some (0, m51)))))) else (if y1 = 121 then (ob2 (X4_readsNumber 35 0 2 m2) (fun y57 m58 => if y57 = 0 then (some (0, m58)) else (ob (X4_here 35 m58) (fun y60 => if y60 = 59 then (nm (mset m58 35 12 ((m58 35 12) + 1)) (fun m62 => some (1, m62))) else (some (0, m58)))))) else (nm (mset m2 35 12 ((m2 35 12) - 1)) (fun m63 => some (0, m63))))))))))
set_option maxRecDepth 100000 in
set_option maxHeartbeats 8000000 in
theorem X4_readsStatement_ca {S : Sc} {d : Nat}  {mem : Mm} {rr : Int32} {mr : Mm} {Q : Po}  (h : X4_readsStatement 35 mem = some (rr, mr)) (q : Q (some (.int rr)) mr) : Ca S (d + 3) 131 [.ref 35] mem Q := by
  unfold X4_readsStatement at h
  refine ca_in (by decide) mt_X4_readsStatement (Nat.le_of_ble_eq_true rfl) ?_
  show Ev S (d + 2) 4 cX4_readsStatement (some .boolean) 0 [some (.ref 35), none, none] [] mem Q
  refine ev_aload_n dX4_readsStatement_0 (pc' := 1) rfl rfl ?_
  obtain ⟨y1, x_y1, h⟩ := ob_of h
  refine ev_invV dX4_readsStatement_1 (pc' := 4) rfl sq_4_92 mt_X4_here rfl (arecv_ob (x := 35) rfl rfl (by decide) kn_35) ⟨_, rfl, Nat.le_of_ble_eq_true rfl, Nat.le_of_ble_eq_true rfl, rfl, rfl⟩ ?_
  refine X4_here_ca  x_y1 ?_
  refine ev_r1 ?_
  refine ev_istore_n dX4_readsStatement_4 (pc' := 5) (ls' := [some (.ref 35), some (.int y1), none]) rfl (Nat.le_of_ble_eq_true rfl) rfl ?_
  refine ev_aload_n dX4_readsStatement_5 (pc' := 6) rfl rfl ?_
  refine ev_dup dX4_readsStatement_6 (pc' := 7) rfl rfl ?_
  refine ev_get dX4_readsStatement_7 (pc' := 10) rfl fq_4_89 kn_35 rfl ?_
  refine ev_iconst dX4_readsStatement_10 (pc' := 11) (v := 1) rfl (by decide) ?_
  refine ev_iadd dX4_readsStatement_11 (pc' := 12) rfl ?_
  refine ev_put dX4_readsStatement_12 (pc' := 15) rfl fq_4_89 kn_35 rfl (Or.inl (by decide)) ?_
  refine ev_topm (fun m2 e_m2 => ?_)
  replace h := nm_at e_m2 h
  refine ev_iload_n dX4_readsStatement_15 (pc' := 16) rfl rfl ?_
  by_cases c3 : y1 = 99
  · replace h := it_t c3 h
    refine ev_lookupIn dX4_readsStatement_16 rfl c3 rfl (t := 76) rfl ?_
    refine ev_aload_n dX4_readsStatement_76 (pc' := 77) rfl rfl ?_
    obtain ⟨y4, m5, x_y4, h⟩ := ob2_of h
    refine ev_invV dX4_readsStatement_77 (pc' := 80) rfl sq_4_99 mt_X4_readsKind rfl (arecv_ob (x := 35) rfl rfl (by decide) kn_35) ⟨_, rfl, Nat.le_of_ble_eq_true rfl, Nat.le_of_ble_eq_true rfl, rfl, rfl⟩ ?_
    refine X4_readsKind_ca  x_y4 ?_
    refine ev_r1 ?_
    refine ev_if_eq dX4_readsStatement_80 (pc' := 83) rfl (t := 123) rfl (fun c6 => ?_) (fun c6 => ?_)
    · replace h := it_t c6 h
      refine ev_iconst dX4_readsStatement_123 (pc' := 124) (v := 0) rfl (by decide) ?_
      refine ev_istore_n dX4_readsStatement_124 (pc' := 125) (ls' := [some (.ref 35), some (.int y1), some (.int 0)]) rfl (Nat.le_of_ble_eq_true rfl) rfl ?_
      refine ev_goto dX4_readsStatement_125 (t := 196) rfl ?_
      refine ev_iload_n dX4_readsStatement_196 (pc' := 197) rfl rfl ?_
      refine ev_if_eq dX4_readsStatement_197 (pc' := 200) rfl (t := 209) rfl (fun _ => ?_) (fun q => absurd (by decide) q)
      refine ev_iconst dX4_readsStatement_209 (pc' := 210) (v := 0) rfl (by decide) ?_
      obtain ⟨rfl, rfl⟩ := rt2 h
      exact ev_ireturn dX4_readsStatement_210 (aret_z (by decide)) q
    · replace h := it_f c6 h
      refine ev_aload_n dX4_readsStatement_83 (pc' := 84) rfl rfl ?_
      refine ev_iconst dX4_readsStatement_84 (pc' := 85) (v := 1) rfl (by decide) ?_
      refine ev_iconst dX4_readsStatement_85 (pc' := 86) (v := 3) rfl (by decide) ?_
      obtain ⟨y7, m8, x_y7, h⟩ := ob2_of h
      refine ev_invV dX4_readsStatement_86 (pc' := 89) rfl sq_4_103 mt_X4_readsNumber rfl (arecv_ob (x := 35) rfl rfl (by decide) kn_35) ⟨_, rfl, Nat.le_of_ble_eq_true rfl, Nat.le_of_ble_eq_true rfl, rfl, rfl⟩ ?_
      refine X4_readsNumber_ca  x_y7 ?_
      refine ev_r1 ?_
      refine ev_if_eq dX4_readsStatement_89 (pc' := 92) rfl (t := 123) rfl (fun c9 => ?_) (fun c9 => ?_)
      · replace h := it_t c9 h
        refine ev_iconst dX4_readsStatement_123 (pc' := 124) (v := 0) rfl (by decide) ?_
        refine ev_istore_n dX4_readsStatement_124 (pc' := 125) (ls' := [some (.ref 35), some (.int y1), some (.int 0)]) rfl (Nat.le_of_ble_eq_true rfl) rfl ?_
        refine ev_goto dX4_readsStatement_125 (t := 196) rfl ?_
        refine ev_iload_n dX4_readsStatement_196 (pc' := 197) rfl rfl ?_
        refine ev_if_eq dX4_readsStatement_197 (pc' := 200) rfl (t := 209) rfl (fun _ => ?_) (fun q => absurd (by decide) q)
        refine ev_iconst dX4_readsStatement_209 (pc' := 210) (v := 0) rfl (by decide) ?_
        obtain ⟨rfl, rfl⟩ := rt2 h
        exact ev_ireturn dX4_readsStatement_210 (aret_z (by decide)) q
      · replace h := it_f c9 h
        refine ev_aload_n dX4_readsStatement_92 (pc' := 93) rfl rfl ?_
        refine ev_iconst dX4_readsStatement_93 (pc' := 94) (v := 2) rfl (by decide) ?_
        refine ev_iconst dX4_readsStatement_94 (pc' := 95) (v := 3) rfl (by decide) ?_
        obtain ⟨y10, m11, x_y10, h⟩ := ob2_of h
        refine ev_invV dX4_readsStatement_95 (pc' := 98) rfl sq_4_103 mt_X4_readsNumber rfl (arecv_ob (x := 35) rfl rfl (by decide) kn_35) ⟨_, rfl, Nat.le_of_ble_eq_true rfl, Nat.le_of_ble_eq_true rfl, rfl, rfl⟩ ?_
        refine X4_readsNumber_ca  x_y10 ?_
        refine ev_r1 ?_
        refine ev_if_eq dX4_readsStatement_98 (pc' := 101) rfl (t := 123) rfl (fun c12 => ?_) (fun c12 => ?_)
        · replace h := it_t c12 h
          refine ev_iconst dX4_readsStatement_123 (pc' := 124) (v := 0) rfl (by decide) ?_
          refine ev_istore_n dX4_readsStatement_124 (pc' := 125) (ls' := [some (.ref 35), some (.int y1), some (.int 0)]) rfl (Nat.le_of_ble_eq_true rfl) rfl ?_
          refine ev_goto dX4_readsStatement_125 (t := 196) rfl ?_
          refine ev_iload_n dX4_readsStatement_196 (pc' := 197) rfl rfl ?_
          refine ev_if_eq dX4_readsStatement_197 (pc' := 200) rfl (t := 209) rfl (fun _ => ?_) (fun q => absurd (by decide) q)
          refine ev_iconst dX4_readsStatement_209 (pc' := 210) (v := 0) rfl (by decide) ?_
          obtain ⟨rfl, rfl⟩ := rt2 h
          exact ev_ireturn dX4_readsStatement_210 (aret_z (by decide)) q
        · replace h := it_f c12 h
          refine ev_aload_n dX4_readsStatement_101 (pc' := 102) rfl rfl ?_
          refine ev_iconst dX4_readsStatement_102 (pc' := 103) (v := 3) rfl (by decide) ?_
          refine ev_iconst dX4_readsStatement_103 (pc' := 104) (v := 2) rfl (by decide) ?_
          obtain ⟨y13, m14, x_y13, h⟩ := ob2_of h
          refine ev_invV dX4_readsStatement_104 (pc' := 107) rfl sq_4_103 mt_X4_readsNumber rfl (arecv_ob (x := 35) rfl rfl (by decide) kn_35) ⟨_, rfl, Nat.le_of_ble_eq_true rfl, Nat.le_of_ble_eq_true rfl, rfl, rfl⟩ ?_
          refine X4_readsNumber_ca  x_y13 ?_
          refine ev_r1 ?_
          refine ev_if_eq dX4_readsStatement_107 (pc' := 110) rfl (t := 123) rfl (fun c15 => ?_) (fun c15 => ?_)
          · replace h := it_t c15 h
            refine ev_iconst dX4_readsStatement_123 (pc' := 124) (v := 0) rfl (by decide) ?_
            refine ev_istore_n dX4_readsStatement_124 (pc' := 125) (ls' := [some (.ref 35), some (.int y1), some (.int 0)]) rfl (Nat.le_of_ble_eq_true rfl) rfl ?_
            refine ev_goto dX4_readsStatement_125 (t := 196) rfl ?_
            refine ev_iload_n dX4_readsStatement_196 (pc' := 197) rfl rfl ?_
            refine ev_if_eq dX4_readsStatement_197 (pc' := 200) rfl (t := 209) rfl (fun _ => ?_) (fun q => absurd (by decide) q)
            refine ev_iconst dX4_readsStatement_209 (pc' := 210) (v := 0) rfl (by decide) ?_
            obtain ⟨rfl, rfl⟩ := rt2 h
            exact ev_ireturn dX4_readsStatement_210 (aret_z (by decide)) q
          · replace h := it_f c15 h
            refine ev_aload_n dX4_readsStatement_110 (pc' := 111) rfl rfl ?_
            refine ev_iconst dX4_readsStatement_111 (pc' := 112) (v := 4) rfl (by decide) ?_
            refine ev_iconst dX4_readsStatement_112 (pc' := 113) (v := 1) rfl (by decide) ?_
            obtain ⟨y16, m17, x_y16, h⟩ := ob2_of h
            refine ev_invV dX4_readsStatement_113 (pc' := 116) rfl sq_4_103 mt_X4_readsNumber rfl (arecv_ob (x := 35) rfl rfl (by decide) kn_35) ⟨_, rfl, Nat.le_of_ble_eq_true rfl, Nat.le_of_ble_eq_true rfl, rfl, rfl⟩ ?_
            refine X4_readsNumber_ca  x_y16 ?_
            refine ev_r1 ?_
            refine ev_if_eq dX4_readsStatement_116 (pc' := 119) rfl (t := 123) rfl (fun c18 => ?_) (fun c18 => ?_)
            · replace h := it_t c18 h
              refine ev_iconst dX4_readsStatement_123 (pc' := 124) (v := 0) rfl (by decide) ?_
              refine ev_istore_n dX4_readsStatement_124 (pc' := 125) (ls' := [some (.ref 35), some (.int y1), some (.int 0)]) rfl (Nat.le_of_ble_eq_true rfl) rfl ?_
              refine ev_goto dX4_readsStatement_125 (t := 196) rfl ?_
              refine ev_iload_n dX4_readsStatement_196 (pc' := 197) rfl rfl ?_
              refine ev_if_eq dX4_readsStatement_197 (pc' := 200) rfl (t := 209) rfl (fun _ => ?_) (fun q => absurd (by decide) q)
              refine ev_iconst dX4_readsStatement_209 (pc' := 210) (v := 0) rfl (by decide) ?_
              obtain ⟨rfl, rfl⟩ := rt2 h
              exact ev_ireturn dX4_readsStatement_210 (aret_z (by decide)) q
            · replace h := it_f c18 h
              refine ev_iconst dX4_readsStatement_119 (pc' := 120) (v := 1) rfl (by decide) ?_
              refine ev_goto dX4_readsStatement_120 (t := 124) rfl ?_
              refine ev_istore_n dX4_readsStatement_124 (pc' := 125) (ls' := [some (.ref 35), some (.int y1), some (.int 1)]) rfl (Nat.le_of_ble_eq_true rfl) rfl ?_
              refine ev_goto dX4_readsStatement_125 (t := 196) rfl ?_
              refine ev_iload_n dX4_readsStatement_196 (pc' := 197) rfl rfl ?_
              refine ev_if_eq dX4_readsStatement_197 (pc' := 200) rfl (t := 209) rfl (fun q => absurd q (by decide)) (fun _ => ?_)
              refine ev_aload_n dX4_readsStatement_200 (pc' := 201) rfl rfl ?_
              obtain ⟨y19, x_y19, h⟩ := ob_of h
              refine ev_invV dX4_readsStatement_201 (pc' := 204) rfl sq_4_92 mt_X4_here rfl (arecv_ob (x := 35) rfl rfl (by decide) kn_35) ⟨_, rfl, Nat.le_of_ble_eq_true rfl, Nat.le_of_ble_eq_true rfl, rfl, rfl⟩ ?_
              refine X4_here_ca  x_y19 ?_
              refine ev_r1 ?_
              refine ev_bipush dX4_readsStatement_204 (pc' := 206) (v := 59) rfl (by decide) ?_
              refine ev_icmp_eq dX4_readsStatement_206 (pc' := 209) rfl (t := 211) rfl (fun c20 => ?_) (fun c20 => ?_)
              · replace h := it_t c20 h
                refine ev_aload_n dX4_readsStatement_211 (pc' := 212) rfl rfl ?_
                refine ev_dup dX4_readsStatement_212 (pc' := 213) rfl rfl ?_
                refine ev_get dX4_readsStatement_213 (pc' := 216) rfl fq_4_89 kn_35 rfl ?_
                refine ev_iconst dX4_readsStatement_216 (pc' := 217) (v := 1) rfl (by decide) ?_
                refine ev_iadd dX4_readsStatement_217 (pc' := 218) rfl ?_
                refine ev_put dX4_readsStatement_218 (pc' := 221) rfl fq_4_89 kn_35 rfl (Or.inl (by decide)) ?_
                refine ev_topm (fun m21 e_m21 => ?_)
                replace h := nm_at e_m21 h
                refine ev_iconst dX4_readsStatement_221 (pc' := 222) (v := 1) rfl (by decide) ?_
                obtain ⟨rfl, rfl⟩ := rt2 h
                exact ev_ireturn dX4_readsStatement_222 (aret_z (by decide)) q
              · replace h := it_f c20 h
                refine ev_iconst dX4_readsStatement_209 (pc' := 210) (v := 0) rfl (by decide) ?_
                obtain ⟨rfl, rfl⟩ := rt2 h
                exact ev_ireturn dX4_readsStatement_210 (aret_z (by decide)) q
  · replace h := it_f c3 h
    by_cases c22 : y1 = 101
    · replace h := it_t c22 h
      refine ev_lookupIn dX4_readsStatement_16 rfl c22 rfl (t := 138) rfl ?_
      refine ev_aload_n dX4_readsStatement_138 (pc' := 139) rfl rfl ?_
      refine ev_iconst dX4_readsStatement_139 (pc' := 140) (v := 0) rfl (by decide) ?_
      refine ev_iconst dX4_readsStatement_140 (pc' := 141) (v := 1) rfl (by decide) ?_
      obtain ⟨y23, m24, x_y23, h⟩ := ob2_of h
      refine ev_invV dX4_readsStatement_141 (pc' := 144) rfl sq_4_103 mt_X4_readsNumber rfl (arecv_ob (x := 35) rfl rfl (by decide) kn_35) ⟨_, rfl, Nat.le_of_ble_eq_true rfl, Nat.le_of_ble_eq_true rfl, rfl, rfl⟩ ?_
      refine X4_readsNumber_ca  x_y23 ?_
      refine ev_r1 ?_
      refine ev_istore_n dX4_readsStatement_144 (pc' := 145) (ls' := [some (.ref 35), some (.int y1), some (.int y23)]) rfl (Nat.le_of_ble_eq_true rfl) rfl ?_
      refine ev_goto dX4_readsStatement_145 (t := 196) rfl ?_
      refine ev_iload_n dX4_readsStatement_196 (pc' := 197) rfl rfl ?_
      refine ev_if_eq dX4_readsStatement_197 (pc' := 200) rfl (t := 209) rfl (fun c25 => ?_) (fun c25 => ?_)
      · replace h := it_t c25 h
        refine ev_iconst dX4_readsStatement_209 (pc' := 210) (v := 0) rfl (by decide) ?_
        obtain ⟨rfl, rfl⟩ := rt2 h
        exact ev_ireturn dX4_readsStatement_210 (aret_z (by decide)) q
      · replace h := it_f c25 h
        refine ev_aload_n dX4_readsStatement_200 (pc' := 201) rfl rfl ?_
        obtain ⟨y26, x_y26, h⟩ := ob_of h
        refine ev_invV dX4_readsStatement_201 (pc' := 204) rfl sq_4_92 mt_X4_here rfl (arecv_ob (x := 35) rfl rfl (by decide) kn_35) ⟨_, rfl, Nat.le_of_ble_eq_true rfl, Nat.le_of_ble_eq_true rfl, rfl, rfl⟩ ?_
        refine X4_here_ca  x_y26 ?_
        refine ev_r1 ?_
        refine ev_bipush dX4_readsStatement_204 (pc' := 206) (v := 59) rfl (by decide) ?_
        refine ev_icmp_eq dX4_readsStatement_206 (pc' := 209) rfl (t := 211) rfl (fun c27 => ?_) (fun c27 => ?_)
        · replace h := it_t c27 h
          refine ev_aload_n dX4_readsStatement_211 (pc' := 212) rfl rfl ?_
          refine ev_dup dX4_readsStatement_212 (pc' := 213) rfl rfl ?_
          refine ev_get dX4_readsStatement_213 (pc' := 216) rfl fq_4_89 kn_35 rfl ?_
          refine ev_iconst dX4_readsStatement_216 (pc' := 217) (v := 1) rfl (by decide) ?_
          refine ev_iadd dX4_readsStatement_217 (pc' := 218) rfl ?_
          refine ev_put dX4_readsStatement_218 (pc' := 221) rfl fq_4_89 kn_35 rfl (Or.inl (by decide)) ?_
          refine ev_topm (fun m28 e_m28 => ?_)
          replace h := nm_at e_m28 h
          refine ev_iconst dX4_readsStatement_221 (pc' := 222) (v := 1) rfl (by decide) ?_
          obtain ⟨rfl, rfl⟩ := rt2 h
          exact ev_ireturn dX4_readsStatement_222 (aret_z (by decide)) q
        · replace h := it_f c27 h
          refine ev_iconst dX4_readsStatement_209 (pc' := 210) (v := 0) rfl (by decide) ?_
          obtain ⟨rfl, rfl⟩ := rt2 h
          exact ev_ireturn dX4_readsStatement_210 (aret_z (by decide)) q
    · replace h := it_f c22 h
      by_cases c29 : y1 = 108
      · replace h := it_t c29 h
        refine ev_lookupIn dX4_readsStatement_16 rfl c29 rfl (t := 138) rfl ?_
        refine ev_aload_n dX4_readsStatement_138 (pc' := 139) rfl rfl ?_
        refine ev_iconst dX4_readsStatement_139 (pc' := 140) (v := 0) rfl (by decide) ?_
        refine ev_iconst dX4_readsStatement_140 (pc' := 141) (v := 1) rfl (by decide) ?_
        obtain ⟨y30, m31, x_y30, h⟩ := ob2_of h
        refine ev_invV dX4_readsStatement_141 (pc' := 144) rfl sq_4_103 mt_X4_readsNumber rfl (arecv_ob (x := 35) rfl rfl (by decide) kn_35) ⟨_, rfl, Nat.le_of_ble_eq_true rfl, Nat.le_of_ble_eq_true rfl, rfl, rfl⟩ ?_
        refine X4_readsNumber_ca  x_y30 ?_
        refine ev_r1 ?_
        refine ev_istore_n dX4_readsStatement_144 (pc' := 145) (ls' := [some (.ref 35), some (.int y1), some (.int y30)]) rfl (Nat.le_of_ble_eq_true rfl) rfl ?_
        refine ev_goto dX4_readsStatement_145 (t := 196) rfl ?_
        refine ev_iload_n dX4_readsStatement_196 (pc' := 197) rfl rfl ?_
        refine ev_if_eq dX4_readsStatement_197 (pc' := 200) rfl (t := 209) rfl (fun c32 => ?_) (fun c32 => ?_)
        · replace h := it_t c32 h
          refine ev_iconst dX4_readsStatement_209 (pc' := 210) (v := 0) rfl (by decide) ?_
          obtain ⟨rfl, rfl⟩ := rt2 h
          exact ev_ireturn dX4_readsStatement_210 (aret_z (by decide)) q
        · replace h := it_f c32 h
          refine ev_aload_n dX4_readsStatement_200 (pc' := 201) rfl rfl ?_
          obtain ⟨y33, x_y33, h⟩ := ob_of h
          refine ev_invV dX4_readsStatement_201 (pc' := 204) rfl sq_4_92 mt_X4_here rfl (arecv_ob (x := 35) rfl rfl (by decide) kn_35) ⟨_, rfl, Nat.le_of_ble_eq_true rfl, Nat.le_of_ble_eq_true rfl, rfl, rfl⟩ ?_
          refine X4_here_ca  x_y33 ?_
          refine ev_r1 ?_
          refine ev_bipush dX4_readsStatement_204 (pc' := 206) (v := 59) rfl (by decide) ?_
          refine ev_icmp_eq dX4_readsStatement_206 (pc' := 209) rfl (t := 211) rfl (fun c34 => ?_) (fun c34 => ?_)
          · replace h := it_t c34 h
            refine ev_aload_n dX4_readsStatement_211 (pc' := 212) rfl rfl ?_
            refine ev_dup dX4_readsStatement_212 (pc' := 213) rfl rfl ?_
            refine ev_get dX4_readsStatement_213 (pc' := 216) rfl fq_4_89 kn_35 rfl ?_
            refine ev_iconst dX4_readsStatement_216 (pc' := 217) (v := 1) rfl (by decide) ?_
            refine ev_iadd dX4_readsStatement_217 (pc' := 218) rfl ?_
            refine ev_put dX4_readsStatement_218 (pc' := 221) rfl fq_4_89 kn_35 rfl (Or.inl (by decide)) ?_
            refine ev_topm (fun m35 e_m35 => ?_)
            replace h := nm_at e_m35 h
            refine ev_iconst dX4_readsStatement_221 (pc' := 222) (v := 1) rfl (by decide) ?_
            obtain ⟨rfl, rfl⟩ := rt2 h
            exact ev_ireturn dX4_readsStatement_222 (aret_z (by decide)) q
          · replace h := it_f c34 h
            refine ev_iconst dX4_readsStatement_209 (pc' := 210) (v := 0) rfl (by decide) ?_
            obtain ⟨rfl, rfl⟩ := rt2 h
            exact ev_ireturn dX4_readsStatement_210 (aret_z (by decide)) q
      · replace h := it_f c29 h
        by_cases c36 : y1 = 112
        · replace h := it_t c36 h
          refine ev_lookupIn dX4_readsStatement_16 rfl c36 rfl (t := 148) rfl ?_
          refine ev_aload_n dX4_readsStatement_148 (pc' := 149) rfl rfl ?_
          refine ev_iconst dX4_readsStatement_149 (pc' := 150) (v := 0) rfl (by decide) ?_
          refine ev_iconst dX4_readsStatement_150 (pc' := 151) (v := 1) rfl (by decide) ?_
          obtain ⟨y37, m38, x_y37, h⟩ := ob2_of h
          refine ev_invV dX4_readsStatement_151 (pc' := 154) rfl sq_4_103 mt_X4_readsNumber rfl (arecv_ob (x := 35) rfl rfl (by decide) kn_35) ⟨_, rfl, Nat.le_of_ble_eq_true rfl, Nat.le_of_ble_eq_true rfl, rfl, rfl⟩ ?_
          refine X4_readsNumber_ca  x_y37 ?_
          refine ev_r1 ?_
          refine ev_if_eq dX4_readsStatement_154 (pc' := 157) rfl (t := 179) rfl (fun c39 => ?_) (fun c39 => ?_)
          · replace h := it_t c39 h
            refine ev_iconst dX4_readsStatement_179 (pc' := 180) (v := 0) rfl (by decide) ?_
            refine ev_istore_n dX4_readsStatement_180 (pc' := 181) (ls' := [some (.ref 35), some (.int y1), some (.int 0)]) rfl (Nat.le_of_ble_eq_true rfl) rfl ?_
            refine ev_goto dX4_readsStatement_181 (t := 196) rfl ?_
            refine ev_iload_n dX4_readsStatement_196 (pc' := 197) rfl rfl ?_
            refine ev_if_eq dX4_readsStatement_197 (pc' := 200) rfl (t := 209) rfl (fun _ => ?_) (fun q => absurd (by decide) q)
            refine ev_iconst dX4_readsStatement_209 (pc' := 210) (v := 0) rfl (by decide) ?_
            obtain ⟨rfl, rfl⟩ := rt2 h
            exact ev_ireturn dX4_readsStatement_210 (aret_z (by decide)) q
          · replace h := it_f c39 h
            refine ev_aload_n dX4_readsStatement_157 (pc' := 158) rfl rfl ?_
            refine ev_iconst dX4_readsStatement_158 (pc' := 159) (v := 1) rfl (by decide) ?_
            refine ev_iconst dX4_readsStatement_159 (pc' := 160) (v := 1) rfl (by decide) ?_
            obtain ⟨y40, m41, x_y40, h⟩ := ob2_of h
            refine ev_invV dX4_readsStatement_160 (pc' := 163) rfl sq_4_103 mt_X4_readsNumber rfl (arecv_ob (x := 35) rfl rfl (by decide) kn_35) ⟨_, rfl, Nat.le_of_ble_eq_true rfl, Nat.le_of_ble_eq_true rfl, rfl, rfl⟩ ?_
            refine X4_readsNumber_ca  x_y40 ?_
            refine ev_r1 ?_
            refine ev_if_eq dX4_readsStatement_163 (pc' := 166) rfl (t := 179) rfl (fun c42 => ?_) (fun c42 => ?_)
            · replace h := it_t c42 h
              refine ev_iconst dX4_readsStatement_179 (pc' := 180) (v := 0) rfl (by decide) ?_
              refine ev_istore_n dX4_readsStatement_180 (pc' := 181) (ls' := [some (.ref 35), some (.int y1), some (.int 0)]) rfl (Nat.le_of_ble_eq_true rfl) rfl ?_
              refine ev_goto dX4_readsStatement_181 (t := 196) rfl ?_
              refine ev_iload_n dX4_readsStatement_196 (pc' := 197) rfl rfl ?_
              refine ev_if_eq dX4_readsStatement_197 (pc' := 200) rfl (t := 209) rfl (fun _ => ?_) (fun q => absurd (by decide) q)
              refine ev_iconst dX4_readsStatement_209 (pc' := 210) (v := 0) rfl (by decide) ?_
              obtain ⟨rfl, rfl⟩ := rt2 h
              exact ev_ireturn dX4_readsStatement_210 (aret_z (by decide)) q
            · replace h := it_f c42 h
              refine ev_aload_n dX4_readsStatement_166 (pc' := 167) rfl rfl ?_
              refine ev_iconst dX4_readsStatement_167 (pc' := 168) (v := 2) rfl (by decide) ?_
              refine ev_iconst dX4_readsStatement_168 (pc' := 169) (v := 3) rfl (by decide) ?_
              obtain ⟨y43, m44, x_y43, h⟩ := ob2_of h
              refine ev_invV dX4_readsStatement_169 (pc' := 172) rfl sq_4_103 mt_X4_readsNumber rfl (arecv_ob (x := 35) rfl rfl (by decide) kn_35) ⟨_, rfl, Nat.le_of_ble_eq_true rfl, Nat.le_of_ble_eq_true rfl, rfl, rfl⟩ ?_
              refine X4_readsNumber_ca  x_y43 ?_
              refine ev_r1 ?_
              refine ev_if_eq dX4_readsStatement_172 (pc' := 175) rfl (t := 179) rfl (fun c45 => ?_) (fun c45 => ?_)
              · replace h := it_t c45 h
                refine ev_iconst dX4_readsStatement_179 (pc' := 180) (v := 0) rfl (by decide) ?_
                refine ev_istore_n dX4_readsStatement_180 (pc' := 181) (ls' := [some (.ref 35), some (.int y1), some (.int 0)]) rfl (Nat.le_of_ble_eq_true rfl) rfl ?_
                refine ev_goto dX4_readsStatement_181 (t := 196) rfl ?_
                refine ev_iload_n dX4_readsStatement_196 (pc' := 197) rfl rfl ?_
                refine ev_if_eq dX4_readsStatement_197 (pc' := 200) rfl (t := 209) rfl (fun _ => ?_) (fun q => absurd (by decide) q)
                refine ev_iconst dX4_readsStatement_209 (pc' := 210) (v := 0) rfl (by decide) ?_
                obtain ⟨rfl, rfl⟩ := rt2 h
                exact ev_ireturn dX4_readsStatement_210 (aret_z (by decide)) q
              · replace h := it_f c45 h
                refine ev_iconst dX4_readsStatement_175 (pc' := 176) (v := 1) rfl (by decide) ?_
                refine ev_goto dX4_readsStatement_176 (t := 180) rfl ?_
                refine ev_istore_n dX4_readsStatement_180 (pc' := 181) (ls' := [some (.ref 35), some (.int y1), some (.int 1)]) rfl (Nat.le_of_ble_eq_true rfl) rfl ?_
                refine ev_goto dX4_readsStatement_181 (t := 196) rfl ?_
                refine ev_iload_n dX4_readsStatement_196 (pc' := 197) rfl rfl ?_
                refine ev_if_eq dX4_readsStatement_197 (pc' := 200) rfl (t := 209) rfl (fun q => absurd q (by decide)) (fun _ => ?_)
                refine ev_aload_n dX4_readsStatement_200 (pc' := 201) rfl rfl ?_
                obtain ⟨y46, x_y46, h⟩ := ob_of h
                refine ev_invV dX4_readsStatement_201 (pc' := 204) rfl sq_4_92 mt_X4_here rfl (arecv_ob (x := 35) rfl rfl (by decide) kn_35) ⟨_, rfl, Nat.le_of_ble_eq_true rfl, Nat.le_of_ble_eq_true rfl, rfl, rfl⟩ ?_
                refine X4_here_ca  x_y46 ?_
                refine ev_r1 ?_
                refine ev_bipush dX4_readsStatement_204 (pc' := 206) (v := 59) rfl (by decide) ?_
                refine ev_icmp_eq dX4_readsStatement_206 (pc' := 209) rfl (t := 211) rfl (fun c47 => ?_) (fun c47 => ?_)
                · replace h := it_t c47 h
                  refine ev_aload_n dX4_readsStatement_211 (pc' := 212) rfl rfl ?_
                  refine ev_dup dX4_readsStatement_212 (pc' := 213) rfl rfl ?_
                  refine ev_get dX4_readsStatement_213 (pc' := 216) rfl fq_4_89 kn_35 rfl ?_
                  refine ev_iconst dX4_readsStatement_216 (pc' := 217) (v := 1) rfl (by decide) ?_
                  refine ev_iadd dX4_readsStatement_217 (pc' := 218) rfl ?_
                  refine ev_put dX4_readsStatement_218 (pc' := 221) rfl fq_4_89 kn_35 rfl (Or.inl (by decide)) ?_
                  refine ev_topm (fun m48 e_m48 => ?_)
                  replace h := nm_at e_m48 h
                  refine ev_iconst dX4_readsStatement_221 (pc' := 222) (v := 1) rfl (by decide) ?_
                  obtain ⟨rfl, rfl⟩ := rt2 h
                  exact ev_ireturn dX4_readsStatement_222 (aret_z (by decide)) q
                · replace h := it_f c47 h
                  refine ev_iconst dX4_readsStatement_209 (pc' := 210) (v := 0) rfl (by decide) ?_
                  obtain ⟨rfl, rfl⟩ := rt2 h
                  exact ev_ireturn dX4_readsStatement_210 (aret_z (by decide)) q
        · replace h := it_f c36 h
          by_cases c49 : y1 = 114
          · replace h := it_t c49 h
            refine ev_lookupIn dX4_readsStatement_16 rfl c49 rfl (t := 128) rfl ?_
            refine ev_aload_n dX4_readsStatement_128 (pc' := 129) rfl rfl ?_
            refine ev_iconst dX4_readsStatement_129 (pc' := 130) (v := 0) rfl (by decide) ?_
            refine ev_iconst dX4_readsStatement_130 (pc' := 131) (v := 2) rfl (by decide) ?_
            obtain ⟨y50, m51, x_y50, h⟩ := ob2_of h
            refine ev_invV dX4_readsStatement_131 (pc' := 134) rfl sq_4_103 mt_X4_readsNumber rfl (arecv_ob (x := 35) rfl rfl (by decide) kn_35) ⟨_, rfl, Nat.le_of_ble_eq_true rfl, Nat.le_of_ble_eq_true rfl, rfl, rfl⟩ ?_
            refine X4_readsNumber_ca  x_y50 ?_
            refine ev_r1 ?_
            refine ev_istore_n dX4_readsStatement_134 (pc' := 135) (ls' := [some (.ref 35), some (.int y1), some (.int y50)]) rfl (Nat.le_of_ble_eq_true rfl) rfl ?_
            refine ev_goto dX4_readsStatement_135 (t := 196) rfl ?_
            refine ev_iload_n dX4_readsStatement_196 (pc' := 197) rfl rfl ?_
            refine ev_if_eq dX4_readsStatement_197 (pc' := 200) rfl (t := 209) rfl (fun c52 => ?_) (fun c52 => ?_)
            · replace h := it_t c52 h
              refine ev_iconst dX4_readsStatement_209 (pc' := 210) (v := 0) rfl (by decide) ?_
              obtain ⟨rfl, rfl⟩ := rt2 h
              exact ev_ireturn dX4_readsStatement_210 (aret_z (by decide)) q
            · replace h := it_f c52 h
              refine ev_aload_n dX4_readsStatement_200 (pc' := 201) rfl rfl ?_
              obtain ⟨y53, x_y53, h⟩ := ob_of h
              refine ev_invV dX4_readsStatement_201 (pc' := 204) rfl sq_4_92 mt_X4_here rfl (arecv_ob (x := 35) rfl rfl (by decide) kn_35) ⟨_, rfl, Nat.le_of_ble_eq_true rfl, Nat.le_of_ble_eq_true rfl, rfl, rfl⟩ ?_
              refine X4_here_ca  x_y53 ?_
              refine ev_r1 ?_
              refine ev_bipush dX4_readsStatement_204 (pc' := 206) (v := 59) rfl (by decide) ?_
              refine ev_icmp_eq dX4_readsStatement_206 (pc' := 209) rfl (t := 211) rfl (fun c54 => ?_) (fun c54 => ?_)
              · replace h := it_t c54 h
                refine ev_aload_n dX4_readsStatement_211 (pc' := 212) rfl rfl ?_
                refine ev_dup dX4_readsStatement_212 (pc' := 213) rfl rfl ?_
                refine ev_get dX4_readsStatement_213 (pc' := 216) rfl fq_4_89 kn_35 rfl ?_
                refine ev_iconst dX4_readsStatement_216 (pc' := 217) (v := 1) rfl (by decide) ?_
                refine ev_iadd dX4_readsStatement_217 (pc' := 218) rfl ?_
                refine ev_put dX4_readsStatement_218 (pc' := 221) rfl fq_4_89 kn_35 rfl (Or.inl (by decide)) ?_
                refine ev_topm (fun m55 e_m55 => ?_)
                replace h := nm_at e_m55 h
                refine ev_iconst dX4_readsStatement_221 (pc' := 222) (v := 1) rfl (by decide) ?_
                obtain ⟨rfl, rfl⟩ := rt2 h
                exact ev_ireturn dX4_readsStatement_222 (aret_z (by decide)) q
              · replace h := it_f c54 h
                refine ev_iconst dX4_readsStatement_209 (pc' := 210) (v := 0) rfl (by decide) ?_
                obtain ⟨rfl, rfl⟩ := rt2 h
                exact ev_ireturn dX4_readsStatement_210 (aret_z (by decide)) q
          · replace h := it_f c49 h
            by_cases c56 : y1 = 121
            · replace h := it_t c56 h
              refine ev_lookupIn dX4_readsStatement_16 rfl c56 rfl (t := 128) rfl ?_
              refine ev_aload_n dX4_readsStatement_128 (pc' := 129) rfl rfl ?_
              refine ev_iconst dX4_readsStatement_129 (pc' := 130) (v := 0) rfl (by decide) ?_
              refine ev_iconst dX4_readsStatement_130 (pc' := 131) (v := 2) rfl (by decide) ?_
              obtain ⟨y57, m58, x_y57, h⟩ := ob2_of h
              refine ev_invV dX4_readsStatement_131 (pc' := 134) rfl sq_4_103 mt_X4_readsNumber rfl (arecv_ob (x := 35) rfl rfl (by decide) kn_35) ⟨_, rfl, Nat.le_of_ble_eq_true rfl, Nat.le_of_ble_eq_true rfl, rfl, rfl⟩ ?_
              refine X4_readsNumber_ca  x_y57 ?_
              refine ev_r1 ?_
              refine ev_istore_n dX4_readsStatement_134 (pc' := 135) (ls' := [some (.ref 35), some (.int y1), some (.int y57)]) rfl (Nat.le_of_ble_eq_true rfl) rfl ?_
              refine ev_goto dX4_readsStatement_135 (t := 196) rfl ?_
              refine ev_iload_n dX4_readsStatement_196 (pc' := 197) rfl rfl ?_
              refine ev_if_eq dX4_readsStatement_197 (pc' := 200) rfl (t := 209) rfl (fun c59 => ?_) (fun c59 => ?_)
              · replace h := it_t c59 h
                refine ev_iconst dX4_readsStatement_209 (pc' := 210) (v := 0) rfl (by decide) ?_
                obtain ⟨rfl, rfl⟩ := rt2 h
                exact ev_ireturn dX4_readsStatement_210 (aret_z (by decide)) q
              · replace h := it_f c59 h
                refine ev_aload_n dX4_readsStatement_200 (pc' := 201) rfl rfl ?_
                obtain ⟨y60, x_y60, h⟩ := ob_of h
                refine ev_invV dX4_readsStatement_201 (pc' := 204) rfl sq_4_92 mt_X4_here rfl (arecv_ob (x := 35) rfl rfl (by decide) kn_35) ⟨_, rfl, Nat.le_of_ble_eq_true rfl, Nat.le_of_ble_eq_true rfl, rfl, rfl⟩ ?_
                refine X4_here_ca  x_y60 ?_
                refine ev_r1 ?_
                refine ev_bipush dX4_readsStatement_204 (pc' := 206) (v := 59) rfl (by decide) ?_
                refine ev_icmp_eq dX4_readsStatement_206 (pc' := 209) rfl (t := 211) rfl (fun c61 => ?_) (fun c61 => ?_)
                · replace h := it_t c61 h
                  refine ev_aload_n dX4_readsStatement_211 (pc' := 212) rfl rfl ?_
                  refine ev_dup dX4_readsStatement_212 (pc' := 213) rfl rfl ?_
                  refine ev_get dX4_readsStatement_213 (pc' := 216) rfl fq_4_89 kn_35 rfl ?_
                  refine ev_iconst dX4_readsStatement_216 (pc' := 217) (v := 1) rfl (by decide) ?_
                  refine ev_iadd dX4_readsStatement_217 (pc' := 218) rfl ?_
                  refine ev_put dX4_readsStatement_218 (pc' := 221) rfl fq_4_89 kn_35 rfl (Or.inl (by decide)) ?_
                  refine ev_topm (fun m62 e_m62 => ?_)
                  replace h := nm_at e_m62 h
                  refine ev_iconst dX4_readsStatement_221 (pc' := 222) (v := 1) rfl (by decide) ?_
                  obtain ⟨rfl, rfl⟩ := rt2 h
                  exact ev_ireturn dX4_readsStatement_222 (aret_z (by decide)) q
                · replace h := it_f c61 h
                  refine ev_iconst dX4_readsStatement_209 (pc' := 210) (v := 0) rfl (by decide) ?_
                  obtain ⟨rfl, rfl⟩ := rt2 h
                  exact ev_ireturn dX4_readsStatement_210 (aret_z (by decide)) q
            · replace h := it_f c56 h
              refine ev_lookupDef dX4_readsStatement_16 rfl [99, 101, 108, 112, 114, 121] (by decide) (List.forall_mem_cons.mpr ⟨c3, List.forall_mem_cons.mpr ⟨c22, List.forall_mem_cons.mpr ⟨c29, List.forall_mem_cons.mpr ⟨c36, List.forall_mem_cons.mpr ⟨c49, List.forall_mem_cons.mpr ⟨c56, fun _ h => absurd h List.not_mem_nil⟩⟩⟩⟩⟩⟩) (t := 184) rfl ?_
              refine ev_aload_n dX4_readsStatement_184 (pc' := 185) rfl rfl ?_
              refine ev_dup dX4_readsStatement_185 (pc' := 186) rfl rfl ?_
              refine ev_get dX4_readsStatement_186 (pc' := 189) rfl fq_4_89 kn_35 rfl ?_
              refine ev_iconst dX4_readsStatement_189 (pc' := 190) (v := 1) rfl (by decide) ?_
              refine ev_isub dX4_readsStatement_190 (pc' := 191) rfl ?_
              refine ev_put dX4_readsStatement_191 (pc' := 194) rfl fq_4_89 kn_35 rfl (Or.inl (by decide)) ?_
              refine ev_topm (fun m63 e_m63 => ?_)
              replace h := nm_at e_m63 h
              refine ev_iconst dX4_readsStatement_194 (pc' := 195) (v := 0) rfl (by decide) ?_
              obtain ⟨rfl, rfl⟩ := rt2 h
              exact ev_ireturn dX4_readsStatement_195 (aret_z (by decide)) q
def X4_canPour (_o : Nat) (a1 : Int32) (a2 : Int32) (a3 : Int32) (mem : Mm) : Option Int32 := gd (vin (X4_at a1 2) 47) (if (mem 36 ((X4_at a1 2)).toNatClampNeg) < a3 then (some 0) else (gd (vin (X4_at a2 2) 47) (gd (vin (X4_at a2 1) 47) (if (mem 36 ((X4_at a2 1)).toNatClampNeg) < ((mem 36 ((X4_at a2 2)).toNatClampNeg) + a3) then (some 0) else (some 1)))))
set_option maxRecDepth 100000 in
set_option maxHeartbeats 8000000 in
theorem X4_canPour_ca {S : Sc} {d : Nat} {a1 : Int32} {a2 : Int32} {a3 : Int32} {mem : Mm} {rr : Int32} {Q : Po}  (h : X4_canPour 35 a1 a2 a3 mem = some rr) (q : Q (some (.int rr)) mem) : Ca S (d + 2) 132 [.ref 35, .int a1, .int a2, .int a3] mem Q := by
  unfold X4_canPour at h
  refine ca_in (by decide) mt_X4_canPour (Nat.le_of_ble_eq_true rfl) ?_
  show Ev S (d + 1) 4 cX4_canPour (some .boolean) 0 [some (.ref 35), some (.int a1), some (.int a2), some (.int a3)] [] mem Q
  refine ev_iload_n dX4_canPour_0 (pc' := 1) rfl rfl ?_
  refine ev_aload_n dX4_canPour_1 (pc' := 2) rfl rfl ?_
  refine ev_getR (y := 36) dX4_canPour_2 (pc' := 5) rfl fq_4_9 kn_35 rfl ?_
  refine ev_iload_n dX4_canPour_5 (pc' := 6) rfl rfl ?_
  refine ev_iconst dX4_canPour_6 (pc' := 7) (v := 2) rfl (by decide) ?_
  refine ev_invS dX4_canPour_7 (pc' := 10) rfl sq_4_44 mt_X4_at rfl ⟨_, rfl, Nat.le_of_ble_eq_true rfl, Nat.le_of_ble_eq_true rfl, rfl, rfl⟩ ?_
  refine X4_at_ca  rfl ?_
  refine ev_r1 ?_
  obtain ⟨g1, h⟩ := gd_of h
  refine ev_ialdK (k0 := ((X4_at a1 2)).toNatClampNeg) dX4_canPour_10 (pc' := 11) rfl kn_36 g1 rfl ?_
  refine ev_icmp_gt dX4_canPour_11 (pc' := 14) rfl (t := 43) rfl (fun c2 => ?_) (fun c2 => ?_)
  · replace h := it_t c2 h
    refine ev_iconst dX4_canPour_43 (pc' := 44) (v := 0) rfl (by decide) ?_
    obtain rfl := rt1 h
    exact ev_ireturn dX4_canPour_44 (aret_z (by decide)) q
  · replace h := it_f c2 h
    refine ev_aload_n dX4_canPour_14 (pc' := 15) rfl rfl ?_
    refine ev_getR (y := 36) dX4_canPour_15 (pc' := 18) rfl fq_4_9 kn_35 rfl ?_
    refine ev_iload_n dX4_canPour_18 (pc' := 19) rfl rfl ?_
    refine ev_iconst dX4_canPour_19 (pc' := 20) (v := 2) rfl (by decide) ?_
    refine ev_invS dX4_canPour_20 (pc' := 23) rfl sq_4_44 mt_X4_at rfl ⟨_, rfl, Nat.le_of_ble_eq_true rfl, Nat.le_of_ble_eq_true rfl, rfl, rfl⟩ ?_
    refine X4_at_ca  rfl ?_
    refine ev_r1 ?_
    obtain ⟨g3, h⟩ := gd_of h
    refine ev_ialdK (k0 := ((X4_at a2 2)).toNatClampNeg) dX4_canPour_23 (pc' := 24) rfl kn_36 g3 rfl ?_
    refine ev_iload_n dX4_canPour_24 (pc' := 25) rfl rfl ?_
    refine ev_iadd dX4_canPour_25 (pc' := 26) rfl ?_
    refine ev_aload_n dX4_canPour_26 (pc' := 27) rfl rfl ?_
    refine ev_getR (y := 36) dX4_canPour_27 (pc' := 30) rfl fq_4_9 kn_35 rfl ?_
    refine ev_iload_n dX4_canPour_30 (pc' := 31) rfl rfl ?_
    refine ev_iconst dX4_canPour_31 (pc' := 32) (v := 1) rfl (by decide) ?_
    refine ev_invS dX4_canPour_32 (pc' := 35) rfl sq_4_44 mt_X4_at rfl ⟨_, rfl, Nat.le_of_ble_eq_true rfl, Nat.le_of_ble_eq_true rfl, rfl, rfl⟩ ?_
    refine X4_at_ca  rfl ?_
    refine ev_r1 ?_
    obtain ⟨g4, h⟩ := gd_of h
    refine ev_ialdK (k0 := ((X4_at a2 1)).toNatClampNeg) dX4_canPour_35 (pc' := 36) rfl kn_36 g4 rfl ?_
    refine ev_icmp_gt dX4_canPour_36 (pc' := 39) rfl (t := 43) rfl (fun c5 => ?_) (fun c5 => ?_)
    · replace h := it_t c5 h
      refine ev_iconst dX4_canPour_43 (pc' := 44) (v := 0) rfl (by decide) ?_
      obtain rfl := rt1 h
      exact ev_ireturn dX4_canPour_44 (aret_z (by decide)) q
    · replace h := it_f c5 h
      refine ev_iconst dX4_canPour_39 (pc' := 40) (v := 1) rfl (by decide) ?_
      refine ev_goto dX4_canPour_40 (t := 44) rfl ?_
      obtain rfl := rt1 h
      exact ev_ireturn dX4_canPour_44 (aret_z (by decide)) q
def X4_mixed (_o : Nat) (a1 : Int32) (a2 : Int32) (a3 : Int32) (mem : Mm) : Option Int32 := gd (vin (X4_at a1 3) 47) (gd (vin (X4_at a2 2) 47) (gd (vin (X4_at a2 3) 47) (gd (¬ (a3 + (mem 36 ((X4_at a2 2)).toNatClampNeg)) = 0) (some (((a3 * (mem 36 ((X4_at a1 3)).toNatClampNeg)) + ((mem 36 ((X4_at a2 2)).toNatClampNeg) * (mem 36 ((X4_at a2 3)).toNatClampNeg))) / (a3 + (mem 36 ((X4_at a2 2)).toNatClampNeg)))))))
set_option maxRecDepth 100000 in
set_option maxHeartbeats 8000000 in
theorem X4_mixed_ca {S : Sc} {d : Nat} {a1 : Int32} {a2 : Int32} {a3 : Int32} {mem : Mm} {rr : Int32} {Q : Po}  (h : X4_mixed 35 a1 a2 a3 mem = some rr) (q : Q (some (.int rr)) mem) : Ca S (d + 2) 133 [.ref 35, .int a1, .int a2, .int a3] mem Q := by
  unfold X4_mixed at h
  refine ca_in (by decide) mt_X4_mixed (Nat.le_of_ble_eq_true rfl) ?_
  show Ev S (d + 1) 4 cX4_mixed (some .int) 0 [some (.ref 35), some (.int a1), some (.int a2), some (.int a3)] [] mem Q
  refine ev_iload_n dX4_mixed_0 (pc' := 1) rfl rfl ?_
  refine ev_aload_n dX4_mixed_1 (pc' := 2) rfl rfl ?_
  refine ev_getR (y := 36) dX4_mixed_2 (pc' := 5) rfl fq_4_9 kn_35 rfl ?_
  refine ev_iload_n dX4_mixed_5 (pc' := 6) rfl rfl ?_
  refine ev_iconst dX4_mixed_6 (pc' := 7) (v := 3) rfl (by decide) ?_
  refine ev_invS dX4_mixed_7 (pc' := 10) rfl sq_4_44 mt_X4_at rfl ⟨_, rfl, Nat.le_of_ble_eq_true rfl, Nat.le_of_ble_eq_true rfl, rfl, rfl⟩ ?_
  refine X4_at_ca  rfl ?_
  refine ev_r1 ?_
  obtain ⟨g1, h⟩ := gd_of h
  refine ev_ialdK (k0 := ((X4_at a1 3)).toNatClampNeg) dX4_mixed_10 (pc' := 11) rfl kn_36 g1 rfl ?_
  refine ev_imul dX4_mixed_11 (pc' := 12) rfl ?_
  refine ev_aload_n dX4_mixed_12 (pc' := 13) rfl rfl ?_
  refine ev_getR (y := 36) dX4_mixed_13 (pc' := 16) rfl fq_4_9 kn_35 rfl ?_
  refine ev_iload_n dX4_mixed_16 (pc' := 17) rfl rfl ?_
  refine ev_iconst dX4_mixed_17 (pc' := 18) (v := 2) rfl (by decide) ?_
  refine ev_invS dX4_mixed_18 (pc' := 21) rfl sq_4_44 mt_X4_at rfl ⟨_, rfl, Nat.le_of_ble_eq_true rfl, Nat.le_of_ble_eq_true rfl, rfl, rfl⟩ ?_
  refine X4_at_ca  rfl ?_
  refine ev_r1 ?_
  obtain ⟨g2, h⟩ := gd_of h
  refine ev_ialdK (k0 := ((X4_at a2 2)).toNatClampNeg) dX4_mixed_21 (pc' := 22) rfl kn_36 g2 rfl ?_
  refine ev_aload_n dX4_mixed_22 (pc' := 23) rfl rfl ?_
  refine ev_getR (y := 36) dX4_mixed_23 (pc' := 26) rfl fq_4_9 kn_35 rfl ?_
  refine ev_iload_n dX4_mixed_26 (pc' := 27) rfl rfl ?_
  refine ev_iconst dX4_mixed_27 (pc' := 28) (v := 3) rfl (by decide) ?_
  refine ev_invS dX4_mixed_28 (pc' := 31) rfl sq_4_44 mt_X4_at rfl ⟨_, rfl, Nat.le_of_ble_eq_true rfl, Nat.le_of_ble_eq_true rfl, rfl, rfl⟩ ?_
  refine X4_at_ca  rfl ?_
  refine ev_r1 ?_
  obtain ⟨g3, h⟩ := gd_of h
  refine ev_ialdK (k0 := ((X4_at a2 3)).toNatClampNeg) dX4_mixed_31 (pc' := 32) rfl kn_36 g3 rfl ?_
  refine ev_imul dX4_mixed_32 (pc' := 33) rfl ?_
  refine ev_iadd dX4_mixed_33 (pc' := 34) rfl ?_
  refine ev_iload_n dX4_mixed_34 (pc' := 35) rfl rfl ?_
  refine ev_aload_n dX4_mixed_35 (pc' := 36) rfl rfl ?_
  refine ev_getR (y := 36) dX4_mixed_36 (pc' := 39) rfl fq_4_9 kn_35 rfl ?_
  refine ev_iload_n dX4_mixed_39 (pc' := 40) rfl rfl ?_
  refine ev_iconst dX4_mixed_40 (pc' := 41) (v := 2) rfl (by decide) ?_
  refine ev_invS dX4_mixed_41 (pc' := 44) rfl sq_4_44 mt_X4_at rfl ⟨_, rfl, Nat.le_of_ble_eq_true rfl, Nat.le_of_ble_eq_true rfl, rfl, rfl⟩ ?_
  refine X4_at_ca  rfl ?_
  refine ev_r1 ?_
  refine ev_ialdK (k0 := ((X4_at a2 2)).toNatClampNeg) dX4_mixed_44 (pc' := 45) rfl kn_36 g2 rfl ?_
  refine ev_iadd dX4_mixed_45 (pc' := 46) rfl ?_
  obtain ⟨g4, h⟩ := gd_of h
  refine ev_idiv dX4_mixed_46 (pc' := 47) rfl g4 ?_
  obtain rfl := rt1 h
  exact ev_ireturn dX4_mixed_47 rfl q
def X4_pours (_o : Nat) (a1 : Int32) (a2 : Int32) (a3 : Int32) (mem : Mm) : Option Mm := ob (X4_mixed 35 a1 a2 a3 mem) (fun y1 => gd (vin (X4_at a2 3) 47) (nm (mset mem 36 ((X4_at a2 3)).toNatClampNeg y1) (fun m3 => gd (vin (X4_at a1 2) 47) (nm (mset m3 36 ((X4_at a1 2)).toNatClampNeg ((m3 36 ((X4_at a1 2)).toNatClampNeg) - a3)) (fun m5 => gd (vin (X4_at a2 2) 47) (nm (mset m5 36 ((X4_at a2 2)).toNatClampNeg ((m5 36 ((X4_at a2 2)).toNatClampNeg) + a3)) (fun m7 => some m7)))))))
set_option maxRecDepth 100000 in
set_option maxHeartbeats 8000000 in
theorem X4_pours_ca {S : Sc} {d : Nat} {a1 : Int32} {a2 : Int32} {a3 : Int32} {mem : Mm} {mr : Mm} {Q : Po}  (h : X4_pours 35 a1 a2 a3 mem = some mr) (q : Q none mr) : Ca S (d + 3) 134 [.ref 35, .int a1, .int a2, .int a3] mem Q := by
  unfold X4_pours at h
  refine ca_in (by decide) mt_X4_pours (Nat.le_of_ble_eq_true rfl) ?_
  show Ev S (d + 2) 4 cX4_pours none 0 [some (.ref 35), some (.int a1), some (.int a2), some (.int a3)] [] mem Q
  refine ev_aload_n dX4_pours_0 (pc' := 1) rfl rfl ?_
  refine ev_getR (y := 36) dX4_pours_1 (pc' := 4) rfl fq_4_9 kn_35 rfl ?_
  refine ev_iload_n dX4_pours_4 (pc' := 5) rfl rfl ?_
  refine ev_iconst dX4_pours_5 (pc' := 6) (v := 3) rfl (by decide) ?_
  refine ev_invS dX4_pours_6 (pc' := 9) rfl sq_4_44 mt_X4_at rfl ⟨_, rfl, Nat.le_of_ble_eq_true rfl, Nat.le_of_ble_eq_true rfl, rfl, rfl⟩ ?_
  refine X4_at_ca  rfl ?_
  refine ev_r1 ?_
  refine ev_aload_n dX4_pours_9 (pc' := 10) rfl rfl ?_
  refine ev_iload_n dX4_pours_10 (pc' := 11) rfl rfl ?_
  refine ev_iload_n dX4_pours_11 (pc' := 12) rfl rfl ?_
  refine ev_iload_n dX4_pours_12 (pc' := 13) rfl rfl ?_
  obtain ⟨y1, x_y1, h⟩ := ob_of h
  refine ev_invV dX4_pours_13 (pc' := 16) rfl sq_4_107 mt_X4_mixed rfl (arecv_ob (x := 35) rfl rfl (by decide) kn_35) ⟨_, rfl, Nat.le_of_ble_eq_true rfl, Nat.le_of_ble_eq_true rfl, rfl, rfl⟩ ?_
  refine X4_mixed_ca  x_y1 ?_
  refine ev_r1 ?_
  obtain ⟨g2, h⟩ := gd_of h
  refine ev_iastK (k0 := ((X4_at a2 3)).toNatClampNeg) dX4_pours_16 (pc' := 17) rfl kn_36 g2 rfl ?_
  refine ev_topm (fun m3 e_m3 => ?_)
  replace h := nm_at e_m3 h
  refine ev_aload_n dX4_pours_17 (pc' := 18) rfl rfl ?_
  refine ev_getR (y := 36) dX4_pours_18 (pc' := 21) rfl fq_4_9 kn_35 rfl ?_
  refine ev_iload_n dX4_pours_21 (pc' := 22) rfl rfl ?_
  refine ev_iconst dX4_pours_22 (pc' := 23) (v := 2) rfl (by decide) ?_
  refine ev_invS dX4_pours_23 (pc' := 26) rfl sq_4_44 mt_X4_at rfl ⟨_, rfl, Nat.le_of_ble_eq_true rfl, Nat.le_of_ble_eq_true rfl, rfl, rfl⟩ ?_
  refine X4_at_ca  rfl ?_
  refine ev_r1 ?_
  refine ev_dup2 dX4_pours_26 (pc' := 27) rfl rfl rfl ?_
  obtain ⟨g4, h⟩ := gd_of h
  refine ev_ialdK (k0 := ((X4_at a1 2)).toNatClampNeg) dX4_pours_27 (pc' := 28) rfl kn_36 g4 rfl ?_
  refine ev_iload_n dX4_pours_28 (pc' := 29) rfl rfl ?_
  refine ev_isub dX4_pours_29 (pc' := 30) rfl ?_
  refine ev_iastK (k0 := ((X4_at a1 2)).toNatClampNeg) dX4_pours_30 (pc' := 31) rfl kn_36 g4 rfl ?_
  refine ev_topm (fun m5 e_m5 => ?_)
  replace h := nm_at e_m5 h
  refine ev_aload_n dX4_pours_31 (pc' := 32) rfl rfl ?_
  refine ev_getR (y := 36) dX4_pours_32 (pc' := 35) rfl fq_4_9 kn_35 rfl ?_
  refine ev_iload_n dX4_pours_35 (pc' := 36) rfl rfl ?_
  refine ev_iconst dX4_pours_36 (pc' := 37) (v := 2) rfl (by decide) ?_
  refine ev_invS dX4_pours_37 (pc' := 40) rfl sq_4_44 mt_X4_at rfl ⟨_, rfl, Nat.le_of_ble_eq_true rfl, Nat.le_of_ble_eq_true rfl, rfl, rfl⟩ ?_
  refine X4_at_ca  rfl ?_
  refine ev_r1 ?_
  refine ev_dup2 dX4_pours_40 (pc' := 41) rfl rfl rfl ?_
  obtain ⟨g6, h⟩ := gd_of h
  refine ev_ialdK (k0 := ((X4_at a2 2)).toNatClampNeg) dX4_pours_41 (pc' := 42) rfl kn_36 g6 rfl ?_
  refine ev_iload_n dX4_pours_42 (pc' := 43) rfl rfl ?_
  refine ev_iadd dX4_pours_43 (pc' := 44) rfl ?_
  refine ev_iastK (k0 := ((X4_at a2 2)).toNatClampNeg) dX4_pours_44 (pc' := 45) rfl kn_36 g6 rfl ?_
  refine ev_topm (fun m7 e_m7 => ?_)
  replace h := nm_at e_m7 h
  obtain rfl := rt1 h
  exact ev_return dX4_pours_45 rfl q
def X4_isDone_L101   : Nat → Int32 → Mm → Option (Int32 × Mm)
  | 0, _, _ => none
  | n + 1, w7, m8 => if 5 ≤ w7 then (gd (vin (X4_at (m8 36 0) 5) 47) (nm (mset m8 36 ((X4_at (m8 36 0) 5)).toNatClampNeg 0) (fun m11 => nm (mset m11 36 0 ((m11 36 0) + 1)) (fun m12 => some (1, m12))))) else (gd (vin w7 5) (gd (vin (X4_at (m8 36 0) w7) 47) (nm (mset m8 36 ((X4_at (m8 36 0) w7)).toNatClampNeg (m8 43 (w7).toNatClampNeg)) (fun m15 => nm (w7 + 1) (fun v16 => X4_isDone_L101  n v16 m15)))))
def X4_isDone (_o : Nat) (a1 : Int32) (mem : Mm) : Option (Int32 × Mm) := nm (mem 43 0) (fun v1 => nm (mem 43 1) (fun v2 => if a1 = 99 then (if (X4_isIn v2 1 400) = 0 then (some (0, mem)) else (if v2 < (mem 43 2) then (some (0, mem)) else (if (mem 36 0) = 7 then (some (0, mem)) else (X4_isDone_L101  LF 0 mem)))) else (if a1 = 101 then (nm (mset mem 36 4 v1) (fun m18 => some (1, m18))) else (if a1 = 108 then (nm (mset mem 36 3 v1) (fun m20 => if v1 < 1 then (some (0, m20)) else (some (1, m20)))) else (if a1 = 112 then (if (X4_isCask 35 v1 mem) = 0 then (some (0, mem)) else (if (X4_isCask 35 v2 mem) = 0 then (some (0, mem)) else (if v1 = v2 then (some (0, mem)) else (if (X4_isIn (mem 43 2) 1 400) = 0 then (some (0, mem)) else (ob (X4_canPour 35 v1 v2 (mem 43 2) mem) (fun y27 => if y27 = 0 then (some (0, mem)) else (ob (X4_pours 35 v1 v2 (mem 43 2) mem) (fun m29 => some (1, m29))))))))) else (if a1 = 114 then (nm (mset mem 36 2 v1) (fun m31 => if 40 < v1 then (some (0, m31)) else (some (1, m31)))) else (if (X4_isIn v1 1 60) = 0 then (some (0, mem)) else (if ((mem 36 1) + v1) ≤ 999 then (ob (X4_yearsOn 35 36 v1 mem) (fun m35 => some (1, m35))) else (some (0, mem))))))))))
set_option maxRecDepth 100000 in
set_option maxHeartbeats 8000000 in
theorem X4_isDone_L101_ev {S : Sc} {d : Nat}   {rr : Int32} {mr : Mm} {Q : Po}  (q : Q (some (.int rr)) mr) : ∀ (n : Nat) (w7 : Int32) (m8 : Mm), X4_isDone_L101  n w7 m8 = some (rr, mr) → Ev S (d + 5) 4 cX4_isDone (some .boolean) 101 [some (.ref 35), none, none, none, some (.int w7)] [] m8 Q := by
  intro n
  induction n with
  | zero => intro w7 m8 h; cases h
  | succ n ih =>
    intro w7 m8 h
    unfold X4_isDone_L101 at h
    refine ev_iload dX4_isDone_101 (pc' := 103) rfl rfl ?_
    refine ev_iconst dX4_isDone_103 (pc' := 104) (v := 5) rfl (by decide) ?_
    refine ev_icmp_ge dX4_isDone_104 (pc' := 107) rfl (t := 136) rfl (fun c9 => ?_) (fun c9 => ?_)
    · replace h := it_t c9 h
      refine ev_aload_n dX4_isDone_136 (pc' := 137) rfl rfl ?_
      refine ev_getR (y := 36) dX4_isDone_137 (pc' := 140) rfl fq_4_9 kn_35 rfl ?_
      refine ev_aload_n dX4_isDone_140 (pc' := 141) rfl rfl ?_
      refine ev_getR (y := 36) dX4_isDone_141 (pc' := 144) rfl fq_4_9 kn_35 rfl ?_
      refine ev_iconst dX4_isDone_144 (pc' := 145) (v := 0) rfl (by decide) ?_
      refine ev_ialdK (k0 := 0) dX4_isDone_145 (pc' := 146) rfl kn_36 (by decide) rfl ?_
      refine ev_iconst dX4_isDone_146 (pc' := 147) (v := 5) rfl (by decide) ?_
      refine ev_invS dX4_isDone_147 (pc' := 150) rfl sq_4_44 mt_X4_at rfl ⟨_, rfl, Nat.le_of_ble_eq_true rfl, Nat.le_of_ble_eq_true rfl, rfl, rfl⟩ ?_
      refine X4_at_ca  rfl ?_
      refine ev_r1 ?_
      refine ev_iconst dX4_isDone_150 (pc' := 151) (v := 0) rfl (by decide) ?_
      obtain ⟨g10, h⟩ := gd_of h
      refine ev_iastK (k0 := ((X4_at (m8 36 0) 5)).toNatClampNeg) dX4_isDone_151 (pc' := 152) rfl kn_36 g10 rfl ?_
      refine ev_topm (fun m11 e_m11 => ?_)
      replace h := nm_at e_m11 h
      refine ev_aload_n dX4_isDone_152 (pc' := 153) rfl rfl ?_
      refine ev_getR (y := 36) dX4_isDone_153 (pc' := 156) rfl fq_4_9 kn_35 rfl ?_
      refine ev_iconst dX4_isDone_156 (pc' := 157) (v := 0) rfl (by decide) ?_
      refine ev_dup2 dX4_isDone_157 (pc' := 158) rfl rfl rfl ?_
      refine ev_ialdK (k0 := 0) dX4_isDone_158 (pc' := 159) rfl kn_36 (by decide) rfl ?_
      refine ev_iconst dX4_isDone_159 (pc' := 160) (v := 1) rfl (by decide) ?_
      refine ev_iadd dX4_isDone_160 (pc' := 161) rfl ?_
      refine ev_iastK (k0 := 0) dX4_isDone_161 (pc' := 162) rfl kn_36 (by decide) rfl ?_
      refine ev_topm (fun m12 e_m12 => ?_)
      replace h := nm_at e_m12 h
      refine ev_iconst dX4_isDone_162 (pc' := 163) (v := 1) rfl (by decide) ?_
      obtain ⟨rfl, rfl⟩ := rt2 h
      exact ev_ireturn dX4_isDone_163 (aret_z (by decide)) q
    · replace h := it_f c9 h
      refine ev_aload_n dX4_isDone_107 (pc' := 108) rfl rfl ?_
      refine ev_getR (y := 36) dX4_isDone_108 (pc' := 111) rfl fq_4_9 kn_35 rfl ?_
      refine ev_aload_n dX4_isDone_111 (pc' := 112) rfl rfl ?_
      refine ev_getR (y := 36) dX4_isDone_112 (pc' := 115) rfl fq_4_9 kn_35 rfl ?_
      refine ev_iconst dX4_isDone_115 (pc' := 116) (v := 0) rfl (by decide) ?_
      refine ev_ialdK (k0 := 0) dX4_isDone_116 (pc' := 117) rfl kn_36 (by decide) rfl ?_
      refine ev_iload dX4_isDone_117 (pc' := 119) rfl rfl ?_
      refine ev_invS dX4_isDone_119 (pc' := 122) rfl sq_4_44 mt_X4_at rfl ⟨_, rfl, Nat.le_of_ble_eq_true rfl, Nat.le_of_ble_eq_true rfl, rfl, rfl⟩ ?_
      refine X4_at_ca  rfl ?_
      refine ev_r1 ?_
      refine ev_aload_n dX4_isDone_122 (pc' := 123) rfl rfl ?_
      refine ev_getR (y := 43) dX4_isDone_123 (pc' := 126) rfl fq_4_31 kn_35 rfl ?_
      refine ev_iload dX4_isDone_126 (pc' := 128) rfl rfl ?_
      obtain ⟨g13, h⟩ := gd_of h
      refine ev_ialdK (k0 := (w7).toNatClampNeg) dX4_isDone_128 (pc' := 129) rfl kn_43 g13 rfl ?_
      obtain ⟨g14, h⟩ := gd_of h
      refine ev_iastK (k0 := ((X4_at (m8 36 0) w7)).toNatClampNeg) dX4_isDone_129 (pc' := 130) rfl kn_36 g14 rfl ?_
      refine ev_topm (fun m15 e_m15 => ?_)
      replace h := nm_at e_m15 h
      obtain ⟨v16, e_v16⟩ : ∃ y : Int32, y = (w7 + 1) := ⟨_, rfl⟩
      replace h := nm_at e_v16 h
      refine ev_iinc dX4_isDone_130 (pc' := 133) (v := v16) (ls' := [some (.ref 35), none, none, none, some (.int v16)]) rfl rfl (by rw [e_v16]; rfl) (Nat.le_of_ble_eq_true rfl) rfl ?_
      refine ev_goto dX4_isDone_133 (t := 101) rfl ?_
      exact ev_sub (lsub_c (lsub_c (lsub_c (lsub_c (lsub_c lsub_nil))))) (ih v16 m15 h)
set_option maxRecDepth 100000 in
set_option maxHeartbeats 8000000 in
theorem X4_isDone_ca {S : Sc} {d : Nat} {a1 : Int32} {mem : Mm} {rr : Int32} {mr : Mm} {Q : Po}  (h : X4_isDone 35 a1 mem = some (rr, mr)) (q : Q (some (.int rr)) mr) : Ca S (d + 6) 135 [.ref 35, .int a1] mem Q := by
  unfold X4_isDone at h
  refine ca_in (by decide) mt_X4_isDone (Nat.le_of_ble_eq_true rfl) ?_
  show Ev S (d + 5) 4 cX4_isDone (some .boolean) 0 [some (.ref 35), some (.int a1), none, none, none] [] mem Q
  refine ev_aload_n dX4_isDone_0 (pc' := 1) rfl rfl ?_
  refine ev_getR (y := 43) dX4_isDone_1 (pc' := 4) rfl fq_4_31 kn_35 rfl ?_
  refine ev_iconst dX4_isDone_4 (pc' := 5) (v := 0) rfl (by decide) ?_
  refine ev_ialdK (k0 := 0) dX4_isDone_5 (pc' := 6) rfl kn_43 (by decide) rfl ?_
  refine ev_topi (fun v1 e_v1 => ?_)
  replace h := nm_at e_v1 h
  refine ev_istore_n dX4_isDone_6 (pc' := 7) (ls' := [some (.ref 35), some (.int a1), some (.int v1), none, none]) rfl (Nat.le_of_ble_eq_true rfl) rfl ?_
  refine ev_aload_n dX4_isDone_7 (pc' := 8) rfl rfl ?_
  refine ev_getR (y := 43) dX4_isDone_8 (pc' := 11) rfl fq_4_31 kn_35 rfl ?_
  refine ev_iconst dX4_isDone_11 (pc' := 12) (v := 1) rfl (by decide) ?_
  refine ev_ialdK (k0 := 1) dX4_isDone_12 (pc' := 13) rfl kn_43 (by decide) rfl ?_
  refine ev_topi (fun v2 e_v2 => ?_)
  replace h := nm_at e_v2 h
  refine ev_istore_n dX4_isDone_13 (pc' := 14) (ls' := [some (.ref 35), some (.int a1), some (.int v1), some (.int v2), none]) rfl (Nat.le_of_ble_eq_true rfl) rfl ?_
  refine ev_iload_n dX4_isDone_14 (pc' := 15) rfl rfl ?_
  by_cases c3 : a1 = 99
  · replace h := it_t c3 h
    refine ev_lookupIn dX4_isDone_15 rfl c3 rfl (t := 64) rfl ?_
    refine ev_iload_n dX4_isDone_64 (pc' := 65) rfl rfl ?_
    refine ev_iconst dX4_isDone_65 (pc' := 66) (v := 1) rfl (by decide) ?_
    refine ev_sipush dX4_isDone_66 (pc' := 69) (v := 400) rfl (by decide) ?_
    refine ev_invS dX4_isDone_69 (pc' := 72) rfl sq_4_40 mt_X4_isIn rfl ⟨_, rfl, Nat.le_of_ble_eq_true rfl, Nat.le_of_ble_eq_true rfl, rfl, rfl⟩ ?_
    refine X4_isIn_ca  rfl ?_
    refine ev_r1 ?_
    refine ev_if_eq dX4_isDone_72 (pc' := 75) rfl (t := 96) rfl (fun c4 => ?_) (fun c4 => ?_)
    · replace h := it_t c4 h
      refine ev_iconst dX4_isDone_96 (pc' := 97) (v := 0) rfl (by decide) ?_
      obtain ⟨rfl, rfl⟩ := rt2 h
      exact ev_ireturn dX4_isDone_97 (aret_z (by decide)) q
    · replace h := it_f c4 h
      refine ev_aload_n dX4_isDone_75 (pc' := 76) rfl rfl ?_
      refine ev_getR (y := 43) dX4_isDone_76 (pc' := 79) rfl fq_4_31 kn_35 rfl ?_
      refine ev_iconst dX4_isDone_79 (pc' := 80) (v := 2) rfl (by decide) ?_
      refine ev_ialdK (k0 := 2) dX4_isDone_80 (pc' := 81) rfl kn_43 (by decide) rfl ?_
      refine ev_iload_n dX4_isDone_81 (pc' := 82) rfl rfl ?_
      refine ev_icmp_gt dX4_isDone_82 (pc' := 85) rfl (t := 96) rfl (fun c5 => ?_) (fun c5 => ?_)
      · replace h := it_t c5 h
        refine ev_iconst dX4_isDone_96 (pc' := 97) (v := 0) rfl (by decide) ?_
        obtain ⟨rfl, rfl⟩ := rt2 h
        exact ev_ireturn dX4_isDone_97 (aret_z (by decide)) q
      · replace h := it_f c5 h
        refine ev_aload_n dX4_isDone_85 (pc' := 86) rfl rfl ?_
        refine ev_getR (y := 36) dX4_isDone_86 (pc' := 89) rfl fq_4_9 kn_35 rfl ?_
        refine ev_iconst dX4_isDone_89 (pc' := 90) (v := 0) rfl (by decide) ?_
        refine ev_ialdK (k0 := 0) dX4_isDone_90 (pc' := 91) rfl kn_36 (by decide) rfl ?_
        refine ev_bipush dX4_isDone_91 (pc' := 93) (v := 7) rfl (by decide) ?_
        refine ev_icmp_ne dX4_isDone_93 (pc' := 96) rfl (t := 98) rfl (fun c6 => ?_) (fun c6 => ?_)
        · replace h := it_f c6 h
          refine ev_iconst dX4_isDone_98 (pc' := 99) (v := 0) rfl (by decide) ?_
          refine ev_istore dX4_isDone_99 (pc' := 101) (ls' := [some (.ref 35), some (.int a1), some (.int v1), some (.int v2), some (.int 0)]) rfl (Nat.le_of_ble_eq_true rfl) rfl ?_
          exact ev_sub (lsub_c (lsub_n (lsub_n (lsub_n (lsub_c lsub_nil))))) (X4_isDone_L101_ev  q LF 0 mem h)
        · replace h := it_t c6 h
          refine ev_iconst dX4_isDone_96 (pc' := 97) (v := 0) rfl (by decide) ?_
          obtain ⟨rfl, rfl⟩ := rt2 h
          exact ev_ireturn dX4_isDone_97 (aret_z (by decide)) q
  · replace h := it_f c3 h
    by_cases c17 : a1 = 101
    · replace h := it_t c17 h
      refine ev_lookupIn dX4_isDone_15 rfl c17 rfl (t := 201) rfl ?_
      refine ev_aload_n dX4_isDone_201 (pc' := 202) rfl rfl ?_
      refine ev_getR (y := 36) dX4_isDone_202 (pc' := 205) rfl fq_4_9 kn_35 rfl ?_
      refine ev_iconst dX4_isDone_205 (pc' := 206) (v := 4) rfl (by decide) ?_
      refine ev_iload_n dX4_isDone_206 (pc' := 207) rfl rfl ?_
      refine ev_iastK (k0 := 4) dX4_isDone_207 (pc' := 208) rfl kn_36 (by decide) rfl ?_
      refine ev_topm (fun m18 e_m18 => ?_)
      replace h := nm_at e_m18 h
      refine ev_iconst dX4_isDone_208 (pc' := 209) (v := 1) rfl (by decide) ?_
      obtain ⟨rfl, rfl⟩ := rt2 h
      exact ev_ireturn dX4_isDone_209 (aret_z (by decide)) q
    · replace h := it_f c17 h
      by_cases c19 : a1 = 108
      · replace h := it_t c19 h
        refine ev_lookupIn dX4_isDone_15 rfl c19 rfl (t := 183) rfl ?_
        refine ev_aload_n dX4_isDone_183 (pc' := 184) rfl rfl ?_
        refine ev_getR (y := 36) dX4_isDone_184 (pc' := 187) rfl fq_4_9 kn_35 rfl ?_
        refine ev_iconst dX4_isDone_187 (pc' := 188) (v := 3) rfl (by decide) ?_
        refine ev_iload_n dX4_isDone_188 (pc' := 189) rfl rfl ?_
        refine ev_iastK (k0 := 3) dX4_isDone_189 (pc' := 190) rfl kn_36 (by decide) rfl ?_
        refine ev_topm (fun m20 e_m20 => ?_)
        replace h := nm_at e_m20 h
        refine ev_iload_n dX4_isDone_190 (pc' := 191) rfl rfl ?_
        refine ev_iconst dX4_isDone_191 (pc' := 192) (v := 1) rfl (by decide) ?_
        refine ev_icmp_lt dX4_isDone_192 (pc' := 195) rfl (t := 199) rfl (fun c21 => ?_) (fun c21 => ?_)
        · replace h := it_t c21 h
          refine ev_iconst dX4_isDone_199 (pc' := 200) (v := 0) rfl (by decide) ?_
          obtain ⟨rfl, rfl⟩ := rt2 h
          exact ev_ireturn dX4_isDone_200 (aret_z (by decide)) q
        · replace h := it_f c21 h
          refine ev_iconst dX4_isDone_195 (pc' := 196) (v := 1) rfl (by decide) ?_
          refine ev_goto dX4_isDone_196 (t := 200) rfl ?_
          obtain ⟨rfl, rfl⟩ := rt2 h
          exact ev_ireturn dX4_isDone_200 (aret_z (by decide)) q
      · replace h := it_f c19 h
        by_cases c22 : a1 = 112
        · replace h := it_t c22 h
          refine ev_lookupIn dX4_isDone_15 rfl c22 rfl (t := 210) rfl ?_
          refine ev_aload_n dX4_isDone_210 (pc' := 211) rfl rfl ?_
          refine ev_iload_n dX4_isDone_211 (pc' := 212) rfl rfl ?_
          refine ev_invV dX4_isDone_212 (pc' := 215) rfl sq_4_111 mt_X4_isCask rfl (arecv_ob (x := 35) rfl rfl (by decide) kn_35) ⟨_, rfl, Nat.le_of_ble_eq_true rfl, Nat.le_of_ble_eq_true rfl, rfl, rfl⟩ ?_
          refine X4_isCask_ca  rfl ?_
          refine ev_r1 ?_
          refine ev_if_eq dX4_isDone_215 (pc' := 218) rfl (t := 262) rfl (fun c23 => ?_) (fun c23 => ?_)
          · replace h := it_t c23 h
            refine ev_iconst dX4_isDone_262 (pc' := 263) (v := 0) rfl (by decide) ?_
            obtain ⟨rfl, rfl⟩ := rt2 h
            exact ev_ireturn dX4_isDone_263 (aret_z (by decide)) q
          · replace h := it_f c23 h
            refine ev_aload_n dX4_isDone_218 (pc' := 219) rfl rfl ?_
            refine ev_iload_n dX4_isDone_219 (pc' := 220) rfl rfl ?_
            refine ev_invV dX4_isDone_220 (pc' := 223) rfl sq_4_111 mt_X4_isCask rfl (arecv_ob (x := 35) rfl rfl (by decide) kn_35) ⟨_, rfl, Nat.le_of_ble_eq_true rfl, Nat.le_of_ble_eq_true rfl, rfl, rfl⟩ ?_
            refine X4_isCask_ca  rfl ?_
            refine ev_r1 ?_
            refine ev_if_eq dX4_isDone_223 (pc' := 226) rfl (t := 262) rfl (fun c24 => ?_) (fun c24 => ?_)
            · replace h := it_t c24 h
              refine ev_iconst dX4_isDone_262 (pc' := 263) (v := 0) rfl (by decide) ?_
              obtain ⟨rfl, rfl⟩ := rt2 h
              exact ev_ireturn dX4_isDone_263 (aret_z (by decide)) q
            · replace h := it_f c24 h
              refine ev_iload_n dX4_isDone_226 (pc' := 227) rfl rfl ?_
              refine ev_iload_n dX4_isDone_227 (pc' := 228) rfl rfl ?_
              refine ev_icmp_eq dX4_isDone_228 (pc' := 231) rfl (t := 262) rfl (fun c25 => ?_) (fun c25 => ?_)
              · replace h := it_t c25 h
                refine ev_iconst dX4_isDone_262 (pc' := 263) (v := 0) rfl (by decide) ?_
                obtain ⟨rfl, rfl⟩ := rt2 h
                exact ev_ireturn dX4_isDone_263 (aret_z (by decide)) q
              · replace h := it_f c25 h
                refine ev_aload_n dX4_isDone_231 (pc' := 232) rfl rfl ?_
                refine ev_getR (y := 43) dX4_isDone_232 (pc' := 235) rfl fq_4_31 kn_35 rfl ?_
                refine ev_iconst dX4_isDone_235 (pc' := 236) (v := 2) rfl (by decide) ?_
                refine ev_ialdK (k0 := 2) dX4_isDone_236 (pc' := 237) rfl kn_43 (by decide) rfl ?_
                refine ev_iconst dX4_isDone_237 (pc' := 238) (v := 1) rfl (by decide) ?_
                refine ev_sipush dX4_isDone_238 (pc' := 241) (v := 400) rfl (by decide) ?_
                refine ev_invS dX4_isDone_241 (pc' := 244) rfl sq_4_40 mt_X4_isIn rfl ⟨_, rfl, Nat.le_of_ble_eq_true rfl, Nat.le_of_ble_eq_true rfl, rfl, rfl⟩ ?_
                refine X4_isIn_ca  rfl ?_
                refine ev_r1 ?_
                refine ev_if_eq dX4_isDone_244 (pc' := 247) rfl (t := 262) rfl (fun c26 => ?_) (fun c26 => ?_)
                · replace h := it_t c26 h
                  refine ev_iconst dX4_isDone_262 (pc' := 263) (v := 0) rfl (by decide) ?_
                  obtain ⟨rfl, rfl⟩ := rt2 h
                  exact ev_ireturn dX4_isDone_263 (aret_z (by decide)) q
                · replace h := it_f c26 h
                  refine ev_aload_n dX4_isDone_247 (pc' := 248) rfl rfl ?_
                  refine ev_iload_n dX4_isDone_248 (pc' := 249) rfl rfl ?_
                  refine ev_iload_n dX4_isDone_249 (pc' := 250) rfl rfl ?_
                  refine ev_aload_n dX4_isDone_250 (pc' := 251) rfl rfl ?_
                  refine ev_getR (y := 43) dX4_isDone_251 (pc' := 254) rfl fq_4_31 kn_35 rfl ?_
                  refine ev_iconst dX4_isDone_254 (pc' := 255) (v := 2) rfl (by decide) ?_
                  refine ev_ialdK (k0 := 2) dX4_isDone_255 (pc' := 256) rfl kn_43 (by decide) rfl ?_
                  obtain ⟨y27, x_y27, h⟩ := ob_of h
                  refine ev_invV dX4_isDone_256 (pc' := 259) rfl sq_4_115 mt_X4_canPour rfl (arecv_ob (x := 35) rfl rfl (by decide) kn_35) ⟨_, rfl, Nat.le_of_ble_eq_true rfl, Nat.le_of_ble_eq_true rfl, rfl, rfl⟩ ?_
                  refine X4_canPour_ca  x_y27 ?_
                  refine ev_r1 ?_
                  refine ev_if_ne dX4_isDone_259 (pc' := 262) rfl (t := 264) rfl (fun c28 => ?_) (fun c28 => ?_)
                  · replace h := it_f c28 h
                    refine ev_aload_n dX4_isDone_264 (pc' := 265) rfl rfl ?_
                    refine ev_iload_n dX4_isDone_265 (pc' := 266) rfl rfl ?_
                    refine ev_iload_n dX4_isDone_266 (pc' := 267) rfl rfl ?_
                    refine ev_aload_n dX4_isDone_267 (pc' := 268) rfl rfl ?_
                    refine ev_getR (y := 43) dX4_isDone_268 (pc' := 271) rfl fq_4_31 kn_35 rfl ?_
                    refine ev_iconst dX4_isDone_271 (pc' := 272) (v := 2) rfl (by decide) ?_
                    refine ev_ialdK (k0 := 2) dX4_isDone_272 (pc' := 273) rfl kn_43 (by decide) rfl ?_
                    obtain ⟨m29, x_m29, h⟩ := ob_of h
                    refine ev_invV dX4_isDone_273 (pc' := 276) rfl sq_4_118 mt_X4_pours rfl (arecv_ob (x := 35) rfl rfl (by decide) kn_35) ⟨_, rfl, Nat.le_of_ble_eq_true rfl, Nat.le_of_ble_eq_true rfl, rfl, rfl⟩ ?_
                    refine X4_pours_ca  x_m29 ?_
                    refine ev_r0 ?_
                    refine ev_iconst dX4_isDone_276 (pc' := 277) (v := 1) rfl (by decide) ?_
                    obtain ⟨rfl, rfl⟩ := rt2 h
                    exact ev_ireturn dX4_isDone_277 (aret_z (by decide)) q
                  · replace h := it_t c28 h
                    refine ev_iconst dX4_isDone_262 (pc' := 263) (v := 0) rfl (by decide) ?_
                    obtain ⟨rfl, rfl⟩ := rt2 h
                    exact ev_ireturn dX4_isDone_263 (aret_z (by decide)) q
        · replace h := it_f c22 h
          by_cases c30 : a1 = 114
          · replace h := it_t c30 h
            refine ev_lookupIn dX4_isDone_15 rfl c30 rfl (t := 164) rfl ?_
            refine ev_aload_n dX4_isDone_164 (pc' := 165) rfl rfl ?_
            refine ev_getR (y := 36) dX4_isDone_165 (pc' := 168) rfl fq_4_9 kn_35 rfl ?_
            refine ev_iconst dX4_isDone_168 (pc' := 169) (v := 2) rfl (by decide) ?_
            refine ev_iload_n dX4_isDone_169 (pc' := 170) rfl rfl ?_
            refine ev_iastK (k0 := 2) dX4_isDone_170 (pc' := 171) rfl kn_36 (by decide) rfl ?_
            refine ev_topm (fun m31 e_m31 => ?_)
            replace h := nm_at e_m31 h
            refine ev_iload_n dX4_isDone_171 (pc' := 172) rfl rfl ?_
            refine ev_bipush dX4_isDone_172 (pc' := 174) (v := 40) rfl (by decide) ?_
            refine ev_icmp_gt dX4_isDone_174 (pc' := 177) rfl (t := 181) rfl (fun c32 => ?_) (fun c32 => ?_)
            · replace h := it_t c32 h
              refine ev_iconst dX4_isDone_181 (pc' := 182) (v := 0) rfl (by decide) ?_
              obtain ⟨rfl, rfl⟩ := rt2 h
              exact ev_ireturn dX4_isDone_182 (aret_z (by decide)) q
            · replace h := it_f c32 h
              refine ev_iconst dX4_isDone_177 (pc' := 178) (v := 1) rfl (by decide) ?_
              refine ev_goto dX4_isDone_178 (t := 182) rfl ?_
              obtain ⟨rfl, rfl⟩ := rt2 h
              exact ev_ireturn dX4_isDone_182 (aret_z (by decide)) q
          · replace h := it_f c30 h
            refine ev_lookupDef dX4_isDone_15 rfl [99, 101, 108, 112, 114] (by decide) (List.forall_mem_cons.mpr ⟨c3, List.forall_mem_cons.mpr ⟨c17, List.forall_mem_cons.mpr ⟨c19, List.forall_mem_cons.mpr ⟨c22, List.forall_mem_cons.mpr ⟨c30, fun _ h => absurd h List.not_mem_nil⟩⟩⟩⟩⟩) (t := 278) rfl ?_
            refine ev_iload_n dX4_isDone_278 (pc' := 279) rfl rfl ?_
            refine ev_iconst dX4_isDone_279 (pc' := 280) (v := 1) rfl (by decide) ?_
            refine ev_bipush dX4_isDone_280 (pc' := 282) (v := 60) rfl (by decide) ?_
            refine ev_invS dX4_isDone_282 (pc' := 285) rfl sq_4_40 mt_X4_isIn rfl ⟨_, rfl, Nat.le_of_ble_eq_true rfl, Nat.le_of_ble_eq_true rfl, rfl, rfl⟩ ?_
            refine X4_isIn_ca  rfl ?_
            refine ev_r1 ?_
            refine ev_if_eq dX4_isDone_285 (pc' := 288) rfl (t := 302) rfl (fun c33 => ?_) (fun c33 => ?_)
            · replace h := it_t c33 h
              refine ev_iconst dX4_isDone_302 (pc' := 303) (v := 0) rfl (by decide) ?_
              obtain ⟨rfl, rfl⟩ := rt2 h
              exact ev_ireturn dX4_isDone_303 (aret_z (by decide)) q
            · replace h := it_f c33 h
              refine ev_aload_n dX4_isDone_288 (pc' := 289) rfl rfl ?_
              refine ev_getR (y := 36) dX4_isDone_289 (pc' := 292) rfl fq_4_9 kn_35 rfl ?_
              refine ev_iconst dX4_isDone_292 (pc' := 293) (v := 1) rfl (by decide) ?_
              refine ev_ialdK (k0 := 1) dX4_isDone_293 (pc' := 294) rfl kn_36 (by decide) rfl ?_
              refine ev_iload_n dX4_isDone_294 (pc' := 295) rfl rfl ?_
              refine ev_iadd dX4_isDone_295 (pc' := 296) rfl ?_
              refine ev_sipush dX4_isDone_296 (pc' := 299) (v := 999) rfl (by decide) ?_
              refine ev_icmp_le dX4_isDone_299 (pc' := 302) rfl (t := 304) rfl (fun c34 => ?_) (fun c34 => ?_)
              · replace h := it_t c34 h
                refine ev_aload_n dX4_isDone_304 (pc' := 305) rfl rfl ?_
                refine ev_aload_n dX4_isDone_305 (pc' := 306) rfl rfl ?_
                refine ev_getR (y := 36) dX4_isDone_306 (pc' := 309) rfl fq_4_9 kn_35 rfl ?_
                refine ev_iload_n dX4_isDone_309 (pc' := 310) rfl rfl ?_
                obtain ⟨m35, x_m35, h⟩ := ob_of h
                refine ev_invV dX4_isDone_310 (pc' := 313) rfl sq_4_82 mt_X4_yearsOn rfl (arecv_ob (x := 35) rfl rfl (by decide) kn_35) ⟨_, rfl, Nat.le_of_ble_eq_true rfl, Nat.le_of_ble_eq_true rfl, rfl, rfl⟩ ?_
                refine X4_yearsOn_ca kn_36 rfl x_m35 ?_
                refine ev_r0 ?_
                refine ev_iconst dX4_isDone_313 (pc' := 314) (v := 1) rfl (by decide) ?_
                obtain ⟨rfl, rfl⟩ := rt2 h
                exact ev_ireturn dX4_isDone_314 (aret_z (by decide)) q
              · replace h := it_f c34 h
                refine ev_iconst dX4_isDone_302 (pc' := 303) (v := 0) rfl (by decide) ?_
                obtain ⟨rfl, rfl⟩ := rt2 h
                exact ev_ireturn dX4_isDone_303 (aret_z (by decide)) q
