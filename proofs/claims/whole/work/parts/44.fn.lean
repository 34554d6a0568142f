def L_law_L18 (S : Sc)   : Nat → Int32 → Mm → Option (Int32 × Mm)
  | 0, _, _ => none
  | n + 1, w1, m2 => if ((Int32.ofNat S.1) - 6) < w1 then (some (1, m2)) else (gd (vin w1 S.1) (if ((S.2 (w1).toNatClampNeg) &&& 31) = 0 then (gd (vin (w1 + 1) S.1) (ob2 (X3_letter 0 (S.2 ((w1 + 1)).toNatClampNeg) m2) (fun y7 m8 => ob2 (X4_letter 35 (S.2 ((w1 + 1)).toNatClampNeg) m8) (fun y10 m11 => if y7 = y10 then (nm (w1 + 6) (fun v13 => L_law_L18 S n v13 m11)) else (some (0, m11)))))) else (if ((S.2 (w1).toNatClampNeg) &&& 31) = 1 then (ob2 (X3_town 0 m2) (fun y15 m16 => ob2 (X4_town 35 m16) (fun y17 m18 => if y15 = y17 then (nm (w1 + 6) (fun v20 => L_law_L18 S n v20 m18)) else (some (0, m18))))) else (if ((S.2 (w1).toNatClampNeg) &&& 31) = 2 then (gd (vin (w1 + 1) S.1) (gd (vin (w1 + 2) S.1) (ob2 (X3_cask 0 (S.2 ((w1 + 1)).toNatClampNeg) (S.2 ((w1 + 2)).toNatClampNeg) m2) (fun y24 m25 => ob2 (X4_cask 35 (S.2 ((w1 + 1)).toNatClampNeg) (S.2 ((w1 + 2)).toNatClampNeg) m25) (fun y28 m29 => if y24 = y28 then (nm (w1 + 6) (fun v31 => L_law_L18 S n v31 m29)) else (some (0, m29))))))) else (if ((S.2 (w1).toNatClampNeg) &&& 31) = 3 then (gd (vin (w1 + 1) S.1) (gd (vin (w1 + 2) S.1) (ob2 (X3_set 0 (S.2 ((w1 + 1)).toNatClampNeg) (S.2 ((w1 + 2)).toNatClampNeg) m2) (fun y35 m36 => ob2 (X4_set 35 (S.2 ((w1 + 1)).toNatClampNeg) (S.2 ((w1 + 2)).toNatClampNeg) m36) (fun y39 m40 => if y35 = y39 then (nm (w1 + 6) (fun v42 => L_law_L18 S n v42 m40)) else (some (0, m40))))))) else (if ((S.2 (w1).toNatClampNeg) &&& 31) = 4 then (gd (vin (w1 + 1) S.1) (gd (vin (w1 + 2) S.1) (ob2 (X3_fill 0 (S.2 ((w1 + 1)).toNatClampNeg) (S.2 ((w1 + 2)).toNatClampNeg) m2) (fun y46 m47 => ob2 (X4_fill 35 (S.2 ((w1 + 1)).toNatClampNeg) (S.2 ((w1 + 2)).toNatClampNeg) m47) (fun y50 m51 => if y46 = y50 then (nm (w1 + 6) (fun v53 => L_law_L18 S n v53 m51)) else (some (0, m51))))))) else (if ((S.2 (w1).toNatClampNeg) &&& 31) = 5 then (gd (vin (w1 + 1) S.1) (gd (vin (w1 + 2) S.1) (gd (vin (w1 + 3) S.1) (ob2 (X3_takes 0 (S.2 ((w1 + 1)).toNatClampNeg) (S.2 ((w1 + 2)).toNatClampNeg) (S.2 ((w1 + 3)).toNatClampNeg) m2) (fun y58 m59 => ob2 (X4_takes 35 (S.2 ((w1 + 1)).toNatClampNeg) (S.2 ((w1 + 2)).toNatClampNeg) (S.2 ((w1 + 3)).toNatClampNeg) m59) (fun y63 m64 => if y58 = y63 then (nm (w1 + 6) (fun v66 => L_law_L18 S n v66 m64)) else (some (0, m64)))))))) else (if ((S.2 (w1).toNatClampNeg) &&& 31) = 6 then (gd (vin (w1 + 1) S.1) (gd (vin (w1 + 2) S.1) (gd (vin (w1 + 3) S.1) (ob2 (X3_pour 0 (S.2 ((w1 + 1)).toNatClampNeg) (S.2 ((w1 + 2)).toNatClampNeg) (S.2 ((w1 + 3)).toNatClampNeg) m2) (fun y71 m72 => ob2 (X4_pour 35 (S.2 ((w1 + 1)).toNatClampNeg) (S.2 ((w1 + 2)).toNatClampNeg) (S.2 ((w1 + 3)).toNatClampNeg) m72) (fun y76 m77 => if y71 = y76 then (nm (w1 + 6) (fun v79 => L_law_L18 S n v79 m77)) else (some (0, m77)))))))) else (if ((S.2 (w1).toNatClampNeg) &&& 31) = 7 then (gd (vin (w1 + 1) S.1) (ob2 (X3_years 0 (S.2 ((w1 + 1)).toNatClampNeg) m2) (fun y82 m83 => ob2 (X4_years 35 (S.2 ((w1 + 1)).toNatClampNeg) m83) (fun y85 m86 => if y82 = y85 then (nm (w1 + 6) (fun v88 => L_law_L18 S n v88 m86)) else (some (0, m86)))))) else (if ((S.2 (w1).toNatClampNeg) &&& 31) = 8 then (gd (vin (w1 + 1) S.1) (gd (vin (w1 + 2) S.1) (gd (vin (w1 + 3) S.1) (ob2 (X3_behind 0 (S.2 ((w1 + 1)).toNatClampNeg) (S.2 ((w1 + 2)).toNatClampNeg) (S.2 ((w1 + 3)).toNatClampNeg) m2) (fun y93 m94 => ob2 (X4_behind 35 (S.2 ((w1 + 1)).toNatClampNeg) (S.2 ((w1 + 2)).toNatClampNeg) (S.2 ((w1 + 3)).toNatClampNeg) m94) (fun y98 m99 => if y93 = y98 then (nm (w1 + 6) (fun v101 => L_law_L18 S n v101 m99)) else (some (0, m99)))))))) else (if ((S.2 (w1).toNatClampNeg) &&& 31) = 9 then (gd (vin (w1 + 1) S.1) (gd (vin (w1 + 2) S.1) (ob2 (X3_allBehind 0 (S.2 ((w1 + 1)).toNatClampNeg) (S.2 ((w1 + 2)).toNatClampNeg) m2) (fun y105 m106 => ob2 (X4_allBehind 35 (S.2 ((w1 + 1)).toNatClampNeg) (S.2 ((w1 + 2)).toNatClampNeg) m106) (fun y109 m110 => if y105 = y109 then (nm (w1 + 6) (fun v112 => L_law_L18 S n v112 m110)) else (some (0, m110))))))) else (if ((S.2 (w1).toNatClampNeg) &&& 31) = 10 then (gd (vin (w1 + 1) S.1) (gd (vin (w1 + 2) S.1) (gd (vin (w1 + 3) S.1) (ob2 (X3_theirs 0 (S.2 ((w1 + 1)).toNatClampNeg) (S.2 ((w1 + 2)).toNatClampNeg) (S.2 ((w1 + 3)).toNatClampNeg) m2) (fun y117 m118 => ob2 (X4_theirs 35 (S.2 ((w1 + 1)).toNatClampNeg) (S.2 ((w1 + 2)).toNatClampNeg) (S.2 ((w1 + 3)).toNatClampNeg) m118) (fun y122 m123 => if (lg_cmp y117 y122) = 0 then (nm (w1 + 6) (fun v125 => L_law_L18 S n v125 m123)) else (some (0, m123)))))))) else (if ((S.2 (w1).toNatClampNeg) &&& 31) = 11 then (gd (vin (w1 + 1) S.1) (ob2 (X3_excise 0 (S.2 ((w1 + 1)).toNatClampNeg) m2) (fun y128 m129 => ob2 (X4_excise 35 (S.2 ((w1 + 1)).toNatClampNeg) m129) (fun y131 m132 => if y128 = y131 then (nm (w1 + 6) (fun v134 => L_law_L18 S n v134 m132)) else (some (0, m132)))))) else (if ((S.2 (w1).toNatClampNeg) &&& 31) = 12 then (gd (vin (w1 + 1) S.1) (ob2 (X3_exciseIn 0 (S.2 ((w1 + 1)).toNatClampNeg) m2) (fun y137 m138 => ob2 (X4_exciseIn 35 (S.2 ((w1 + 1)).toNatClampNeg) m138) (fun y140 m141 => if y137 = y140 then (nm (w1 + 6) (fun v143 => L_law_L18 S n v143 m141)) else (some (0, m141)))))) else (if ((S.2 (w1).toNatClampNeg) &&& 31) = 13 then (gd (vin (w1 + 1) S.1) (gd (vin (w1 + 2) S.1) (ob2 (X3_low 0 (S.2 ((w1 + 1)).toNatClampNeg) (S.2 ((w1 + 2)).toNatClampNeg) m2) (fun y147 m148 => ob2 (X4_low 35 (S.2 ((w1 + 1)).toNatClampNeg) (S.2 ((w1 + 2)).toNatClampNeg) m148) (fun y151 m152 => if y147 = y151 then (nm (w1 + 6) (fun v154 => L_law_L18 S n v154 m152)) else (some (0, m152))))))) else (if ((S.2 (w1).toNatClampNeg) &&& 31) = 14 then (ob2 (X3_turns 0 m2) (fun y156 m157 => ob2 (X4_turns 35 m157) (fun y158 m159 => if y156 = y158 then (nm (w1 + 6) (fun v161 => L_law_L18 S n v161 m159)) else (some (0, m159))))) else (if ((S.2 (w1).toNatClampNeg) &&& 31) = 15 then (gd (vin (w1 + 1) S.1) (ob2 (X3_hum 0 (S.2 ((w1 + 1)).toNatClampNeg) m2) (fun y164 m165 => ob2 (X4_hum 35 (S.2 ((w1 + 1)).toNatClampNeg) m165) (fun y167 m168 => if y164 = y167 then (nm (w1 + 6) (fun v170 => L_law_L18 S n v170 m168)) else (some (0, m168)))))) else (if ((S.2 (w1).toNatClampNeg) &&& 31) = 16 then (gd (vin (w1 + 1) S.1) (gd (vin (w1 + 2) S.1) (ob2 (X3_pourFor 0 (S.2 ((w1 + 1)).toNatClampNeg) (S.2 ((w1 + 2)).toNatClampNeg) m2) (fun y174 m175 => ob2 (X4_pourFor 35 (S.2 ((w1 + 1)).toNatClampNeg) (S.2 ((w1 + 2)).toNatClampNeg) m175) (fun y178 m179 => if y174 = y178 then (nm (w1 + 6) (fun v181 => L_law_L18 S n v181 m179)) else (some (0, m179))))))) else (if ((S.2 (w1).toNatClampNeg) &&& 31) = 17 then (gd (vin (w1 + 1) S.1) (ob2 (X3_blend 0 (S.2 ((w1 + 1)).toNatClampNeg) m2) (fun y184 m185 => ob2 (X4_blend 35 (S.2 ((w1 + 1)).toNatClampNeg) m185) (fun y187 m188 => if y184 = y187 then (nm (w1 + 6) (fun v190 => L_law_L18 S n v190 m188)) else (some (0, m188)))))) else (if ((S.2 (w1).toNatClampNeg) &&& 31) = 18 then (ob (X3_spread 0 m2) (fun y192 => ob (X4_spread 35 m2) (fun y193 => if y192 = y193 then (nm (w1 + 6) (fun v195 => L_law_L18 S n v195 m2)) else (some (0, m2))))) else (if ((S.2 (w1).toNatClampNeg) &&& 31) = 19 then (gd (vin (w1 + 1) S.1) (ob2 (X3_layDown 0 (S.2 ((w1 + 1)).toNatClampNeg) m2) (fun y198 m199 => ob2 (X4_layDown 35 (S.2 ((w1 + 1)).toNatClampNeg) m199) (fun y201 m202 => if y198 = y201 then (nm (w1 + 6) (fun v204 => L_law_L18 S n v204 m202)) else (some (0, m202)))))) else (if ((S.2 (w1).toNatClampNeg) &&& 31) = 20 then (gd (vin (w1 + 1) S.1) (ob2 (X3_sell 0 (S.2 ((w1 + 1)).toNatClampNeg) m2) (fun y207 m208 => ob2 (X4_sell 35 (S.2 ((w1 + 1)).toNatClampNeg) m208) (fun y210 m211 => if y207 = y210 then (nm (w1 + 6) (fun v213 => L_law_L18 S n v213 m211)) else (some (0, m211)))))) else (if ((S.2 (w1).toNatClampNeg) &&& 31) = 21 then (gd (vin (w1 + 1) S.1) (ob2 (X3_treaty 0 (S.2 ((w1 + 1)).toNatClampNeg) m2) (fun y216 m217 => ob2 (X4_treaty 35 (S.2 ((w1 + 1)).toNatClampNeg) m217) (fun y219 m220 => if y216 = y219 then (nm (w1 + 6) (fun v222 => L_law_L18 S n v222 m220)) else (some (0, m220)))))) else (if ((S.2 (w1).toNatClampNeg) &&& 31) = 22 then (gd (vin (w1 + 1) S.1) (gd (vin (w1 + 2) S.1) (ob2 (X3_bestSet 0 (S.2 ((w1 + 1)).toNatClampNeg) (S.2 ((w1 + 2)).toNatClampNeg) m2) (fun y226 m227 => ob2 (X4_bestSet 35 (S.2 ((w1 + 1)).toNatClampNeg) (S.2 ((w1 + 2)).toNatClampNeg) m227) (fun y230 m231 => if y226 = y230 then (nm (w1 + 6) (fun v233 => L_law_L18 S n v233 m231)) else (some (0, m231))))))) else (if ((S.2 (w1).toNatClampNeg) &&& 31) = 23 then (gd (vin (w1 + 1) S.1) (ob2 (X3_iron 0 (S.2 ((w1 + 1)).toNatClampNeg) m2) (fun y236 m237 => ob2 (X4_iron 35 (S.2 ((w1 + 1)).toNatClampNeg) m237) (fun y239 m240 => if y236 = y239 then (nm (w1 + 6) (fun v242 => L_law_L18 S n v242 m240)) else (some (0, m240)))))) else (if ((S.2 (w1).toNatClampNeg) &&& 31) = 24 then (gd (vin (w1 + 1) S.1) (ob2 (X3_row 0 (S.2 ((w1 + 1)).toNatClampNeg) m2) (fun y245 m246 => ob2 (X4_row 35 (S.2 ((w1 + 1)).toNatClampNeg) m246) (fun y248 m249 => if y245 = y248 then (nm (w1 + 6) (fun v251 => L_law_L18 S n v251 m249)) else (some (0, m249)))))) else (if ((S.2 (w1).toNatClampNeg) &&& 31) = 25 then (gd (vin (w1 + 1) S.1) (gd (vin (w1 + 2) S.1) (ob2 (X3_which 0 (S.2 ((w1 + 1)).toNatClampNeg) (S.2 ((w1 + 2)).toNatClampNeg) m2) (fun y255 m256 => ob2 (X4_which 35 (S.2 ((w1 + 1)).toNatClampNeg) (S.2 ((w1 + 2)).toNatClampNeg) m256) (fun y259 m260 => if y255 = y259 then (nm (w1 + 6) (fun v262 => L_law_L18 S n v262 m260)) else (some (0, m260))))))) else (if ((S.2 (w1).toNatClampNeg) &&& 31) = 26 then (gd (vin (w1 + 1) S.1) (ob2 (X3_judge 0 (S.2 ((w1 + 1)).toNatClampNeg) m2) (fun y265 m266 => ob2 (X4_judge 35 (S.2 ((w1 + 1)).toNatClampNeg) m266) (fun y268 m269 => if y265 = y268 then (nm (w1 + 6) (fun v271 => L_law_L18 S n v271 m269)) else (some (0, m269)))))) else (if ((S.2 (w1).toNatClampNeg) &&& 31) = 27 then (gd (vin (w1 + 1) S.1) (gd (vin (w1 + 2) S.1) (gd (vin (w1 + 3) S.1) (gd (vin (w1 + 4) S.1) (gd (vin (w1 + 5) S.1) (ob2 (X3_chance 0 (S.2 ((w1 + 1)).toNatClampNeg) (S.2 ((w1 + 2)).toNatClampNeg) (S.2 ((w1 + 3)).toNatClampNeg) (S.2 ((w1 + 4)).toNatClampNeg) (S.2 ((w1 + 5)).toNatClampNeg) m2) (fun y278 m279 => ob2 (X4_chance 35 (S.2 ((w1 + 1)).toNatClampNeg) (S.2 ((w1 + 2)).toNatClampNeg) (S.2 ((w1 + 3)).toNatClampNeg) (S.2 ((w1 + 4)).toNatClampNeg) (S.2 ((w1 + 5)).toNatClampNeg) m279) (fun y285 m286 => if (lg_cmp y278 y285) = 0 then (nm (w1 + 6) (fun v288 => L_law_L18 S n v288 m286)) else (some (0, m286)))))))))) else (if ((S.2 (w1).toNatClampNeg) &&& 31) = 28 then (gd (vin (w1 + 1) S.1) (gd (vin (w1 + 2) S.1) (gd (vin (w1 + 3) S.1) (ob2 (X3_lots 0 (S.2 ((w1 + 1)).toNatClampNeg) (S.2 ((w1 + 2)).toNatClampNeg) (S.2 ((w1 + 3)).toNatClampNeg) m2) (fun y293 m294 => ob2 (X4_lots 35 (S.2 ((w1 + 1)).toNatClampNeg) (S.2 ((w1 + 2)).toNatClampNeg) (S.2 ((w1 + 3)).toNatClampNeg) m294) (fun y298 m299 => if y293 = y298 then (nm (w1 + 6) (fun v301 => L_law_L18 S n v301 m299)) else (some (0, m299)))))))) else (if ((S.2 (w1).toNatClampNeg) &&& 31) = 29 then (ob2 (X3_image 0 m2) (fun y303 m304 => ob2 (X4_image 35 m304) (fun y305 m306 => if y303 = y305 then (nm (w1 + 6) (fun v308 => L_law_L18 S n v308 m306)) else (some (0, m306))))) else (if ((S.2 (w1).toNatClampNeg) &&& 31) = 30 then (ob2 (X3_on 0 m2) (fun y310 m311 => ob2 (X4_on 35 m311) (fun y312 m313 => if y310 = y312 then (nm (w1 + 6) (fun v315 => L_law_L18 S n v315 m313)) else (some (0, m313))))) else (if ((S.2 (w1).toNatClampNeg) &&& 31) = 31 then (gd (vin (w1 + 1) S.1) (ob (X3_count 0 (S.2 ((w1 + 1)).toNatClampNeg) m2) (fun y318 => ob (X4_count 35 (S.2 ((w1 + 1)).toNatClampNeg) m2) (fun y320 => if y318 = y320 then (nm (w1 + 6) (fun v322 => L_law_L18 S n v322 m2)) else (some (0, m2)))))) else (nm (w1 + 6) (fun v323 => L_law_L18 S n v323 m2)))))))))))))))))))))))))))))))))))
set_option maxRecDepth 100000 in
set_option maxHeartbeats 8000000 in
theorem L_law_L18_ev {S : Sc} {d : Nat}   {rr : Int32} {mr : Mm} {Q : Po}  (q : Q (some (.int rr)) mr) : ∀ (n : Nat) (w1 : Int32) (m2 : Mm), L_law_L18 S n w1 m2 = some (rr, mr) → Ev S (d + 9) 5 cL_law (some .boolean) 18 [some (.ref 90), some (.ref 0), some (.ref 35), some (.int w1)] [] m2 Q := by
  intro n
  induction n with
  | zero => intro w1 m2 h; cases h
  | succ n ih =>
    intro w1 m2 h
    unfold L_law_L18 at h
    refine ev_iload_n dL_law_18 (pc' := 19) rfl rfl ?_
    refine ev_aload_n dL_law_19 (pc' := 20) rfl rfl ?_
    refine ev_alenS dL_law_20 (pc' := 21) rfl ?_
    refine ev_bipush dL_law_21 (pc' := 23) (v := 6) rfl (by decide) ?_
    refine ev_isub dL_law_23 (pc' := 24) rfl ?_
    refine ev_icmp_gt dL_law_24 (pc' := 27) rfl (t := 1090) rfl (fun c3 => ?_) (fun c3 => ?_)
    · replace h := it_t c3 h
      refine ev_iconst dL_law_1090 (pc' := 1091) (v := 1) rfl (by decide) ?_
      obtain ⟨rfl, rfl⟩ := rt2 h
      exact ev_ireturn dL_law_1091 (aret_z (by decide)) q
    · replace h := it_f c3 h
      refine ev_aload_n dL_law_27 (pc' := 28) rfl rfl ?_
      refine ev_iload_n dL_law_28 (pc' := 29) rfl rfl ?_
      obtain ⟨g4, h⟩ := gd_of h
      refine ev_sald dL_law_29 (pc' := 30) rfl g4 ?_
      refine ev_bipush dL_law_30 (pc' := 32) (v := 31) rfl (by decide) ?_
      refine ev_iand dL_law_32 (pc' := 33) rfl ?_
      by_cases c5 : ((S.2 (w1).toNatClampNeg) &&& 31) = 0
      · replace h := it_t c5 h
        refine ev_tableIn dL_law_33 c5 (by decide) rfl (t := 176) rfl ?_
        refine ev_aload_n dL_law_176 (pc' := 177) rfl rfl ?_
        refine ev_aload_n dL_law_177 (pc' := 178) rfl rfl ?_
        refine ev_iload_n dL_law_178 (pc' := 179) rfl rfl ?_
        refine ev_iconst dL_law_179 (pc' := 180) (v := 1) rfl (by decide) ?_
        refine ev_iadd dL_law_180 (pc' := 181) rfl ?_
        obtain ⟨g6, h⟩ := gd_of h
        refine ev_sald dL_law_181 (pc' := 182) rfl g6 ?_
        obtain ⟨y7, m8, x_y7, h⟩ := ob2_of h
        refine ev_invV dL_law_182 (pc' := 185) rfl sq_5_13 mt_X3_letter rfl (arecv_ob (x := 0) rfl rfl (by decide) kn_0) ⟨_, rfl, Nat.le_of_ble_eq_true rfl, Nat.le_of_ble_eq_true rfl, rfl, rfl⟩ ?_
        refine X3_letter_ca  x_y7 ?_
        refine ev_r1 ?_
        refine ev_aload_n dL_law_185 (pc' := 186) rfl rfl ?_
        refine ev_aload_n dL_law_186 (pc' := 187) rfl rfl ?_
        refine ev_iload_n dL_law_187 (pc' := 188) rfl rfl ?_
        refine ev_iconst dL_law_188 (pc' := 189) (v := 1) rfl (by decide) ?_
        refine ev_iadd dL_law_189 (pc' := 190) rfl ?_
        refine ev_sald dL_law_190 (pc' := 191) rfl g6 ?_
        obtain ⟨y10, m11, x_y10, h⟩ := ob2_of h
        refine ev_invV dL_law_191 (pc' := 194) rfl sq_5_17 mt_X4_letter rfl (arecv_ob (x := 35) rfl rfl (by decide) kn_35) ⟨_, rfl, Nat.le_of_ble_eq_true rfl, Nat.le_of_ble_eq_true rfl, rfl, rfl⟩ ?_
        refine X4_letter_ca  x_y10 ?_
        refine ev_r1 ?_
        refine ev_icmp_eq dL_law_194 (pc' := 197) rfl (t := 1084) rfl (fun c12 => ?_) (fun c12 => ?_)
        · replace h := it_t c12 h
          obtain ⟨v13, e_v13⟩ : ∃ y : Int32, y = (w1 + 6) := ⟨_, rfl⟩
          replace h := nm_at e_v13 h
          refine ev_iinc dL_law_1084 (pc' := 1087) (v := v13) (ls' := [some (.ref 90), some (.ref 0), some (.ref 35), some (.int v13)]) rfl rfl (by rw [e_v13]; rfl) (Nat.le_of_ble_eq_true rfl) rfl ?_
          refine ev_goto dL_law_1087 (t := 18) rfl ?_
          exact ev_sub (lsub_c (lsub_c (lsub_c (lsub_c lsub_nil)))) (ih v13 m11 h)
        · replace h := it_f c12 h
          refine ev_iconst dL_law_197 (pc' := 198) (v := 0) rfl (by decide) ?_
          obtain ⟨rfl, rfl⟩ := rt2 h
          exact ev_ireturn dL_law_198 (aret_z (by decide)) q
      · replace h := it_f c5 h
        by_cases c14 : ((S.2 (w1).toNatClampNeg) &&& 31) = 1
        · replace h := it_t c14 h
          refine ev_tableIn dL_law_33 c14 (by decide) rfl (t := 199) rfl ?_
          refine ev_aload_n dL_law_199 (pc' := 200) rfl rfl ?_
          obtain ⟨y15, m16, x_y15, h⟩ := ob2_of h
          refine ev_invV dL_law_200 (pc' := 203) rfl sq_5_18 mt_X3_town rfl (arecv_ob (x := 0) rfl rfl (by decide) kn_0) ⟨_, rfl, Nat.le_of_ble_eq_true rfl, Nat.le_of_ble_eq_true rfl, rfl, rfl⟩ ?_
          refine X3_town_ca  x_y15 ?_
          refine ev_r1 ?_
          refine ev_aload_n dL_law_203 (pc' := 204) rfl rfl ?_
          obtain ⟨y17, m18, x_y17, h⟩ := ob2_of h
          refine ev_invV dL_law_204 (pc' := 207) rfl sq_5_22 mt_X4_town rfl (arecv_ob (x := 35) rfl rfl (by decide) kn_35) ⟨_, rfl, Nat.le_of_ble_eq_true rfl, Nat.le_of_ble_eq_true rfl, rfl, rfl⟩ ?_
          refine X4_town_ca  x_y17 ?_
          refine ev_r1 ?_
          refine ev_icmp_eq dL_law_207 (pc' := 210) rfl (t := 1084) rfl (fun c19 => ?_) (fun c19 => ?_)
          · replace h := it_t c19 h
            obtain ⟨v20, e_v20⟩ : ∃ y : Int32, y = (w1 + 6) := ⟨_, rfl⟩
            replace h := nm_at e_v20 h
            refine ev_iinc dL_law_1084 (pc' := 1087) (v := v20) (ls' := [some (.ref 90), some (.ref 0), some (.ref 35), some (.int v20)]) rfl rfl (by rw [e_v20]; rfl) (Nat.le_of_ble_eq_true rfl) rfl ?_
            refine ev_goto dL_law_1087 (t := 18) rfl ?_
            exact ev_sub (lsub_c (lsub_c (lsub_c (lsub_c lsub_nil)))) (ih v20 m18 h)
          · replace h := it_f c19 h
            refine ev_iconst dL_law_210 (pc' := 211) (v := 0) rfl (by decide) ?_
            obtain ⟨rfl, rfl⟩ := rt2 h
            exact ev_ireturn dL_law_211 (aret_z (by decide)) q
        · replace h := it_f c14 h
          by_cases c21 : ((S.2 (w1).toNatClampNeg) &&& 31) = 2
          · replace h := it_t c21 h
            refine ev_tableIn dL_law_33 c21 (by decide) rfl (t := 212) rfl ?_
            refine ev_aload_n dL_law_212 (pc' := 213) rfl rfl ?_
            refine ev_aload_n dL_law_213 (pc' := 214) rfl rfl ?_
            refine ev_iload_n dL_law_214 (pc' := 215) rfl rfl ?_
            refine ev_iconst dL_law_215 (pc' := 216) (v := 1) rfl (by decide) ?_
            refine ev_iadd dL_law_216 (pc' := 217) rfl ?_
            obtain ⟨g22, h⟩ := gd_of h
            refine ev_sald dL_law_217 (pc' := 218) rfl g22 ?_
            refine ev_aload_n dL_law_218 (pc' := 219) rfl rfl ?_
            refine ev_iload_n dL_law_219 (pc' := 220) rfl rfl ?_
            refine ev_iconst dL_law_220 (pc' := 221) (v := 2) rfl (by decide) ?_
            refine ev_iadd dL_law_221 (pc' := 222) rfl ?_
            obtain ⟨g23, h⟩ := gd_of h
            refine ev_sald dL_law_222 (pc' := 223) rfl g23 ?_
            obtain ⟨y24, m25, x_y24, h⟩ := ob2_of h
            refine ev_invV dL_law_223 (pc' := 226) rfl sq_5_23 mt_X3_cask rfl (arecv_ob (x := 0) rfl rfl (by decide) kn_0) ⟨_, rfl, Nat.le_of_ble_eq_true rfl, Nat.le_of_ble_eq_true rfl, rfl, rfl⟩ ?_
            refine X3_cask_ca  x_y24 ?_
            refine ev_r1 ?_
            refine ev_aload_n dL_law_226 (pc' := 227) rfl rfl ?_
            refine ev_aload_n dL_law_227 (pc' := 228) rfl rfl ?_
            refine ev_iload_n dL_law_228 (pc' := 229) rfl rfl ?_
            refine ev_iconst dL_law_229 (pc' := 230) (v := 1) rfl (by decide) ?_
            refine ev_iadd dL_law_230 (pc' := 231) rfl ?_
            refine ev_sald dL_law_231 (pc' := 232) rfl g22 ?_
            refine ev_aload_n dL_law_232 (pc' := 233) rfl rfl ?_
            refine ev_iload_n dL_law_233 (pc' := 234) rfl rfl ?_
            refine ev_iconst dL_law_234 (pc' := 235) (v := 2) rfl (by decide) ?_
            refine ev_iadd dL_law_235 (pc' := 236) rfl ?_
            refine ev_sald dL_law_236 (pc' := 237) rfl g23 ?_
            obtain ⟨y28, m29, x_y28, h⟩ := ob2_of h
            refine ev_invV dL_law_237 (pc' := 240) rfl sq_5_27 mt_X4_cask rfl (arecv_ob (x := 35) rfl rfl (by decide) kn_35) ⟨_, rfl, Nat.le_of_ble_eq_true rfl, Nat.le_of_ble_eq_true rfl, rfl, rfl⟩ ?_
            refine X4_cask_ca  x_y28 ?_
            refine ev_r1 ?_
            refine ev_icmp_eq dL_law_240 (pc' := 243) rfl (t := 1084) rfl (fun c30 => ?_) (fun c30 => ?_)
            · replace h := it_t c30 h
              obtain ⟨v31, e_v31⟩ : ∃ y : Int32, y = (w1 + 6) := ⟨_, rfl⟩
              replace h := nm_at e_v31 h
              refine ev_iinc dL_law_1084 (pc' := 1087) (v := v31) (ls' := [some (.ref 90), some (.ref 0), some (.ref 35), some (.int v31)]) rfl rfl (by rw [e_v31]; rfl) (Nat.le_of_ble_eq_true rfl) rfl ?_
              refine ev_goto dL_law_1087 (t := 18) rfl ?_
              exact ev_sub (lsub_c (lsub_c (lsub_c (lsub_c lsub_nil)))) (ih v31 m29 h)
            · replace h := it_f c30 h
              refine ev_iconst dL_law_243 (pc' := 244) (v := 0) rfl (by decide) ?_
              obtain ⟨rfl, rfl⟩ := rt2 h
              exact ev_ireturn dL_law_244 (aret_z (by decide)) q
          · replace h := it_f c21 h
            by_cases c32 : ((S.2 (w1).toNatClampNeg) &&& 31) = 3
            · replace h := it_t c32 h
              refine ev_tableIn dL_law_33 c32 (by decide) rfl (t := 245) rfl ?_
              refine ev_aload_n dL_law_245 (pc' := 246) rfl rfl ?_
              refine ev_aload_n dL_law_246 (pc' := 247) rfl rfl ?_
              refine ev_iload_n dL_law_247 (pc' := 248) rfl rfl ?_
              refine ev_iconst dL_law_248 (pc' := 249) (v := 1) rfl (by decide) ?_
              refine ev_iadd dL_law_249 (pc' := 250) rfl ?_
              obtain ⟨g33, h⟩ := gd_of h
              refine ev_sald dL_law_250 (pc' := 251) rfl g33 ?_
              refine ev_aload_n dL_law_251 (pc' := 252) rfl rfl ?_
              refine ev_iload_n dL_law_252 (pc' := 253) rfl rfl ?_
              refine ev_iconst dL_law_253 (pc' := 254) (v := 2) rfl (by decide) ?_
              refine ev_iadd dL_law_254 (pc' := 255) rfl ?_
              obtain ⟨g34, h⟩ := gd_of h
              refine ev_sald dL_law_255 (pc' := 256) rfl g34 ?_
              obtain ⟨y35, m36, x_y35, h⟩ := ob2_of h
              refine ev_invV dL_law_256 (pc' := 259) rfl sq_5_28 mt_X3_set rfl (arecv_ob (x := 0) rfl rfl (by decide) kn_0) ⟨_, rfl, Nat.le_of_ble_eq_true rfl, Nat.le_of_ble_eq_true rfl, rfl, rfl⟩ ?_
              refine X3_set_ca  x_y35 ?_
              refine ev_r1 ?_
              refine ev_aload_n dL_law_259 (pc' := 260) rfl rfl ?_
              refine ev_aload_n dL_law_260 (pc' := 261) rfl rfl ?_
              refine ev_iload_n dL_law_261 (pc' := 262) rfl rfl ?_
              refine ev_iconst dL_law_262 (pc' := 263) (v := 1) rfl (by decide) ?_
              refine ev_iadd dL_law_263 (pc' := 264) rfl ?_
              refine ev_sald dL_law_264 (pc' := 265) rfl g33 ?_
              refine ev_aload_n dL_law_265 (pc' := 266) rfl rfl ?_
              refine ev_iload_n dL_law_266 (pc' := 267) rfl rfl ?_
              refine ev_iconst dL_law_267 (pc' := 268) (v := 2) rfl (by decide) ?_
              refine ev_iadd dL_law_268 (pc' := 269) rfl ?_
              refine ev_sald dL_law_269 (pc' := 270) rfl g34 ?_
              obtain ⟨y39, m40, x_y39, h⟩ := ob2_of h
              refine ev_invV dL_law_270 (pc' := 273) rfl sq_5_31 mt_X4_set rfl (arecv_ob (x := 35) rfl rfl (by decide) kn_35) ⟨_, rfl, Nat.le_of_ble_eq_true rfl, Nat.le_of_ble_eq_true rfl, rfl, rfl⟩ ?_
              refine X4_set_ca  x_y39 ?_
              refine ev_r1 ?_
              refine ev_icmp_eq dL_law_273 (pc' := 276) rfl (t := 1084) rfl (fun c41 => ?_) (fun c41 => ?_)
              · replace h := it_t c41 h
                obtain ⟨v42, e_v42⟩ : ∃ y : Int32, y = (w1 + 6) := ⟨_, rfl⟩
                replace h := nm_at e_v42 h
                refine ev_iinc dL_law_1084 (pc' := 1087) (v := v42) (ls' := [some (.ref 90), some (.ref 0), some (.ref 35), some (.int v42)]) rfl rfl (by rw [e_v42]; rfl) (Nat.le_of_ble_eq_true rfl) rfl ?_
                refine ev_goto dL_law_1087 (t := 18) rfl ?_
                exact ev_sub (lsub_c (lsub_c (lsub_c (lsub_c lsub_nil)))) (ih v42 m40 h)
              · replace h := it_f c41 h
                refine ev_iconst dL_law_276 (pc' := 277) (v := 0) rfl (by decide) ?_
                obtain ⟨rfl, rfl⟩ := rt2 h
                exact ev_ireturn dL_law_277 (aret_z (by decide)) q
            · replace h := it_f c32 h
              by_cases c43 : ((S.2 (w1).toNatClampNeg) &&& 31) = 4
              · replace h := it_t c43 h
                refine ev_tableIn dL_law_33 c43 (by decide) rfl (t := 278) rfl ?_
                refine ev_aload_n dL_law_278 (pc' := 279) rfl rfl ?_
                refine ev_aload_n dL_law_279 (pc' := 280) rfl rfl ?_
                refine ev_iload_n dL_law_280 (pc' := 281) rfl rfl ?_
                refine ev_iconst dL_law_281 (pc' := 282) (v := 1) rfl (by decide) ?_
                refine ev_iadd dL_law_282 (pc' := 283) rfl ?_
                obtain ⟨g44, h⟩ := gd_of h
                refine ev_sald dL_law_283 (pc' := 284) rfl g44 ?_
                refine ev_aload_n dL_law_284 (pc' := 285) rfl rfl ?_
                refine ev_iload_n dL_law_285 (pc' := 286) rfl rfl ?_
                refine ev_iconst dL_law_286 (pc' := 287) (v := 2) rfl (by decide) ?_
                refine ev_iadd dL_law_287 (pc' := 288) rfl ?_
                obtain ⟨g45, h⟩ := gd_of h
                refine ev_sald dL_law_288 (pc' := 289) rfl g45 ?_
                obtain ⟨y46, m47, x_y46, h⟩ := ob2_of h
                refine ev_invV dL_law_289 (pc' := 292) rfl sq_5_32 mt_X3_fill rfl (arecv_ob (x := 0) rfl rfl (by decide) kn_0) ⟨_, rfl, Nat.le_of_ble_eq_true rfl, Nat.le_of_ble_eq_true rfl, rfl, rfl⟩ ?_
                refine X3_fill_ca  x_y46 ?_
                refine ev_r1 ?_
                refine ev_aload_n dL_law_292 (pc' := 293) rfl rfl ?_
                refine ev_aload_n dL_law_293 (pc' := 294) rfl rfl ?_
                refine ev_iload_n dL_law_294 (pc' := 295) rfl rfl ?_
                refine ev_iconst dL_law_295 (pc' := 296) (v := 1) rfl (by decide) ?_
                refine ev_iadd dL_law_296 (pc' := 297) rfl ?_
                refine ev_sald dL_law_297 (pc' := 298) rfl g44 ?_
                refine ev_aload_n dL_law_298 (pc' := 299) rfl rfl ?_
                refine ev_iload_n dL_law_299 (pc' := 300) rfl rfl ?_
                refine ev_iconst dL_law_300 (pc' := 301) (v := 2) rfl (by decide) ?_
                refine ev_iadd dL_law_301 (pc' := 302) rfl ?_
                refine ev_sald dL_law_302 (pc' := 303) rfl g45 ?_
                obtain ⟨y50, m51, x_y50, h⟩ := ob2_of h
                refine ev_invV dL_law_303 (pc' := 306) rfl sq_5_35 mt_X4_fill rfl (arecv_ob (x := 35) rfl rfl (by decide) kn_35) ⟨_, rfl, Nat.le_of_ble_eq_true rfl, Nat.le_of_ble_eq_true rfl, rfl, rfl⟩ ?_
                refine X4_fill_ca  x_y50 ?_
                refine ev_r1 ?_
                refine ev_icmp_eq dL_law_306 (pc' := 309) rfl (t := 1084) rfl (fun c52 => ?_) (fun c52 => ?_)
                · replace h := it_t c52 h
                  obtain ⟨v53, e_v53⟩ : ∃ y : Int32, y = (w1 + 6) := ⟨_, rfl⟩
                  replace h := nm_at e_v53 h
                  refine ev_iinc dL_law_1084 (pc' := 1087) (v := v53) (ls' := [some (.ref 90), some (.ref 0), some (.ref 35), some (.int v53)]) rfl rfl (by rw [e_v53]; rfl) (Nat.le_of_ble_eq_true rfl) rfl ?_
                  refine ev_goto dL_law_1087 (t := 18) rfl ?_
                  exact ev_sub (lsub_c (lsub_c (lsub_c (lsub_c lsub_nil)))) (ih v53 m51 h)
                · replace h := it_f c52 h
                  refine ev_iconst dL_law_309 (pc' := 310) (v := 0) rfl (by decide) ?_
                  obtain ⟨rfl, rfl⟩ := rt2 h
                  exact ev_ireturn dL_law_310 (aret_z (by decide)) q
              · replace h := it_f c43 h
                by_cases c54 : ((S.2 (w1).toNatClampNeg) &&& 31) = 5
                · replace h := it_t c54 h
                  refine ev_tableIn dL_law_33 c54 (by decide) rfl (t := 311) rfl ?_
                  refine ev_aload_n dL_law_311 (pc' := 312) rfl rfl ?_
                  refine ev_aload_n dL_law_312 (pc' := 313) rfl rfl ?_
                  refine ev_iload_n dL_law_313 (pc' := 314) rfl rfl ?_
                  refine ev_iconst dL_law_314 (pc' := 315) (v := 1) rfl (by decide) ?_
                  refine ev_iadd dL_law_315 (pc' := 316) rfl ?_
                  obtain ⟨g55, h⟩ := gd_of h
                  refine ev_sald dL_law_316 (pc' := 317) rfl g55 ?_
                  refine ev_aload_n dL_law_317 (pc' := 318) rfl rfl ?_
                  refine ev_iload_n dL_law_318 (pc' := 319) rfl rfl ?_
                  refine ev_iconst dL_law_319 (pc' := 320) (v := 2) rfl (by decide) ?_
                  refine ev_iadd dL_law_320 (pc' := 321) rfl ?_
                  obtain ⟨g56, h⟩ := gd_of h
                  refine ev_sald dL_law_321 (pc' := 322) rfl g56 ?_
                  refine ev_aload_n dL_law_322 (pc' := 323) rfl rfl ?_
                  refine ev_iload_n dL_law_323 (pc' := 324) rfl rfl ?_
                  refine ev_iconst dL_law_324 (pc' := 325) (v := 3) rfl (by decide) ?_
                  refine ev_iadd dL_law_325 (pc' := 326) rfl ?_
                  obtain ⟨g57, h⟩ := gd_of h
                  refine ev_sald dL_law_326 (pc' := 327) rfl g57 ?_
                  obtain ⟨y58, m59, x_y58, h⟩ := ob2_of h
                  refine ev_invV dL_law_327 (pc' := 330) rfl sq_5_36 mt_X3_takes rfl (arecv_ob (x := 0) rfl rfl (by decide) kn_0) ⟨_, rfl, Nat.le_of_ble_eq_true rfl, Nat.le_of_ble_eq_true rfl, rfl, rfl⟩ ?_
                  refine X3_takes_ca  x_y58 ?_
                  refine ev_r1 ?_
                  refine ev_aload_n dL_law_330 (pc' := 331) rfl rfl ?_
                  refine ev_aload_n dL_law_331 (pc' := 332) rfl rfl ?_
                  refine ev_iload_n dL_law_332 (pc' := 333) rfl rfl ?_
                  refine ev_iconst dL_law_333 (pc' := 334) (v := 1) rfl (by decide) ?_
                  refine ev_iadd dL_law_334 (pc' := 335) rfl ?_
                  refine ev_sald dL_law_335 (pc' := 336) rfl g55 ?_
                  refine ev_aload_n dL_law_336 (pc' := 337) rfl rfl ?_
                  refine ev_iload_n dL_law_337 (pc' := 338) rfl rfl ?_
                  refine ev_iconst dL_law_338 (pc' := 339) (v := 2) rfl (by decide) ?_
                  refine ev_iadd dL_law_339 (pc' := 340) rfl ?_
                  refine ev_sald dL_law_340 (pc' := 341) rfl g56 ?_
                  refine ev_aload_n dL_law_341 (pc' := 342) rfl rfl ?_
                  refine ev_iload_n dL_law_342 (pc' := 343) rfl rfl ?_
                  refine ev_iconst dL_law_343 (pc' := 344) (v := 3) rfl (by decide) ?_
                  refine ev_iadd dL_law_344 (pc' := 345) rfl ?_
                  refine ev_sald dL_law_345 (pc' := 346) rfl g57 ?_
                  obtain ⟨y63, m64, x_y63, h⟩ := ob2_of h
                  refine ev_invV dL_law_346 (pc' := 349) rfl sq_5_40 mt_X4_takes rfl (arecv_ob (x := 35) rfl rfl (by decide) kn_35) ⟨_, rfl, Nat.le_of_ble_eq_true rfl, Nat.le_of_ble_eq_true rfl, rfl, rfl⟩ ?_
                  refine X4_takes_ca  x_y63 ?_
                  refine ev_r1 ?_
                  refine ev_icmp_eq dL_law_349 (pc' := 352) rfl (t := 1084) rfl (fun c65 => ?_) (fun c65 => ?_)
                  · replace h := it_t c65 h
                    obtain ⟨v66, e_v66⟩ : ∃ y : Int32, y = (w1 + 6) := ⟨_, rfl⟩
                    replace h := nm_at e_v66 h
                    refine ev_iinc dL_law_1084 (pc' := 1087) (v := v66) (ls' := [some (.ref 90), some (.ref 0), some (.ref 35), some (.int v66)]) rfl rfl (by rw [e_v66]; rfl) (Nat.le_of_ble_eq_true rfl) rfl ?_
                    refine ev_goto dL_law_1087 (t := 18) rfl ?_
                    exact ev_sub (lsub_c (lsub_c (lsub_c (lsub_c lsub_nil)))) (ih v66 m64 h)
                  · replace h := it_f c65 h
                    refine ev_iconst dL_law_352 (pc' := 353) (v := 0) rfl (by decide) ?_
                    obtain ⟨rfl, rfl⟩ := rt2 h
                    exact ev_ireturn dL_law_353 (aret_z (by decide)) q
                · replace h := it_f c54 h
                  by_cases c67 : ((S.2 (w1).toNatClampNeg) &&& 31) = 6
                  · replace h := it_t c67 h
                    refine ev_tableIn dL_law_33 c67 (by decide) rfl (t := 354) rfl ?_
                    refine ev_aload_n dL_law_354 (pc' := 355) rfl rfl ?_
                    refine ev_aload_n dL_law_355 (pc' := 356) rfl rfl ?_
                    refine ev_iload_n dL_law_356 (pc' := 357) rfl rfl ?_
                    refine ev_iconst dL_law_357 (pc' := 358) (v := 1) rfl (by decide) ?_
                    refine ev_iadd dL_law_358 (pc' := 359) rfl ?_
                    obtain ⟨g68, h⟩ := gd_of h
                    refine ev_sald dL_law_359 (pc' := 360) rfl g68 ?_
                    refine ev_aload_n dL_law_360 (pc' := 361) rfl rfl ?_
                    refine ev_iload_n dL_law_361 (pc' := 362) rfl rfl ?_
                    refine ev_iconst dL_law_362 (pc' := 363) (v := 2) rfl (by decide) ?_
                    refine ev_iadd dL_law_363 (pc' := 364) rfl ?_
                    obtain ⟨g69, h⟩ := gd_of h
                    refine ev_sald dL_law_364 (pc' := 365) rfl g69 ?_
                    refine ev_aload_n dL_law_365 (pc' := 366) rfl rfl ?_
                    refine ev_iload_n dL_law_366 (pc' := 367) rfl rfl ?_
                    refine ev_iconst dL_law_367 (pc' := 368) (v := 3) rfl (by decide) ?_
                    refine ev_iadd dL_law_368 (pc' := 369) rfl ?_
                    obtain ⟨g70, h⟩ := gd_of h
                    refine ev_sald dL_law_369 (pc' := 370) rfl g70 ?_
                    obtain ⟨y71, m72, x_y71, h⟩ := ob2_of h
                    refine ev_invV dL_law_370 (pc' := 373) rfl sq_5_41 mt_X3_pour rfl (arecv_ob (x := 0) rfl rfl (by decide) kn_0) ⟨_, rfl, Nat.le_of_ble_eq_true rfl, Nat.le_of_ble_eq_true rfl, rfl, rfl⟩ ?_
                    refine X3_pour_ca  x_y71 ?_
                    refine ev_r1 ?_
                    refine ev_aload_n dL_law_373 (pc' := 374) rfl rfl ?_
                    refine ev_aload_n dL_law_374 (pc' := 375) rfl rfl ?_
                    refine ev_iload_n dL_law_375 (pc' := 376) rfl rfl ?_
                    refine ev_iconst dL_law_376 (pc' := 377) (v := 1) rfl (by decide) ?_
                    refine ev_iadd dL_law_377 (pc' := 378) rfl ?_
                    refine ev_sald dL_law_378 (pc' := 379) rfl g68 ?_
                    refine ev_aload_n dL_law_379 (pc' := 380) rfl rfl ?_
                    refine ev_iload_n dL_law_380 (pc' := 381) rfl rfl ?_
                    refine ev_iconst dL_law_381 (pc' := 382) (v := 2) rfl (by decide) ?_
                    refine ev_iadd dL_law_382 (pc' := 383) rfl ?_
                    refine ev_sald dL_law_383 (pc' := 384) rfl g69 ?_
                    refine ev_aload_n dL_law_384 (pc' := 385) rfl rfl ?_
                    refine ev_iload_n dL_law_385 (pc' := 386) rfl rfl ?_
                    refine ev_iconst dL_law_386 (pc' := 387) (v := 3) rfl (by decide) ?_
                    refine ev_iadd dL_law_387 (pc' := 388) rfl ?_
                    refine ev_sald dL_law_388 (pc' := 389) rfl g70 ?_
                    obtain ⟨y76, m77, x_y76, h⟩ := ob2_of h
                    refine ev_invV dL_law_389 (pc' := 392) rfl sq_5_44 mt_X4_pour rfl (arecv_ob (x := 35) rfl rfl (by decide) kn_35) ⟨_, rfl, Nat.le_of_ble_eq_true rfl, Nat.le_of_ble_eq_true rfl, rfl, rfl⟩ ?_
                    refine X4_pour_ca  x_y76 ?_
                    refine ev_r1 ?_
                    refine ev_icmp_eq dL_law_392 (pc' := 395) rfl (t := 1084) rfl (fun c78 => ?_) (fun c78 => ?_)
                    · replace h := it_t c78 h
                      obtain ⟨v79, e_v79⟩ : ∃ y : Int32, y = (w1 + 6) := ⟨_, rfl⟩
                      replace h := nm_at e_v79 h
                      refine ev_iinc dL_law_1084 (pc' := 1087) (v := v79) (ls' := [some (.ref 90), some (.ref 0), some (.ref 35), some (.int v79)]) rfl rfl (by rw [e_v79]; rfl) (Nat.le_of_ble_eq_true rfl) rfl ?_
                      refine ev_goto dL_law_1087 (t := 18) rfl ?_
                      exact ev_sub (lsub_c (lsub_c (lsub_c (lsub_c lsub_nil)))) (ih v79 m77 h)
                    · replace h := it_f c78 h
                      refine ev_iconst dL_law_395 (pc' := 396) (v := 0) rfl (by decide) ?_
                      obtain ⟨rfl, rfl⟩ := rt2 h
                      exact ev_ireturn dL_law_396 (aret_z (by decide)) q
                  · replace h := it_f c67 h
                    by_cases c80 : ((S.2 (w1).toNatClampNeg) &&& 31) = 7
                    · replace h := it_t c80 h
                      refine ev_tableIn dL_law_33 c80 (by decide) rfl (t := 397) rfl ?_
                      refine ev_aload_n dL_law_397 (pc' := 398) rfl rfl ?_
                      refine ev_aload_n dL_law_398 (pc' := 399) rfl rfl ?_
                      refine ev_iload_n dL_law_399 (pc' := 400) rfl rfl ?_
                      refine ev_iconst dL_law_400 (pc' := 401) (v := 1) rfl (by decide) ?_
                      refine ev_iadd dL_law_401 (pc' := 402) rfl ?_
                      obtain ⟨g81, h⟩ := gd_of h
                      refine ev_sald dL_law_402 (pc' := 403) rfl g81 ?_
                      obtain ⟨y82, m83, x_y82, h⟩ := ob2_of h
                      refine ev_invV dL_law_403 (pc' := 406) rfl sq_5_45 mt_X3_years rfl (arecv_ob (x := 0) rfl rfl (by decide) kn_0) ⟨_, rfl, Nat.le_of_ble_eq_true rfl, Nat.le_of_ble_eq_true rfl, rfl, rfl⟩ ?_
                      refine X3_years_ca  x_y82 ?_
                      refine ev_r1 ?_
                      refine ev_aload_n dL_law_406 (pc' := 407) rfl rfl ?_
                      refine ev_aload_n dL_law_407 (pc' := 408) rfl rfl ?_
                      refine ev_iload_n dL_law_408 (pc' := 409) rfl rfl ?_
                      refine ev_iconst dL_law_409 (pc' := 410) (v := 1) rfl (by decide) ?_
                      refine ev_iadd dL_law_410 (pc' := 411) rfl ?_
                      refine ev_sald dL_law_411 (pc' := 412) rfl g81 ?_
                      obtain ⟨y85, m86, x_y85, h⟩ := ob2_of h
                      refine ev_invV dL_law_412 (pc' := 415) rfl sq_5_48 mt_X4_years rfl (arecv_ob (x := 35) rfl rfl (by decide) kn_35) ⟨_, rfl, Nat.le_of_ble_eq_true rfl, Nat.le_of_ble_eq_true rfl, rfl, rfl⟩ ?_
                      refine X4_years_ca  x_y85 ?_
                      refine ev_r1 ?_
                      refine ev_icmp_eq dL_law_415 (pc' := 418) rfl (t := 1084) rfl (fun c87 => ?_) (fun c87 => ?_)
                      · replace h := it_t c87 h
                        obtain ⟨v88, e_v88⟩ : ∃ y : Int32, y = (w1 + 6) := ⟨_, rfl⟩
                        replace h := nm_at e_v88 h
                        refine ev_iinc dL_law_1084 (pc' := 1087) (v := v88) (ls' := [some (.ref 90), some (.ref 0), some (.ref 35), some (.int v88)]) rfl rfl (by rw [e_v88]; rfl) (Nat.le_of_ble_eq_true rfl) rfl ?_
                        refine ev_goto dL_law_1087 (t := 18) rfl ?_
                        exact ev_sub (lsub_c (lsub_c (lsub_c (lsub_c lsub_nil)))) (ih v88 m86 h)
                      · replace h := it_f c87 h
                        refine ev_iconst dL_law_418 (pc' := 419) (v := 0) rfl (by decide) ?_
                        obtain ⟨rfl, rfl⟩ := rt2 h
                        exact ev_ireturn dL_law_419 (aret_z (by decide)) q
                    · replace h := it_f c80 h
                      by_cases c89 : ((S.2 (w1).toNatClampNeg) &&& 31) = 8
                      · replace h := it_t c89 h
                        refine ev_tableIn dL_law_33 c89 (by decide) rfl (t := 420) rfl ?_
                        refine ev_aload_n dL_law_420 (pc' := 421) rfl rfl ?_
                        refine ev_aload_n dL_law_421 (pc' := 422) rfl rfl ?_
                        refine ev_iload_n dL_law_422 (pc' := 423) rfl rfl ?_
                        refine ev_iconst dL_law_423 (pc' := 424) (v := 1) rfl (by decide) ?_
                        refine ev_iadd dL_law_424 (pc' := 425) rfl ?_
                        obtain ⟨g90, h⟩ := gd_of h
                        refine ev_sald dL_law_425 (pc' := 426) rfl g90 ?_
                        refine ev_aload_n dL_law_426 (pc' := 427) rfl rfl ?_
                        refine ev_iload_n dL_law_427 (pc' := 428) rfl rfl ?_
                        refine ev_iconst dL_law_428 (pc' := 429) (v := 2) rfl (by decide) ?_
                        refine ev_iadd dL_law_429 (pc' := 430) rfl ?_
                        obtain ⟨g91, h⟩ := gd_of h
                        refine ev_sald dL_law_430 (pc' := 431) rfl g91 ?_
                        refine ev_aload_n dL_law_431 (pc' := 432) rfl rfl ?_
                        refine ev_iload_n dL_law_432 (pc' := 433) rfl rfl ?_
                        refine ev_iconst dL_law_433 (pc' := 434) (v := 3) rfl (by decide) ?_
                        refine ev_iadd dL_law_434 (pc' := 435) rfl ?_
                        obtain ⟨g92, h⟩ := gd_of h
                        refine ev_sald dL_law_435 (pc' := 436) rfl g92 ?_
                        obtain ⟨y93, m94, x_y93, h⟩ := ob2_of h
                        refine ev_invV dL_law_436 (pc' := 439) rfl sq_5_49 mt_X3_behind rfl (arecv_ob (x := 0) rfl rfl (by decide) kn_0) ⟨_, rfl, Nat.le_of_ble_eq_true rfl, Nat.le_of_ble_eq_true rfl, rfl, rfl⟩ ?_
                        refine X3_behind_ca  x_y93 ?_
                        refine ev_r1 ?_
                        refine ev_aload_n dL_law_439 (pc' := 440) rfl rfl ?_
                        refine ev_aload_n dL_law_440 (pc' := 441) rfl rfl ?_
                        refine ev_iload_n dL_law_441 (pc' := 442) rfl rfl ?_
                        refine ev_iconst dL_law_442 (pc' := 443) (v := 1) rfl (by decide) ?_
                        refine ev_iadd dL_law_443 (pc' := 444) rfl ?_
                        refine ev_sald dL_law_444 (pc' := 445) rfl g90 ?_
                        refine ev_aload_n dL_law_445 (pc' := 446) rfl rfl ?_
                        refine ev_iload_n dL_law_446 (pc' := 447) rfl rfl ?_
                        refine ev_iconst dL_law_447 (pc' := 448) (v := 2) rfl (by decide) ?_
                        refine ev_iadd dL_law_448 (pc' := 449) rfl ?_
                        refine ev_sald dL_law_449 (pc' := 450) rfl g91 ?_
                        refine ev_aload_n dL_law_450 (pc' := 451) rfl rfl ?_
                        refine ev_iload_n dL_law_451 (pc' := 452) rfl rfl ?_
                        refine ev_iconst dL_law_452 (pc' := 453) (v := 3) rfl (by decide) ?_
                        refine ev_iadd dL_law_453 (pc' := 454) rfl ?_
                        refine ev_sald dL_law_454 (pc' := 455) rfl g92 ?_
                        obtain ⟨y98, m99, x_y98, h⟩ := ob2_of h
                        refine ev_invV dL_law_455 (pc' := 458) rfl sq_5_52 mt_X4_behind rfl (arecv_ob (x := 35) rfl rfl (by decide) kn_35) ⟨_, rfl, Nat.le_of_ble_eq_true rfl, Nat.le_of_ble_eq_true rfl, rfl, rfl⟩ ?_
                        refine X4_behind_ca  x_y98 ?_
                        refine ev_r1 ?_
                        refine ev_icmp_eq dL_law_458 (pc' := 461) rfl (t := 1084) rfl (fun c100 => ?_) (fun c100 => ?_)
                        · replace h := it_t c100 h
                          obtain ⟨v101, e_v101⟩ : ∃ y : Int32, y = (w1 + 6) := ⟨_, rfl⟩
                          replace h := nm_at e_v101 h
                          refine ev_iinc dL_law_1084 (pc' := 1087) (v := v101) (ls' := [some (.ref 90), some (.ref 0), some (.ref 35), some (.int v101)]) rfl rfl (by rw [e_v101]; rfl) (Nat.le_of_ble_eq_true rfl) rfl ?_
                          refine ev_goto dL_law_1087 (t := 18) rfl ?_
                          exact ev_sub (lsub_c (lsub_c (lsub_c (lsub_c lsub_nil)))) (ih v101 m99 h)
                        · replace h := it_f c100 h
                          refine ev_iconst dL_law_461 (pc' := 462) (v := 0) rfl (by decide) ?_
                          obtain ⟨rfl, rfl⟩ := rt2 h
                          exact ev_ireturn dL_law_462 (aret_z (by decide)) q
                      · replace h := it_f c89 h
                        by_cases c102 : ((S.2 (w1).toNatClampNeg) &&& 31) = 9
                        · replace h := it_t c102 h
                          refine ev_tableIn dL_law_33 c102 (by decide) rfl (t := 463) rfl ?_
                          refine ev_aload_n dL_law_463 (pc' := 464) rfl rfl ?_
                          refine ev_aload_n dL_law_464 (pc' := 465) rfl rfl ?_
                          refine ev_iload_n dL_law_465 (pc' := 466) rfl rfl ?_
                          refine ev_iconst dL_law_466 (pc' := 467) (v := 1) rfl (by decide) ?_
                          refine ev_iadd dL_law_467 (pc' := 468) rfl ?_
                          obtain ⟨g103, h⟩ := gd_of h
                          refine ev_sald dL_law_468 (pc' := 469) rfl g103 ?_
                          refine ev_aload_n dL_law_469 (pc' := 470) rfl rfl ?_
                          refine ev_iload_n dL_law_470 (pc' := 471) rfl rfl ?_
                          refine ev_iconst dL_law_471 (pc' := 472) (v := 2) rfl (by decide) ?_
                          refine ev_iadd dL_law_472 (pc' := 473) rfl ?_
                          obtain ⟨g104, h⟩ := gd_of h
                          refine ev_sald dL_law_473 (pc' := 474) rfl g104 ?_
                          obtain ⟨y105, m106, x_y105, h⟩ := ob2_of h
                          refine ev_invV dL_law_474 (pc' := 477) rfl sq_5_53 mt_X3_allBehind rfl (arecv_ob (x := 0) rfl rfl (by decide) kn_0) ⟨_, rfl, Nat.le_of_ble_eq_true rfl, Nat.le_of_ble_eq_true rfl, rfl, rfl⟩ ?_
                          refine X3_allBehind_ca  x_y105 ?_
                          refine ev_r1 ?_
                          refine ev_aload_n dL_law_477 (pc' := 478) rfl rfl ?_
                          refine ev_aload_n dL_law_478 (pc' := 479) rfl rfl ?_
                          refine ev_iload_n dL_law_479 (pc' := 480) rfl rfl ?_
                          refine ev_iconst dL_law_480 (pc' := 481) (v := 1) rfl (by decide) ?_
                          refine ev_iadd dL_law_481 (pc' := 482) rfl ?_
                          refine ev_sald dL_law_482 (pc' := 483) rfl g103 ?_
                          refine ev_aload_n dL_law_483 (pc' := 484) rfl rfl ?_
                          refine ev_iload_n dL_law_484 (pc' := 485) rfl rfl ?_
                          refine ev_iconst dL_law_485 (pc' := 486) (v := 2) rfl (by decide) ?_
                          refine ev_iadd dL_law_486 (pc' := 487) rfl ?_
                          refine ev_sald dL_law_487 (pc' := 488) rfl g104 ?_
                          obtain ⟨y109, m110, x_y109, h⟩ := ob2_of h
                          refine ev_invV dL_law_488 (pc' := 491) rfl sq_5_56 mt_X4_allBehind rfl (arecv_ob (x := 35) rfl rfl (by decide) kn_35) ⟨_, rfl, Nat.le_of_ble_eq_true rfl, Nat.le_of_ble_eq_true rfl, rfl, rfl⟩ ?_
                          refine X4_allBehind_ca  x_y109 ?_
                          refine ev_r1 ?_
                          refine ev_icmp_eq dL_law_491 (pc' := 494) rfl (t := 1084) rfl (fun c111 => ?_) (fun c111 => ?_)
                          · replace h := it_t c111 h
                            obtain ⟨v112, e_v112⟩ : ∃ y : Int32, y = (w1 + 6) := ⟨_, rfl⟩
                            replace h := nm_at e_v112 h
                            refine ev_iinc dL_law_1084 (pc' := 1087) (v := v112) (ls' := [some (.ref 90), some (.ref 0), some (.ref 35), some (.int v112)]) rfl rfl (by rw [e_v112]; rfl) (Nat.le_of_ble_eq_true rfl) rfl ?_
                            refine ev_goto dL_law_1087 (t := 18) rfl ?_
                            exact ev_sub (lsub_c (lsub_c (lsub_c (lsub_c lsub_nil)))) (ih v112 m110 h)
                          · replace h := it_f c111 h
                            refine ev_iconst dL_law_494 (pc' := 495) (v := 0) rfl (by decide) ?_
                            obtain ⟨rfl, rfl⟩ := rt2 h
                            exact ev_ireturn dL_law_495 (aret_z (by decide)) q
                        · replace h := it_f c102 h
                          by_cases c113 : ((S.2 (w1).toNatClampNeg) &&& 31) = 10
                          · replace h := it_t c113 h
                            refine ev_tableIn dL_law_33 c113 (by decide) rfl (t := 496) rfl ?_
                            refine ev_aload_n dL_law_496 (pc' := 497) rfl rfl ?_
                            refine ev_aload_n dL_law_497 (pc' := 498) rfl rfl ?_
                            refine ev_iload_n dL_law_498 (pc' := 499) rfl rfl ?_
                            refine ev_iconst dL_law_499 (pc' := 500) (v := 1) rfl (by decide) ?_
                            refine ev_iadd dL_law_500 (pc' := 501) rfl ?_
                            obtain ⟨g114, h⟩ := gd_of h
                            refine ev_sald dL_law_501 (pc' := 502) rfl g114 ?_
                            refine ev_aload_n dL_law_502 (pc' := 503) rfl rfl ?_
                            refine ev_iload_n dL_law_503 (pc' := 504) rfl rfl ?_
                            refine ev_iconst dL_law_504 (pc' := 505) (v := 2) rfl (by decide) ?_
                            refine ev_iadd dL_law_505 (pc' := 506) rfl ?_
                            obtain ⟨g115, h⟩ := gd_of h
                            refine ev_sald dL_law_506 (pc' := 507) rfl g115 ?_
                            refine ev_aload_n dL_law_507 (pc' := 508) rfl rfl ?_
                            refine ev_iload_n dL_law_508 (pc' := 509) rfl rfl ?_
                            refine ev_iconst dL_law_509 (pc' := 510) (v := 3) rfl (by decide) ?_
                            refine ev_iadd dL_law_510 (pc' := 511) rfl ?_
                            obtain ⟨g116, h⟩ := gd_of h
                            refine ev_sald dL_law_511 (pc' := 512) rfl g116 ?_
                            obtain ⟨y117, m118, x_y117, h⟩ := ob2_of h
                            refine ev_invV dL_law_512 (pc' := 515) rfl sq_5_57 mt_X3_theirs rfl (arecv_ob (x := 0) rfl rfl (by decide) kn_0) ⟨_, rfl, Nat.le_of_ble_eq_true rfl, Nat.le_of_ble_eq_true rfl, rfl, rfl⟩ ?_
                            refine X3_theirs_ca  x_y117 ?_
                            refine ev_r1 ?_
                            refine ev_aload_n dL_law_515 (pc' := 516) rfl rfl ?_
                            refine ev_aload_n dL_law_516 (pc' := 517) rfl rfl ?_
                            refine ev_iload_n dL_law_517 (pc' := 518) rfl rfl ?_
                            refine ev_iconst dL_law_518 (pc' := 519) (v := 1) rfl (by decide) ?_
                            refine ev_iadd dL_law_519 (pc' := 520) rfl ?_
                            refine ev_sald dL_law_520 (pc' := 521) rfl g114 ?_
                            refine ev_aload_n dL_law_521 (pc' := 522) rfl rfl ?_
                            refine ev_iload_n dL_law_522 (pc' := 523) rfl rfl ?_
                            refine ev_iconst dL_law_523 (pc' := 524) (v := 2) rfl (by decide) ?_
                            refine ev_iadd dL_law_524 (pc' := 525) rfl ?_
                            refine ev_sald dL_law_525 (pc' := 526) rfl g115 ?_
                            refine ev_aload_n dL_law_526 (pc' := 527) rfl rfl ?_
                            refine ev_iload_n dL_law_527 (pc' := 528) rfl rfl ?_
                            refine ev_iconst dL_law_528 (pc' := 529) (v := 3) rfl (by decide) ?_
                            refine ev_iadd dL_law_529 (pc' := 530) rfl ?_
                            refine ev_sald dL_law_530 (pc' := 531) rfl g116 ?_
                            obtain ⟨y122, m123, x_y122, h⟩ := ob2_of h
                            refine ev_invV dL_law_531 (pc' := 534) rfl sq_5_61 mt_X4_theirs rfl (arecv_ob (x := 35) rfl rfl (by decide) kn_35) ⟨_, rfl, Nat.le_of_ble_eq_true rfl, Nat.le_of_ble_eq_true rfl, rfl, rfl⟩ ?_
                            refine X4_theirs_ca  x_y122 ?_
                            refine ev_r1 ?_
                            refine ev_lcmp dL_law_534 (pc' := 535) rfl ?_
                            refine ev_if_eq dL_law_535 (pc' := 538) rfl (t := 1084) rfl (fun c124 => ?_) (fun c124 => ?_)
                            · replace h := it_t c124 h
                              obtain ⟨v125, e_v125⟩ : ∃ y : Int32, y = (w1 + 6) := ⟨_, rfl⟩
                              replace h := nm_at e_v125 h
                              refine ev_iinc dL_law_1084 (pc' := 1087) (v := v125) (ls' := [some (.ref 90), some (.ref 0), some (.ref 35), some (.int v125)]) rfl rfl (by rw [e_v125]; rfl) (Nat.le_of_ble_eq_true rfl) rfl ?_
                              refine ev_goto dL_law_1087 (t := 18) rfl ?_
                              exact ev_sub (lsub_c (lsub_c (lsub_c (lsub_c lsub_nil)))) (ih v125 m123 h)
                            · replace h := it_f c124 h
                              refine ev_iconst dL_law_538 (pc' := 539) (v := 0) rfl (by decide) ?_
                              obtain ⟨rfl, rfl⟩ := rt2 h
                              exact ev_ireturn dL_law_539 (aret_z (by decide)) q
                          · replace h := it_f c113 h
                            by_cases c126 : ((S.2 (w1).toNatClampNeg) &&& 31) = 11
                            · replace h := it_t c126 h
                              refine ev_tableIn dL_law_33 c126 (by decide) rfl (t := 540) rfl ?_
                              refine ev_aload_n dL_law_540 (pc' := 541) rfl rfl ?_
                              refine ev_aload_n dL_law_541 (pc' := 542) rfl rfl ?_
                              refine ev_iload_n dL_law_542 (pc' := 543) rfl rfl ?_
                              refine ev_iconst dL_law_543 (pc' := 544) (v := 1) rfl (by decide) ?_
                              refine ev_iadd dL_law_544 (pc' := 545) rfl ?_
                              obtain ⟨g127, h⟩ := gd_of h
                              refine ev_sald dL_law_545 (pc' := 546) rfl g127 ?_
                              obtain ⟨y128, m129, x_y128, h⟩ := ob2_of h
                              refine ev_invV dL_law_546 (pc' := 549) rfl sq_5_62 mt_X3_excise rfl (arecv_ob (x := 0) rfl rfl (by decide) kn_0) ⟨_, rfl, Nat.le_of_ble_eq_true rfl, Nat.le_of_ble_eq_true rfl, rfl, rfl⟩ ?_
                              refine X3_excise_ca  x_y128 ?_
                              refine ev_r1 ?_
                              refine ev_aload_n dL_law_549 (pc' := 550) rfl rfl ?_
                              refine ev_aload_n dL_law_550 (pc' := 551) rfl rfl ?_
                              refine ev_iload_n dL_law_551 (pc' := 552) rfl rfl ?_
                              refine ev_iconst dL_law_552 (pc' := 553) (v := 1) rfl (by decide) ?_
                              refine ev_iadd dL_law_553 (pc' := 554) rfl ?_
                              refine ev_sald dL_law_554 (pc' := 555) rfl g127 ?_
                              obtain ⟨y131, m132, x_y131, h⟩ := ob2_of h
                              refine ev_invV dL_law_555 (pc' := 558) rfl sq_5_65 mt_X4_excise rfl (arecv_ob (x := 35) rfl rfl (by decide) kn_35) ⟨_, rfl, Nat.le_of_ble_eq_true rfl, Nat.le_of_ble_eq_true rfl, rfl, rfl⟩ ?_
                              refine X4_excise_ca  x_y131 ?_
                              refine ev_r1 ?_
                              refine ev_icmp_eq dL_law_558 (pc' := 561) rfl (t := 1084) rfl (fun c133 => ?_) (fun c133 => ?_)
                              · replace h := it_t c133 h
                                obtain ⟨v134, e_v134⟩ : ∃ y : Int32, y = (w1 + 6) := ⟨_, rfl⟩
                                replace h := nm_at e_v134 h
                                refine ev_iinc dL_law_1084 (pc' := 1087) (v := v134) (ls' := [some (.ref 90), some (.ref 0), some (.ref 35), some (.int v134)]) rfl rfl (by rw [e_v134]; rfl) (Nat.le_of_ble_eq_true rfl) rfl ?_
                                refine ev_goto dL_law_1087 (t := 18) rfl ?_
                                exact ev_sub (lsub_c (lsub_c (lsub_c (lsub_c lsub_nil)))) (ih v134 m132 h)
                              · replace h := it_f c133 h
                                refine ev_iconst dL_law_561 (pc' := 562) (v := 0) rfl (by decide) ?_
                                obtain ⟨rfl, rfl⟩ := rt2 h
                                exact ev_ireturn dL_law_562 (aret_z (by decide)) q
                            · replace h := it_f c126 h
                              by_cases c135 : ((S.2 (w1).toNatClampNeg) &&& 31) = 12
                              · replace h := it_t c135 h
                                refine ev_tableIn dL_law_33 c135 (by decide) rfl (t := 563) rfl ?_
                                refine ev_aload_n dL_law_563 (pc' := 564) rfl rfl ?_
                                refine ev_aload_n dL_law_564 (pc' := 565) rfl rfl ?_
                                refine ev_iload_n dL_law_565 (pc' := 566) rfl rfl ?_
                                refine ev_iconst dL_law_566 (pc' := 567) (v := 1) rfl (by decide) ?_
                                refine ev_iadd dL_law_567 (pc' := 568) rfl ?_
                                obtain ⟨g136, h⟩ := gd_of h
                                refine ev_sald dL_law_568 (pc' := 569) rfl g136 ?_
                                obtain ⟨y137, m138, x_y137, h⟩ := ob2_of h
                                refine ev_invV dL_law_569 (pc' := 572) rfl sq_5_66 mt_X3_exciseIn rfl (arecv_ob (x := 0) rfl rfl (by decide) kn_0) ⟨_, rfl, Nat.le_of_ble_eq_true rfl, Nat.le_of_ble_eq_true rfl, rfl, rfl⟩ ?_
                                refine X3_exciseIn_ca  x_y137 ?_
                                refine ev_r1 ?_
                                refine ev_aload_n dL_law_572 (pc' := 573) rfl rfl ?_
                                refine ev_aload_n dL_law_573 (pc' := 574) rfl rfl ?_
                                refine ev_iload_n dL_law_574 (pc' := 575) rfl rfl ?_
                                refine ev_iconst dL_law_575 (pc' := 576) (v := 1) rfl (by decide) ?_
                                refine ev_iadd dL_law_576 (pc' := 577) rfl ?_
                                refine ev_sald dL_law_577 (pc' := 578) rfl g136 ?_
                                obtain ⟨y140, m141, x_y140, h⟩ := ob2_of h
                                refine ev_invV dL_law_578 (pc' := 581) rfl sq_5_69 mt_X4_exciseIn rfl (arecv_ob (x := 35) rfl rfl (by decide) kn_35) ⟨_, rfl, Nat.le_of_ble_eq_true rfl, Nat.le_of_ble_eq_true rfl, rfl, rfl⟩ ?_
                                refine X4_exciseIn_ca  x_y140 ?_
                                refine ev_r1 ?_
                                refine ev_icmp_eq dL_law_581 (pc' := 584) rfl (t := 1084) rfl (fun c142 => ?_) (fun c142 => ?_)
                                · replace h := it_t c142 h
                                  obtain ⟨v143, e_v143⟩ : ∃ y : Int32, y = (w1 + 6) := ⟨_, rfl⟩
                                  replace h := nm_at e_v143 h
                                  refine ev_iinc dL_law_1084 (pc' := 1087) (v := v143) (ls' := [some (.ref 90), some (.ref 0), some (.ref 35), some (.int v143)]) rfl rfl (by rw [e_v143]; rfl) (Nat.le_of_ble_eq_true rfl) rfl ?_
                                  refine ev_goto dL_law_1087 (t := 18) rfl ?_
                                  exact ev_sub (lsub_c (lsub_c (lsub_c (lsub_c lsub_nil)))) (ih v143 m141 h)
                                · replace h := it_f c142 h
                                  refine ev_iconst dL_law_584 (pc' := 585) (v := 0) rfl (by decide) ?_
                                  obtain ⟨rfl, rfl⟩ := rt2 h
                                  exact ev_ireturn dL_law_585 (aret_z (by decide)) q
                              · replace h := it_f c135 h
                                by_cases c144 : ((S.2 (w1).toNatClampNeg) &&& 31) = 13
                                · replace h := it_t c144 h
                                  refine ev_tableIn dL_law_33 c144 (by decide) rfl (t := 586) rfl ?_
                                  refine ev_aload_n dL_law_586 (pc' := 587) rfl rfl ?_
                                  refine ev_aload_n dL_law_587 (pc' := 588) rfl rfl ?_
                                  refine ev_iload_n dL_law_588 (pc' := 589) rfl rfl ?_
                                  refine ev_iconst dL_law_589 (pc' := 590) (v := 1) rfl (by decide) ?_
                                  refine ev_iadd dL_law_590 (pc' := 591) rfl ?_
                                  obtain ⟨g145, h⟩ := gd_of h
                                  refine ev_sald dL_law_591 (pc' := 592) rfl g145 ?_
                                  refine ev_aload_n dL_law_592 (pc' := 593) rfl rfl ?_
                                  refine ev_iload_n dL_law_593 (pc' := 594) rfl rfl ?_
                                  refine ev_iconst dL_law_594 (pc' := 595) (v := 2) rfl (by decide) ?_
                                  refine ev_iadd dL_law_595 (pc' := 596) rfl ?_
                                  obtain ⟨g146, h⟩ := gd_of h
                                  refine ev_sald dL_law_596 (pc' := 597) rfl g146 ?_
                                  obtain ⟨y147, m148, x_y147, h⟩ := ob2_of h
                                  refine ev_invV dL_law_597 (pc' := 600) rfl sq_5_70 mt_X3_low rfl (arecv_ob (x := 0) rfl rfl (by decide) kn_0) ⟨_, rfl, Nat.le_of_ble_eq_true rfl, Nat.le_of_ble_eq_true rfl, rfl, rfl⟩ ?_
                                  refine X3_low_ca  x_y147 ?_
                                  refine ev_r1 ?_
                                  refine ev_aload_n dL_law_600 (pc' := 601) rfl rfl ?_
                                  refine ev_aload_n dL_law_601 (pc' := 602) rfl rfl ?_
                                  refine ev_iload_n dL_law_602 (pc' := 603) rfl rfl ?_
                                  refine ev_iconst dL_law_603 (pc' := 604) (v := 1) rfl (by decide) ?_
                                  refine ev_iadd dL_law_604 (pc' := 605) rfl ?_
                                  refine ev_sald dL_law_605 (pc' := 606) rfl g145 ?_
                                  refine ev_aload_n dL_law_606 (pc' := 607) rfl rfl ?_
                                  refine ev_iload_n dL_law_607 (pc' := 608) rfl rfl ?_
                                  refine ev_iconst dL_law_608 (pc' := 609) (v := 2) rfl (by decide) ?_
                                  refine ev_iadd dL_law_609 (pc' := 610) rfl ?_
                                  refine ev_sald dL_law_610 (pc' := 611) rfl g146 ?_
                                  obtain ⟨y151, m152, x_y151, h⟩ := ob2_of h
                                  refine ev_invV dL_law_611 (pc' := 614) rfl sq_5_73 mt_X4_low rfl (arecv_ob (x := 35) rfl rfl (by decide) kn_35) ⟨_, rfl, Nat.le_of_ble_eq_true rfl, Nat.le_of_ble_eq_true rfl, rfl, rfl⟩ ?_
                                  refine X4_low_ca  x_y151 ?_
                                  refine ev_r1 ?_
                                  refine ev_icmp_eq dL_law_614 (pc' := 617) rfl (t := 1084) rfl (fun c153 => ?_) (fun c153 => ?_)
                                  · replace h := it_t c153 h
                                    obtain ⟨v154, e_v154⟩ : ∃ y : Int32, y = (w1 + 6) := ⟨_, rfl⟩
                                    replace h := nm_at e_v154 h
                                    refine ev_iinc dL_law_1084 (pc' := 1087) (v := v154) (ls' := [some (.ref 90), some (.ref 0), some (.ref 35), some (.int v154)]) rfl rfl (by rw [e_v154]; rfl) (Nat.le_of_ble_eq_true rfl) rfl ?_
                                    refine ev_goto dL_law_1087 (t := 18) rfl ?_
                                    exact ev_sub (lsub_c (lsub_c (lsub_c (lsub_c lsub_nil)))) (ih v154 m152 h)
                                  · replace h := it_f c153 h
                                    refine ev_iconst dL_law_617 (pc' := 618) (v := 0) rfl (by decide) ?_
                                    obtain ⟨rfl, rfl⟩ := rt2 h
                                    exact ev_ireturn dL_law_618 (aret_z (by decide)) q
                                · replace h := it_f c144 h
                                  by_cases c155 : ((S.2 (w1).toNatClampNeg) &&& 31) = 14
                                  · replace h := it_t c155 h
                                    refine ev_tableIn dL_law_33 c155 (by decide) rfl (t := 619) rfl ?_
                                    refine ev_aload_n dL_law_619 (pc' := 620) rfl rfl ?_
                                    obtain ⟨y156, m157, x_y156, h⟩ := ob2_of h
                                    refine ev_invV dL_law_620 (pc' := 623) rfl sq_5_74 mt_X3_turns rfl (arecv_ob (x := 0) rfl rfl (by decide) kn_0) ⟨_, rfl, Nat.le_of_ble_eq_true rfl, Nat.le_of_ble_eq_true rfl, rfl, rfl⟩ ?_
                                    refine X3_turns_ca  x_y156 ?_
                                    refine ev_r1 ?_
                                    refine ev_aload_n dL_law_623 (pc' := 624) rfl rfl ?_
                                    obtain ⟨y158, m159, x_y158, h⟩ := ob2_of h
                                    refine ev_invV dL_law_624 (pc' := 627) rfl sq_5_77 mt_X4_turns rfl (arecv_ob (x := 35) rfl rfl (by decide) kn_35) ⟨_, rfl, Nat.le_of_ble_eq_true rfl, Nat.le_of_ble_eq_true rfl, rfl, rfl⟩ ?_
                                    refine X4_turns_ca  x_y158 ?_
                                    refine ev_r1 ?_
                                    refine ev_icmp_eq dL_law_627 (pc' := 630) rfl (t := 1084) rfl (fun c160 => ?_) (fun c160 => ?_)
                                    · replace h := it_t c160 h
                                      obtain ⟨v161, e_v161⟩ : ∃ y : Int32, y = (w1 + 6) := ⟨_, rfl⟩
                                      replace h := nm_at e_v161 h
                                      refine ev_iinc dL_law_1084 (pc' := 1087) (v := v161) (ls' := [some (.ref 90), some (.ref 0), some (.ref 35), some (.int v161)]) rfl rfl (by rw [e_v161]; rfl) (Nat.le_of_ble_eq_true rfl) rfl ?_
                                      refine ev_goto dL_law_1087 (t := 18) rfl ?_
                                      exact ev_sub (lsub_c (lsub_c (lsub_c (lsub_c lsub_nil)))) (ih v161 m159 h)
                                    · replace h := it_f c160 h
                                      refine ev_iconst dL_law_630 (pc' := 631) (v := 0) rfl (by decide) ?_
                                      obtain ⟨rfl, rfl⟩ := rt2 h
                                      exact ev_ireturn dL_law_631 (aret_z (by decide)) q
                                  · replace h := it_f c155 h
                                    by_cases c162 : ((S.2 (w1).toNatClampNeg) &&& 31) = 15
                                    · replace h := it_t c162 h
                                      refine ev_tableIn dL_law_33 c162 (by decide) rfl (t := 632) rfl ?_
                                      refine ev_aload_n dL_law_632 (pc' := 633) rfl rfl ?_
                                      refine ev_aload_n dL_law_633 (pc' := 634) rfl rfl ?_
                                      refine ev_iload_n dL_law_634 (pc' := 635) rfl rfl ?_
                                      refine ev_iconst dL_law_635 (pc' := 636) (v := 1) rfl (by decide) ?_
                                      refine ev_iadd dL_law_636 (pc' := 637) rfl ?_
                                      obtain ⟨g163, h⟩ := gd_of h
                                      refine ev_sald dL_law_637 (pc' := 638) rfl g163 ?_
                                      obtain ⟨y164, m165, x_y164, h⟩ := ob2_of h
                                      refine ev_invV dL_law_638 (pc' := 641) rfl sq_5_78 mt_X3_hum rfl (arecv_ob (x := 0) rfl rfl (by decide) kn_0) ⟨_, rfl, Nat.le_of_ble_eq_true rfl, Nat.le_of_ble_eq_true rfl, rfl, rfl⟩ ?_
                                      refine X3_hum_ca  x_y164 ?_
                                      refine ev_r1 ?_
                                      refine ev_aload_n dL_law_641 (pc' := 642) rfl rfl ?_
                                      refine ev_aload_n dL_law_642 (pc' := 643) rfl rfl ?_
                                      refine ev_iload_n dL_law_643 (pc' := 644) rfl rfl ?_
                                      refine ev_iconst dL_law_644 (pc' := 645) (v := 1) rfl (by decide) ?_
                                      refine ev_iadd dL_law_645 (pc' := 646) rfl ?_
                                      refine ev_sald dL_law_646 (pc' := 647) rfl g163 ?_
                                      obtain ⟨y167, m168, x_y167, h⟩ := ob2_of h
                                      refine ev_invV dL_law_647 (pc' := 650) rfl sq_5_81 mt_X4_hum rfl (arecv_ob (x := 35) rfl rfl (by decide) kn_35) ⟨_, rfl, Nat.le_of_ble_eq_true rfl, Nat.le_of_ble_eq_true rfl, rfl, rfl⟩ ?_
                                      refine X4_hum_ca  x_y167 ?_
                                      refine ev_r1 ?_
                                      refine ev_icmp_eq dL_law_650 (pc' := 653) rfl (t := 1084) rfl (fun c169 => ?_) (fun c169 => ?_)
                                      · replace h := it_t c169 h
                                        obtain ⟨v170, e_v170⟩ : ∃ y : Int32, y = (w1 + 6) := ⟨_, rfl⟩
                                        replace h := nm_at e_v170 h
                                        refine ev_iinc dL_law_1084 (pc' := 1087) (v := v170) (ls' := [some (.ref 90), some (.ref 0), some (.ref 35), some (.int v170)]) rfl rfl (by rw [e_v170]; rfl) (Nat.le_of_ble_eq_true rfl) rfl ?_
                                        refine ev_goto dL_law_1087 (t := 18) rfl ?_
                                        exact ev_sub (lsub_c (lsub_c (lsub_c (lsub_c lsub_nil)))) (ih v170 m168 h)
                                      · replace h := it_f c169 h
                                        refine ev_iconst dL_law_653 (pc' := 654) (v := 0) rfl (by decide) ?_
                                        obtain ⟨rfl, rfl⟩ := rt2 h
                                        exact ev_ireturn dL_law_654 (aret_z (by decide)) q
                                    · replace h := it_f c162 h
                                      by_cases c171 : ((S.2 (w1).toNatClampNeg) &&& 31) = 16
                                      · replace h := it_t c171 h
                                        refine ev_tableIn dL_law_33 c171 (by decide) rfl (t := 655) rfl ?_
                                        refine ev_aload_n dL_law_655 (pc' := 656) rfl rfl ?_
                                        refine ev_aload_n dL_law_656 (pc' := 657) rfl rfl ?_
                                        refine ev_iload_n dL_law_657 (pc' := 658) rfl rfl ?_
                                        refine ev_iconst dL_law_658 (pc' := 659) (v := 1) rfl (by decide) ?_
                                        refine ev_iadd dL_law_659 (pc' := 660) rfl ?_
                                        obtain ⟨g172, h⟩ := gd_of h
                                        refine ev_sald dL_law_660 (pc' := 661) rfl g172 ?_
                                        refine ev_aload_n dL_law_661 (pc' := 662) rfl rfl ?_
                                        refine ev_iload_n dL_law_662 (pc' := 663) rfl rfl ?_
                                        refine ev_iconst dL_law_663 (pc' := 664) (v := 2) rfl (by decide) ?_
                                        refine ev_iadd dL_law_664 (pc' := 665) rfl ?_
                                        obtain ⟨g173, h⟩ := gd_of h
                                        refine ev_sald dL_law_665 (pc' := 666) rfl g173 ?_
                                        obtain ⟨y174, m175, x_y174, h⟩ := ob2_of h
                                        refine ev_invV dL_law_666 (pc' := 669) rfl sq_5_82 mt_X3_pourFor rfl (arecv_ob (x := 0) rfl rfl (by decide) kn_0) ⟨_, rfl, Nat.le_of_ble_eq_true rfl, Nat.le_of_ble_eq_true rfl, rfl, rfl⟩ ?_
                                        refine X3_pourFor_ca  x_y174 ?_
                                        refine ev_r1 ?_
                                        refine ev_aload_n dL_law_669 (pc' := 670) rfl rfl ?_
                                        refine ev_aload_n dL_law_670 (pc' := 671) rfl rfl ?_
                                        refine ev_iload_n dL_law_671 (pc' := 672) rfl rfl ?_
                                        refine ev_iconst dL_law_672 (pc' := 673) (v := 1) rfl (by decide) ?_
                                        refine ev_iadd dL_law_673 (pc' := 674) rfl ?_
                                        refine ev_sald dL_law_674 (pc' := 675) rfl g172 ?_
                                        refine ev_aload_n dL_law_675 (pc' := 676) rfl rfl ?_
                                        refine ev_iload_n dL_law_676 (pc' := 677) rfl rfl ?_
                                        refine ev_iconst dL_law_677 (pc' := 678) (v := 2) rfl (by decide) ?_
                                        refine ev_iadd dL_law_678 (pc' := 679) rfl ?_
                                        refine ev_sald dL_law_679 (pc' := 680) rfl g173 ?_
                                        obtain ⟨y178, m179, x_y178, h⟩ := ob2_of h
                                        refine ev_invV dL_law_680 (pc' := 683) rfl sq_5_85 mt_X4_pourFor rfl (arecv_ob (x := 35) rfl rfl (by decide) kn_35) ⟨_, rfl, Nat.le_of_ble_eq_true rfl, Nat.le_of_ble_eq_true rfl, rfl, rfl⟩ ?_
                                        refine X4_pourFor_ca  x_y178 ?_
                                        refine ev_r1 ?_
                                        refine ev_icmp_eq dL_law_683 (pc' := 686) rfl (t := 1084) rfl (fun c180 => ?_) (fun c180 => ?_)
                                        · replace h := it_t c180 h
                                          obtain ⟨v181, e_v181⟩ : ∃ y : Int32, y = (w1 + 6) := ⟨_, rfl⟩
                                          replace h := nm_at e_v181 h
                                          refine ev_iinc dL_law_1084 (pc' := 1087) (v := v181) (ls' := [some (.ref 90), some (.ref 0), some (.ref 35), some (.int v181)]) rfl rfl (by rw [e_v181]; rfl) (Nat.le_of_ble_eq_true rfl) rfl ?_
                                          refine ev_goto dL_law_1087 (t := 18) rfl ?_
                                          exact ev_sub (lsub_c (lsub_c (lsub_c (lsub_c lsub_nil)))) (ih v181 m179 h)
                                        · replace h := it_f c180 h
                                          refine ev_iconst dL_law_686 (pc' := 687) (v := 0) rfl (by decide) ?_
                                          obtain ⟨rfl, rfl⟩ := rt2 h
                                          exact ev_ireturn dL_law_687 (aret_z (by decide)) q
                                      · replace h := it_f c171 h
                                        by_cases c182 : ((S.2 (w1).toNatClampNeg) &&& 31) = 17
                                        · replace h := it_t c182 h
                                          refine ev_tableIn dL_law_33 c182 (by decide) rfl (t := 688) rfl ?_
                                          refine ev_aload_n dL_law_688 (pc' := 689) rfl rfl ?_
                                          refine ev_aload_n dL_law_689 (pc' := 690) rfl rfl ?_
                                          refine ev_iload_n dL_law_690 (pc' := 691) rfl rfl ?_
                                          refine ev_iconst dL_law_691 (pc' := 692) (v := 1) rfl (by decide) ?_
                                          refine ev_iadd dL_law_692 (pc' := 693) rfl ?_
                                          obtain ⟨g183, h⟩ := gd_of h
                                          refine ev_sald dL_law_693 (pc' := 694) rfl g183 ?_
                                          obtain ⟨y184, m185, x_y184, h⟩ := ob2_of h
                                          refine ev_invV dL_law_694 (pc' := 697) rfl sq_5_86 mt_X3_blend rfl (arecv_ob (x := 0) rfl rfl (by decide) kn_0) ⟨_, rfl, Nat.le_of_ble_eq_true rfl, Nat.le_of_ble_eq_true rfl, rfl, rfl⟩ ?_
                                          refine X3_blend_ca  x_y184 ?_
                                          refine ev_r1 ?_
                                          refine ev_aload_n dL_law_697 (pc' := 698) rfl rfl ?_
                                          refine ev_aload_n dL_law_698 (pc' := 699) rfl rfl ?_
                                          refine ev_iload_n dL_law_699 (pc' := 700) rfl rfl ?_
                                          refine ev_iconst dL_law_700 (pc' := 701) (v := 1) rfl (by decide) ?_
                                          refine ev_iadd dL_law_701 (pc' := 702) rfl ?_
                                          refine ev_sald dL_law_702 (pc' := 703) rfl g183 ?_
                                          obtain ⟨y187, m188, x_y187, h⟩ := ob2_of h
                                          refine ev_invV dL_law_703 (pc' := 706) rfl sq_5_89 mt_X4_blend rfl (arecv_ob (x := 35) rfl rfl (by decide) kn_35) ⟨_, rfl, Nat.le_of_ble_eq_true rfl, Nat.le_of_ble_eq_true rfl, rfl, rfl⟩ ?_
                                          refine X4_blend_ca  x_y187 ?_
                                          refine ev_r1 ?_
                                          refine ev_icmp_eq dL_law_706 (pc' := 709) rfl (t := 1084) rfl (fun c189 => ?_) (fun c189 => ?_)
                                          · replace h := it_t c189 h
                                            obtain ⟨v190, e_v190⟩ : ∃ y : Int32, y = (w1 + 6) := ⟨_, rfl⟩
                                            replace h := nm_at e_v190 h
                                            refine ev_iinc dL_law_1084 (pc' := 1087) (v := v190) (ls' := [some (.ref 90), some (.ref 0), some (.ref 35), some (.int v190)]) rfl rfl (by rw [e_v190]; rfl) (Nat.le_of_ble_eq_true rfl) rfl ?_
                                            refine ev_goto dL_law_1087 (t := 18) rfl ?_
                                            exact ev_sub (lsub_c (lsub_c (lsub_c (lsub_c lsub_nil)))) (ih v190 m188 h)
                                          · replace h := it_f c189 h
                                            refine ev_iconst dL_law_709 (pc' := 710) (v := 0) rfl (by decide) ?_
                                            obtain ⟨rfl, rfl⟩ := rt2 h
                                            exact ev_ireturn dL_law_710 (aret_z (by decide)) q
                                        · replace h := it_f c182 h
                                          by_cases c191 : ((S.2 (w1).toNatClampNeg) &&& 31) = 18
                                          · replace h := it_t c191 h
                                            refine ev_tableIn dL_law_33 c191 (by decide) rfl (t := 711) rfl ?_
                                            refine ev_aload_n dL_law_711 (pc' := 712) rfl rfl ?_
                                            obtain ⟨y192, x_y192, h⟩ := ob_of h
                                            refine ev_invV dL_law_712 (pc' := 715) rfl sq_5_90 mt_X3_spread rfl (arecv_ob (x := 0) rfl rfl (by decide) kn_0) ⟨_, rfl, Nat.le_of_ble_eq_true rfl, Nat.le_of_ble_eq_true rfl, rfl, rfl⟩ ?_
                                            refine X3_spread_ca  x_y192 ?_
                                            refine ev_r1 ?_
                                            refine ev_aload_n dL_law_715 (pc' := 716) rfl rfl ?_
                                            obtain ⟨y193, x_y193, h⟩ := ob_of h
                                            refine ev_invV dL_law_716 (pc' := 719) rfl sq_5_93 mt_X4_spread rfl (arecv_ob (x := 35) rfl rfl (by decide) kn_35) ⟨_, rfl, Nat.le_of_ble_eq_true rfl, Nat.le_of_ble_eq_true rfl, rfl, rfl⟩ ?_
                                            refine X4_spread_ca  x_y193 ?_
                                            refine ev_r1 ?_
                                            refine ev_icmp_eq dL_law_719 (pc' := 722) rfl (t := 1084) rfl (fun c194 => ?_) (fun c194 => ?_)
                                            · replace h := it_t c194 h
                                              obtain ⟨v195, e_v195⟩ : ∃ y : Int32, y = (w1 + 6) := ⟨_, rfl⟩
                                              replace h := nm_at e_v195 h
                                              refine ev_iinc dL_law_1084 (pc' := 1087) (v := v195) (ls' := [some (.ref 90), some (.ref 0), some (.ref 35), some (.int v195)]) rfl rfl (by rw [e_v195]; rfl) (Nat.le_of_ble_eq_true rfl) rfl ?_
                                              refine ev_goto dL_law_1087 (t := 18) rfl ?_
                                              exact ev_sub (lsub_c (lsub_c (lsub_c (lsub_c lsub_nil)))) (ih v195 m2 h)
                                            · replace h := it_f c194 h
                                              refine ev_iconst dL_law_722 (pc' := 723) (v := 0) rfl (by decide) ?_
                                              obtain ⟨rfl, rfl⟩ := rt2 h
                                              exact ev_ireturn dL_law_723 (aret_z (by decide)) q
                                          · replace h := it_f c191 h
                                            by_cases c196 : ((S.2 (w1).toNatClampNeg) &&& 31) = 19
                                            · replace h := it_t c196 h
                                              refine ev_tableIn dL_law_33 c196 (by decide) rfl (t := 724) rfl ?_
                                              refine ev_aload_n dL_law_724 (pc' := 725) rfl rfl ?_
                                              refine ev_aload_n dL_law_725 (pc' := 726) rfl rfl ?_
                                              refine ev_iload_n dL_law_726 (pc' := 727) rfl rfl ?_
                                              refine ev_iconst dL_law_727 (pc' := 728) (v := 1) rfl (by decide) ?_
                                              refine ev_iadd dL_law_728 (pc' := 729) rfl ?_
                                              obtain ⟨g197, h⟩ := gd_of h
                                              refine ev_sald dL_law_729 (pc' := 730) rfl g197 ?_
                                              obtain ⟨y198, m199, x_y198, h⟩ := ob2_of h
                                              refine ev_invV dL_law_730 (pc' := 733) rfl sq_5_94 mt_X3_layDown rfl (arecv_ob (x := 0) rfl rfl (by decide) kn_0) ⟨_, rfl, Nat.le_of_ble_eq_true rfl, Nat.le_of_ble_eq_true rfl, rfl, rfl⟩ ?_
                                              refine X3_layDown_ca  x_y198 ?_
                                              refine ev_r1 ?_
                                              refine ev_aload_n dL_law_733 (pc' := 734) rfl rfl ?_
                                              refine ev_aload_n dL_law_734 (pc' := 735) rfl rfl ?_
                                              refine ev_iload_n dL_law_735 (pc' := 736) rfl rfl ?_
                                              refine ev_iconst dL_law_736 (pc' := 737) (v := 1) rfl (by decide) ?_
                                              refine ev_iadd dL_law_737 (pc' := 738) rfl ?_
                                              refine ev_sald dL_law_738 (pc' := 739) rfl g197 ?_
                                              obtain ⟨y201, m202, x_y201, h⟩ := ob2_of h
                                              refine ev_invV dL_law_739 (pc' := 742) rfl sq_5_97 mt_X4_layDown rfl (arecv_ob (x := 35) rfl rfl (by decide) kn_35) ⟨_, rfl, Nat.le_of_ble_eq_true rfl, Nat.le_of_ble_eq_true rfl, rfl, rfl⟩ ?_
                                              refine X4_layDown_ca  x_y201 ?_
                                              refine ev_r1 ?_
                                              refine ev_icmp_eq dL_law_742 (pc' := 745) rfl (t := 1084) rfl (fun c203 => ?_) (fun c203 => ?_)
                                              · replace h := it_t c203 h
                                                obtain ⟨v204, e_v204⟩ : ∃ y : Int32, y = (w1 + 6) := ⟨_, rfl⟩
                                                replace h := nm_at e_v204 h
                                                refine ev_iinc dL_law_1084 (pc' := 1087) (v := v204) (ls' := [some (.ref 90), some (.ref 0), some (.ref 35), some (.int v204)]) rfl rfl (by rw [e_v204]; rfl) (Nat.le_of_ble_eq_true rfl) rfl ?_
                                                refine ev_goto dL_law_1087 (t := 18) rfl ?_
                                                exact ev_sub (lsub_c (lsub_c (lsub_c (lsub_c lsub_nil)))) (ih v204 m202 h)
                                              · replace h := it_f c203 h
                                                refine ev_iconst dL_law_745 (pc' := 746) (v := 0) rfl (by decide) ?_
                                                obtain ⟨rfl, rfl⟩ := rt2 h
                                                exact ev_ireturn dL_law_746 (aret_z (by decide)) q
                                            · replace h := it_f c196 h
                                              by_cases c205 : ((S.2 (w1).toNatClampNeg) &&& 31) = 20
                                              · replace h := it_t c205 h
                                                refine ev_tableIn dL_law_33 c205 (by decide) rfl (t := 747) rfl ?_
                                                refine ev_aload_n dL_law_747 (pc' := 748) rfl rfl ?_
                                                refine ev_aload_n dL_law_748 (pc' := 749) rfl rfl ?_
                                                refine ev_iload_n dL_law_749 (pc' := 750) rfl rfl ?_
                                                refine ev_iconst dL_law_750 (pc' := 751) (v := 1) rfl (by decide) ?_
                                                refine ev_iadd dL_law_751 (pc' := 752) rfl ?_
                                                obtain ⟨g206, h⟩ := gd_of h
                                                refine ev_sald dL_law_752 (pc' := 753) rfl g206 ?_
                                                obtain ⟨y207, m208, x_y207, h⟩ := ob2_of h
                                                refine ev_invV dL_law_753 (pc' := 756) rfl sq_5_98 mt_X3_sell rfl (arecv_ob (x := 0) rfl rfl (by decide) kn_0) ⟨_, rfl, Nat.le_of_ble_eq_true rfl, Nat.le_of_ble_eq_true rfl, rfl, rfl⟩ ?_
                                                refine X3_sell_ca  x_y207 ?_
                                                refine ev_r1 ?_
                                                refine ev_aload_n dL_law_756 (pc' := 757) rfl rfl ?_
                                                refine ev_aload_n dL_law_757 (pc' := 758) rfl rfl ?_
                                                refine ev_iload_n dL_law_758 (pc' := 759) rfl rfl ?_
                                                refine ev_iconst dL_law_759 (pc' := 760) (v := 1) rfl (by decide) ?_
                                                refine ev_iadd dL_law_760 (pc' := 761) rfl ?_
                                                refine ev_sald dL_law_761 (pc' := 762) rfl g206 ?_
                                                obtain ⟨y210, m211, x_y210, h⟩ := ob2_of h
                                                refine ev_invV dL_law_762 (pc' := 765) rfl sq_5_101 mt_X4_sell rfl (arecv_ob (x := 35) rfl rfl (by decide) kn_35) ⟨_, rfl, Nat.le_of_ble_eq_true rfl, Nat.le_of_ble_eq_true rfl, rfl, rfl⟩ ?_
                                                refine X4_sell_ca  x_y210 ?_
                                                refine ev_r1 ?_
                                                refine ev_icmp_eq dL_law_765 (pc' := 768) rfl (t := 1084) rfl (fun c212 => ?_) (fun c212 => ?_)
                                                · replace h := it_t c212 h
                                                  obtain ⟨v213, e_v213⟩ : ∃ y : Int32, y = (w1 + 6) := ⟨_, rfl⟩
                                                  replace h := nm_at e_v213 h
                                                  refine ev_iinc dL_law_1084 (pc' := 1087) (v := v213) (ls' := [some (.ref 90), some (.ref 0), some (.ref 35), some (.int v213)]) rfl rfl (by rw [e_v213]; rfl) (Nat.le_of_ble_eq_true rfl) rfl ?_
                                                  refine ev_goto dL_law_1087 (t := 18) rfl ?_
                                                  exact ev_sub (lsub_c (lsub_c (lsub_c (lsub_c lsub_nil)))) (ih v213 m211 h)
                                                · replace h := it_f c212 h
                                                  refine ev_iconst dL_law_768 (pc' := 769) (v := 0) rfl (by decide) ?_
                                                  obtain ⟨rfl, rfl⟩ := rt2 h
                                                  exact ev_ireturn dL_law_769 (aret_z (by decide)) q
                                              · replace h := it_f c205 h
                                                by_cases c214 : ((S.2 (w1).toNatClampNeg) &&& 31) = 21
                                                · replace h := it_t c214 h
                                                  refine ev_tableIn dL_law_33 c214 (by decide) rfl (t := 770) rfl ?_
                                                  refine ev_aload_n dL_law_770 (pc' := 771) rfl rfl ?_
                                                  refine ev_aload_n dL_law_771 (pc' := 772) rfl rfl ?_
                                                  refine ev_iload_n dL_law_772 (pc' := 773) rfl rfl ?_
                                                  refine ev_iconst dL_law_773 (pc' := 774) (v := 1) rfl (by decide) ?_
                                                  refine ev_iadd dL_law_774 (pc' := 775) rfl ?_
                                                  obtain ⟨g215, h⟩ := gd_of h
                                                  refine ev_sald dL_law_775 (pc' := 776) rfl g215 ?_
                                                  obtain ⟨y216, m217, x_y216, h⟩ := ob2_of h
                                                  refine ev_invV dL_law_776 (pc' := 779) rfl sq_5_102 mt_X3_treaty rfl (arecv_ob (x := 0) rfl rfl (by decide) kn_0) ⟨_, rfl, Nat.le_of_ble_eq_true rfl, Nat.le_of_ble_eq_true rfl, rfl, rfl⟩ ?_
                                                  refine X3_treaty_ca  x_y216 ?_
                                                  refine ev_r1 ?_
                                                  refine ev_aload_n dL_law_779 (pc' := 780) rfl rfl ?_
                                                  refine ev_aload_n dL_law_780 (pc' := 781) rfl rfl ?_
                                                  refine ev_iload_n dL_law_781 (pc' := 782) rfl rfl ?_
                                                  refine ev_iconst dL_law_782 (pc' := 783) (v := 1) rfl (by decide) ?_
                                                  refine ev_iadd dL_law_783 (pc' := 784) rfl ?_
                                                  refine ev_sald dL_law_784 (pc' := 785) rfl g215 ?_
                                                  obtain ⟨y219, m220, x_y219, h⟩ := ob2_of h
                                                  refine ev_invV dL_law_785 (pc' := 788) rfl sq_5_105 mt_X4_treaty rfl (arecv_ob (x := 35) rfl rfl (by decide) kn_35) ⟨_, rfl, Nat.le_of_ble_eq_true rfl, Nat.le_of_ble_eq_true rfl, rfl, rfl⟩ ?_
                                                  refine X4_treaty_ca  x_y219 ?_
                                                  refine ev_r1 ?_
                                                  refine ev_icmp_eq dL_law_788 (pc' := 791) rfl (t := 1084) rfl (fun c221 => ?_) (fun c221 => ?_)
                                                  · replace h := it_t c221 h
                                                    obtain ⟨v222, e_v222⟩ : ∃ y : Int32, y = (w1 + 6) := ⟨_, rfl⟩
                                                    replace h := nm_at e_v222 h
                                                    refine ev_iinc dL_law_1084 (pc' := 1087) (v := v222) (ls' := [some (.ref 90), some (.ref 0), some (.ref 35), some (.int v222)]) rfl rfl (by rw [e_v222]; rfl) (Nat.le_of_ble_eq_true rfl) rfl ?_
                                                    refine ev_goto dL_law_1087 (t := 18) rfl ?_
                                                    exact ev_sub (lsub_c (lsub_c (lsub_c (lsub_c lsub_nil)))) (ih v222 m220 h)
                                                  · replace h := it_f c221 h
                                                    refine ev_iconst dL_law_791 (pc' := 792) (v := 0) rfl (by decide) ?_
                                                    obtain ⟨rfl, rfl⟩ := rt2 h
                                                    exact ev_ireturn dL_law_792 (aret_z (by decide)) q
                                                · replace h := it_f c214 h
                                                  by_cases c223 : ((S.2 (w1).toNatClampNeg) &&& 31) = 22
                                                  · replace h := it_t c223 h
                                                    refine ev_tableIn dL_law_33 c223 (by decide) rfl (t := 793) rfl ?_
                                                    refine ev_aload_n dL_law_793 (pc' := 794) rfl rfl ?_
                                                    refine ev_aload_n dL_law_794 (pc' := 795) rfl rfl ?_
                                                    refine ev_iload_n dL_law_795 (pc' := 796) rfl rfl ?_
                                                    refine ev_iconst dL_law_796 (pc' := 797) (v := 1) rfl (by decide) ?_
                                                    refine ev_iadd dL_law_797 (pc' := 798) rfl ?_
                                                    obtain ⟨g224, h⟩ := gd_of h
                                                    refine ev_sald dL_law_798 (pc' := 799) rfl g224 ?_
                                                    refine ev_aload_n dL_law_799 (pc' := 800) rfl rfl ?_
                                                    refine ev_iload_n dL_law_800 (pc' := 801) rfl rfl ?_
                                                    refine ev_iconst dL_law_801 (pc' := 802) (v := 2) rfl (by decide) ?_
                                                    refine ev_iadd dL_law_802 (pc' := 803) rfl ?_
                                                    obtain ⟨g225, h⟩ := gd_of h
                                                    refine ev_sald dL_law_803 (pc' := 804) rfl g225 ?_
                                                    obtain ⟨y226, m227, x_y226, h⟩ := ob2_of h
                                                    refine ev_invV dL_law_804 (pc' := 807) rfl sq_5_106 mt_X3_bestSet rfl (arecv_ob (x := 0) rfl rfl (by decide) kn_0) ⟨_, rfl, Nat.le_of_ble_eq_true rfl, Nat.le_of_ble_eq_true rfl, rfl, rfl⟩ ?_
                                                    refine X3_bestSet_ca  x_y226 ?_
                                                    refine ev_r1 ?_
                                                    refine ev_aload_n dL_law_807 (pc' := 808) rfl rfl ?_
                                                    refine ev_aload_n dL_law_808 (pc' := 809) rfl rfl ?_
                                                    refine ev_iload_n dL_law_809 (pc' := 810) rfl rfl ?_
                                                    refine ev_iconst dL_law_810 (pc' := 811) (v := 1) rfl (by decide) ?_
                                                    refine ev_iadd dL_law_811 (pc' := 812) rfl ?_
                                                    refine ev_sald dL_law_812 (pc' := 813) rfl g224 ?_
                                                    refine ev_aload_n dL_law_813 (pc' := 814) rfl rfl ?_
                                                    refine ev_iload_n dL_law_814 (pc' := 815) rfl rfl ?_
                                                    refine ev_iconst dL_law_815 (pc' := 816) (v := 2) rfl (by decide) ?_
                                                    refine ev_iadd dL_law_816 (pc' := 817) rfl ?_
                                                    refine ev_sald dL_law_817 (pc' := 818) rfl g225 ?_
                                                    obtain ⟨y230, m231, x_y230, h⟩ := ob2_of h
                                                    refine ev_invV dL_law_818 (pc' := 821) rfl sq_5_109 mt_X4_bestSet rfl (arecv_ob (x := 35) rfl rfl (by decide) kn_35) ⟨_, rfl, Nat.le_of_ble_eq_true rfl, Nat.le_of_ble_eq_true rfl, rfl, rfl⟩ ?_
                                                    refine X4_bestSet_ca  x_y230 ?_
                                                    refine ev_r1 ?_
                                                    refine ev_icmp_eq dL_law_821 (pc' := 824) rfl (t := 1084) rfl (fun c232 => ?_) (fun c232 => ?_)
                                                    · replace h := it_t c232 h
                                                      obtain ⟨v233, e_v233⟩ : ∃ y : Int32, y = (w1 + 6) := ⟨_, rfl⟩
                                                      replace h := nm_at e_v233 h
                                                      refine ev_iinc dL_law_1084 (pc' := 1087) (v := v233) (ls' := [some (.ref 90), some (.ref 0), some (.ref 35), some (.int v233)]) rfl rfl (by rw [e_v233]; rfl) (Nat.le_of_ble_eq_true rfl) rfl ?_
                                                      refine ev_goto dL_law_1087 (t := 18) rfl ?_
                                                      exact ev_sub (lsub_c (lsub_c (lsub_c (lsub_c lsub_nil)))) (ih v233 m231 h)
                                                    · replace h := it_f c232 h
                                                      refine ev_iconst dL_law_824 (pc' := 825) (v := 0) rfl (by decide) ?_
                                                      obtain ⟨rfl, rfl⟩ := rt2 h
                                                      exact ev_ireturn dL_law_825 (aret_z (by decide)) q
                                                  · replace h := it_f c223 h
                                                    by_cases c234 : ((S.2 (w1).toNatClampNeg) &&& 31) = 23
                                                    · replace h := it_t c234 h
                                                      refine ev_tableIn dL_law_33 c234 (by decide) rfl (t := 826) rfl ?_
                                                      refine ev_aload_n dL_law_826 (pc' := 827) rfl rfl ?_
                                                      refine ev_aload_n dL_law_827 (pc' := 828) rfl rfl ?_
                                                      refine ev_iload_n dL_law_828 (pc' := 829) rfl rfl ?_
                                                      refine ev_iconst dL_law_829 (pc' := 830) (v := 1) rfl (by decide) ?_
                                                      refine ev_iadd dL_law_830 (pc' := 831) rfl ?_
                                                      obtain ⟨g235, h⟩ := gd_of h
                                                      refine ev_sald dL_law_831 (pc' := 832) rfl g235 ?_
                                                      obtain ⟨y236, m237, x_y236, h⟩ := ob2_of h
                                                      refine ev_invV dL_law_832 (pc' := 835) rfl sq_5_110 mt_X3_iron rfl (arecv_ob (x := 0) rfl rfl (by decide) kn_0) ⟨_, rfl, Nat.le_of_ble_eq_true rfl, Nat.le_of_ble_eq_true rfl, rfl, rfl⟩ ?_
                                                      refine X3_iron_ca  x_y236 ?_
                                                      refine ev_r1 ?_
                                                      refine ev_aload_n dL_law_835 (pc' := 836) rfl rfl ?_
                                                      refine ev_aload_n dL_law_836 (pc' := 837) rfl rfl ?_
                                                      refine ev_iload_n dL_law_837 (pc' := 838) rfl rfl ?_
                                                      refine ev_iconst dL_law_838 (pc' := 839) (v := 1) rfl (by decide) ?_
                                                      refine ev_iadd dL_law_839 (pc' := 840) rfl ?_
                                                      refine ev_sald dL_law_840 (pc' := 841) rfl g235 ?_
                                                      obtain ⟨y239, m240, x_y239, h⟩ := ob2_of h
                                                      refine ev_invV dL_law_841 (pc' := 844) rfl sq_5_113 mt_X4_iron rfl (arecv_ob (x := 35) rfl rfl (by decide) kn_35) ⟨_, rfl, Nat.le_of_ble_eq_true rfl, Nat.le_of_ble_eq_true rfl, rfl, rfl⟩ ?_
                                                      refine X4_iron_ca  x_y239 ?_
                                                      refine ev_r1 ?_
                                                      refine ev_icmp_eq dL_law_844 (pc' := 847) rfl (t := 1084) rfl (fun c241 => ?_) (fun c241 => ?_)
                                                      · replace h := it_t c241 h
                                                        obtain ⟨v242, e_v242⟩ : ∃ y : Int32, y = (w1 + 6) := ⟨_, rfl⟩
                                                        replace h := nm_at e_v242 h
                                                        refine ev_iinc dL_law_1084 (pc' := 1087) (v := v242) (ls' := [some (.ref 90), some (.ref 0), some (.ref 35), some (.int v242)]) rfl rfl (by rw [e_v242]; rfl) (Nat.le_of_ble_eq_true rfl) rfl ?_
                                                        refine ev_goto dL_law_1087 (t := 18) rfl ?_
                                                        exact ev_sub (lsub_c (lsub_c (lsub_c (lsub_c lsub_nil)))) (ih v242 m240 h)
                                                      · replace h := it_f c241 h
                                                        refine ev_iconst dL_law_847 (pc' := 848) (v := 0) rfl (by decide) ?_
                                                        obtain ⟨rfl, rfl⟩ := rt2 h
                                                        exact ev_ireturn dL_law_848 (aret_z (by decide)) q
                                                    · replace h := it_f c234 h
                                                      by_cases c243 : ((S.2 (w1).toNatClampNeg) &&& 31) = 24
                                                      · replace h := it_t c243 h
                                                        refine ev_tableIn dL_law_33 c243 (by decide) rfl (t := 849) rfl ?_
                                                        refine ev_aload_n dL_law_849 (pc' := 850) rfl rfl ?_
                                                        refine ev_aload_n dL_law_850 (pc' := 851) rfl rfl ?_
                                                        refine ev_iload_n dL_law_851 (pc' := 852) rfl rfl ?_
                                                        refine ev_iconst dL_law_852 (pc' := 853) (v := 1) rfl (by decide) ?_
                                                        refine ev_iadd dL_law_853 (pc' := 854) rfl ?_
                                                        obtain ⟨g244, h⟩ := gd_of h
                                                        refine ev_sald dL_law_854 (pc' := 855) rfl g244 ?_
                                                        obtain ⟨y245, m246, x_y245, h⟩ := ob2_of h
                                                        refine ev_invV dL_law_855 (pc' := 858) rfl sq_5_114 mt_X3_row rfl (arecv_ob (x := 0) rfl rfl (by decide) kn_0) ⟨_, rfl, Nat.le_of_ble_eq_true rfl, Nat.le_of_ble_eq_true rfl, rfl, rfl⟩ ?_
                                                        refine X3_row_ca  x_y245 ?_
                                                        refine ev_r1 ?_
                                                        refine ev_aload_n dL_law_858 (pc' := 859) rfl rfl ?_
                                                        refine ev_aload_n dL_law_859 (pc' := 860) rfl rfl ?_
                                                        refine ev_iload_n dL_law_860 (pc' := 861) rfl rfl ?_
                                                        refine ev_iconst dL_law_861 (pc' := 862) (v := 1) rfl (by decide) ?_
                                                        refine ev_iadd dL_law_862 (pc' := 863) rfl ?_
                                                        refine ev_sald dL_law_863 (pc' := 864) rfl g244 ?_
                                                        obtain ⟨y248, m249, x_y248, h⟩ := ob2_of h
                                                        refine ev_invV dL_law_864 (pc' := 867) rfl sq_5_117 mt_X4_row rfl (arecv_ob (x := 35) rfl rfl (by decide) kn_35) ⟨_, rfl, Nat.le_of_ble_eq_true rfl, Nat.le_of_ble_eq_true rfl, rfl, rfl⟩ ?_
                                                        refine X4_row_ca  x_y248 ?_
                                                        refine ev_r1 ?_
                                                        refine ev_icmp_eq dL_law_867 (pc' := 870) rfl (t := 1084) rfl (fun c250 => ?_) (fun c250 => ?_)
                                                        · replace h := it_t c250 h
                                                          obtain ⟨v251, e_v251⟩ : ∃ y : Int32, y = (w1 + 6) := ⟨_, rfl⟩
                                                          replace h := nm_at e_v251 h
                                                          refine ev_iinc dL_law_1084 (pc' := 1087) (v := v251) (ls' := [some (.ref 90), some (.ref 0), some (.ref 35), some (.int v251)]) rfl rfl (by rw [e_v251]; rfl) (Nat.le_of_ble_eq_true rfl) rfl ?_
                                                          refine ev_goto dL_law_1087 (t := 18) rfl ?_
                                                          exact ev_sub (lsub_c (lsub_c (lsub_c (lsub_c lsub_nil)))) (ih v251 m249 h)
                                                        · replace h := it_f c250 h
                                                          refine ev_iconst dL_law_870 (pc' := 871) (v := 0) rfl (by decide) ?_
                                                          obtain ⟨rfl, rfl⟩ := rt2 h
                                                          exact ev_ireturn dL_law_871 (aret_z (by decide)) q
                                                      · replace h := it_f c243 h
                                                        by_cases c252 : ((S.2 (w1).toNatClampNeg) &&& 31) = 25
                                                        · replace h := it_t c252 h
                                                          refine ev_tableIn dL_law_33 c252 (by decide) rfl (t := 872) rfl ?_
                                                          refine ev_aload_n dL_law_872 (pc' := 873) rfl rfl ?_
                                                          refine ev_aload_n dL_law_873 (pc' := 874) rfl rfl ?_
                                                          refine ev_iload_n dL_law_874 (pc' := 875) rfl rfl ?_
                                                          refine ev_iconst dL_law_875 (pc' := 876) (v := 1) rfl (by decide) ?_
                                                          refine ev_iadd dL_law_876 (pc' := 877) rfl ?_
                                                          obtain ⟨g253, h⟩ := gd_of h
                                                          refine ev_sald dL_law_877 (pc' := 878) rfl g253 ?_
                                                          refine ev_aload_n dL_law_878 (pc' := 879) rfl rfl ?_
                                                          refine ev_iload_n dL_law_879 (pc' := 880) rfl rfl ?_
                                                          refine ev_iconst dL_law_880 (pc' := 881) (v := 2) rfl (by decide) ?_
                                                          refine ev_iadd dL_law_881 (pc' := 882) rfl ?_
                                                          obtain ⟨g254, h⟩ := gd_of h
                                                          refine ev_sald dL_law_882 (pc' := 883) rfl g254 ?_
                                                          obtain ⟨y255, m256, x_y255, h⟩ := ob2_of h
                                                          refine ev_invV dL_law_883 (pc' := 886) rfl sq_5_118 mt_X3_which rfl (arecv_ob (x := 0) rfl rfl (by decide) kn_0) ⟨_, rfl, Nat.le_of_ble_eq_true rfl, Nat.le_of_ble_eq_true rfl, rfl, rfl⟩ ?_
                                                          refine X3_which_ca  x_y255 ?_
                                                          refine ev_r1 ?_
                                                          refine ev_aload_n dL_law_886 (pc' := 887) rfl rfl ?_
                                                          refine ev_aload_n dL_law_887 (pc' := 888) rfl rfl ?_
                                                          refine ev_iload_n dL_law_888 (pc' := 889) rfl rfl ?_
                                                          refine ev_iconst dL_law_889 (pc' := 890) (v := 1) rfl (by decide) ?_
                                                          refine ev_iadd dL_law_890 (pc' := 891) rfl ?_
                                                          refine ev_sald dL_law_891 (pc' := 892) rfl g253 ?_
                                                          refine ev_aload_n dL_law_892 (pc' := 893) rfl rfl ?_
                                                          refine ev_iload_n dL_law_893 (pc' := 894) rfl rfl ?_
                                                          refine ev_iconst dL_law_894 (pc' := 895) (v := 2) rfl (by decide) ?_
                                                          refine ev_iadd dL_law_895 (pc' := 896) rfl ?_
                                                          refine ev_sald dL_law_896 (pc' := 897) rfl g254 ?_
                                                          obtain ⟨y259, m260, x_y259, h⟩ := ob2_of h
                                                          refine ev_invV dL_law_897 (pc' := 900) rfl sq_5_121 mt_X4_which rfl (arecv_ob (x := 35) rfl rfl (by decide) kn_35) ⟨_, rfl, Nat.le_of_ble_eq_true rfl, Nat.le_of_ble_eq_true rfl, rfl, rfl⟩ ?_
                                                          refine X4_which_ca  x_y259 ?_
                                                          refine ev_r1 ?_
                                                          refine ev_icmp_eq dL_law_900 (pc' := 903) rfl (t := 1084) rfl (fun c261 => ?_) (fun c261 => ?_)
                                                          · replace h := it_t c261 h
                                                            obtain ⟨v262, e_v262⟩ : ∃ y : Int32, y = (w1 + 6) := ⟨_, rfl⟩
                                                            replace h := nm_at e_v262 h
                                                            refine ev_iinc dL_law_1084 (pc' := 1087) (v := v262) (ls' := [some (.ref 90), some (.ref 0), some (.ref 35), some (.int v262)]) rfl rfl (by rw [e_v262]; rfl) (Nat.le_of_ble_eq_true rfl) rfl ?_
                                                            refine ev_goto dL_law_1087 (t := 18) rfl ?_
                                                            exact ev_sub (lsub_c (lsub_c (lsub_c (lsub_c lsub_nil)))) (ih v262 m260 h)
                                                          · replace h := it_f c261 h
                                                            refine ev_iconst dL_law_903 (pc' := 904) (v := 0) rfl (by decide) ?_
                                                            obtain ⟨rfl, rfl⟩ := rt2 h
                                                            exact ev_ireturn dL_law_904 (aret_z (by decide)) q
                                                        · replace h := it_f c252 h
                                                          by_cases c263 : ((S.2 (w1).toNatClampNeg) &&& 31) = 26
                                                          · replace h := it_t c263 h
                                                            refine ev_tableIn dL_law_33 c263 (by decide) rfl (t := 905) rfl ?_
                                                            refine ev_aload_n dL_law_905 (pc' := 906) rfl rfl ?_
                                                            refine ev_aload_n dL_law_906 (pc' := 907) rfl rfl ?_
                                                            refine ev_iload_n dL_law_907 (pc' := 908) rfl rfl ?_
                                                            refine ev_iconst dL_law_908 (pc' := 909) (v := 1) rfl (by decide) ?_
                                                            refine ev_iadd dL_law_909 (pc' := 910) rfl ?_
                                                            obtain ⟨g264, h⟩ := gd_of h
                                                            refine ev_sald dL_law_910 (pc' := 911) rfl g264 ?_
                                                            obtain ⟨y265, m266, x_y265, h⟩ := ob2_of h
                                                            refine ev_invV dL_law_911 (pc' := 914) rfl sq_5_122 mt_X3_judge rfl (arecv_ob (x := 0) rfl rfl (by decide) kn_0) ⟨_, rfl, Nat.le_of_ble_eq_true rfl, Nat.le_of_ble_eq_true rfl, rfl, rfl⟩ ?_
                                                            refine X3_judge_ca  x_y265 ?_
                                                            refine ev_r1 ?_
                                                            refine ev_aload_n dL_law_914 (pc' := 915) rfl rfl ?_
                                                            refine ev_aload_n dL_law_915 (pc' := 916) rfl rfl ?_
                                                            refine ev_iload_n dL_law_916 (pc' := 917) rfl rfl ?_
                                                            refine ev_iconst dL_law_917 (pc' := 918) (v := 1) rfl (by decide) ?_
                                                            refine ev_iadd dL_law_918 (pc' := 919) rfl ?_
                                                            refine ev_sald dL_law_919 (pc' := 920) rfl g264 ?_
                                                            obtain ⟨y268, m269, x_y268, h⟩ := ob2_of h
                                                            refine ev_invV dL_law_920 (pc' := 923) rfl sq_5_125 mt_X4_judge rfl (arecv_ob (x := 35) rfl rfl (by decide) kn_35) ⟨_, rfl, Nat.le_of_ble_eq_true rfl, Nat.le_of_ble_eq_true rfl, rfl, rfl⟩ ?_
                                                            refine X4_judge_ca  x_y268 ?_
                                                            refine ev_r1 ?_
                                                            refine ev_icmp_eq dL_law_923 (pc' := 926) rfl (t := 1084) rfl (fun c270 => ?_) (fun c270 => ?_)
                                                            · replace h := it_t c270 h
                                                              obtain ⟨v271, e_v271⟩ : ∃ y : Int32, y = (w1 + 6) := ⟨_, rfl⟩
                                                              replace h := nm_at e_v271 h
                                                              refine ev_iinc dL_law_1084 (pc' := 1087) (v := v271) (ls' := [some (.ref 90), some (.ref 0), some (.ref 35), some (.int v271)]) rfl rfl (by rw [e_v271]; rfl) (Nat.le_of_ble_eq_true rfl) rfl ?_
                                                              refine ev_goto dL_law_1087 (t := 18) rfl ?_
                                                              exact ev_sub (lsub_c (lsub_c (lsub_c (lsub_c lsub_nil)))) (ih v271 m269 h)
                                                            · replace h := it_f c270 h
                                                              refine ev_iconst dL_law_926 (pc' := 927) (v := 0) rfl (by decide) ?_
                                                              obtain ⟨rfl, rfl⟩ := rt2 h
                                                              exact ev_ireturn dL_law_927 (aret_z (by decide)) q
                                                          · replace h := it_f c263 h
                                                            by_cases c272 : ((S.2 (w1).toNatClampNeg) &&& 31) = 27
                                                            · replace h := it_t c272 h
                                                              refine ev_tableIn dL_law_33 c272 (by decide) rfl (t := 928) rfl ?_
                                                              refine ev_aload_n dL_law_928 (pc' := 929) rfl rfl ?_
                                                              refine ev_aload_n dL_law_929 (pc' := 930) rfl rfl ?_
                                                              refine ev_iload_n dL_law_930 (pc' := 931) rfl rfl ?_
                                                              refine ev_iconst dL_law_931 (pc' := 932) (v := 1) rfl (by decide) ?_
                                                              refine ev_iadd dL_law_932 (pc' := 933) rfl ?_
                                                              obtain ⟨g273, h⟩ := gd_of h
                                                              refine ev_sald dL_law_933 (pc' := 934) rfl g273 ?_
                                                              refine ev_aload_n dL_law_934 (pc' := 935) rfl rfl ?_
                                                              refine ev_iload_n dL_law_935 (pc' := 936) rfl rfl ?_
                                                              refine ev_iconst dL_law_936 (pc' := 937) (v := 2) rfl (by decide) ?_
                                                              refine ev_iadd dL_law_937 (pc' := 938) rfl ?_
                                                              obtain ⟨g274, h⟩ := gd_of h
                                                              refine ev_sald dL_law_938 (pc' := 939) rfl g274 ?_
                                                              refine ev_aload_n dL_law_939 (pc' := 940) rfl rfl ?_
                                                              refine ev_iload_n dL_law_940 (pc' := 941) rfl rfl ?_
                                                              refine ev_iconst dL_law_941 (pc' := 942) (v := 3) rfl (by decide) ?_
                                                              refine ev_iadd dL_law_942 (pc' := 943) rfl ?_
                                                              obtain ⟨g275, h⟩ := gd_of h
                                                              refine ev_sald dL_law_943 (pc' := 944) rfl g275 ?_
                                                              refine ev_aload_n dL_law_944 (pc' := 945) rfl rfl ?_
                                                              refine ev_iload_n dL_law_945 (pc' := 946) rfl rfl ?_
                                                              refine ev_iconst dL_law_946 (pc' := 947) (v := 4) rfl (by decide) ?_
                                                              refine ev_iadd dL_law_947 (pc' := 948) rfl ?_
                                                              obtain ⟨g276, h⟩ := gd_of h
                                                              refine ev_sald dL_law_948 (pc' := 949) rfl g276 ?_
                                                              refine ev_aload_n dL_law_949 (pc' := 950) rfl rfl ?_
                                                              refine ev_iload_n dL_law_950 (pc' := 951) rfl rfl ?_
                                                              refine ev_iconst dL_law_951 (pc' := 952) (v := 5) rfl (by decide) ?_
                                                              refine ev_iadd dL_law_952 (pc' := 953) rfl ?_
                                                              obtain ⟨g277, h⟩ := gd_of h
                                                              refine ev_sald dL_law_953 (pc' := 954) rfl g277 ?_
                                                              obtain ⟨y278, m279, x_y278, h⟩ := ob2_of h
                                                              refine ev_invV dL_law_954 (pc' := 957) rfl sq_5_126 mt_X3_chance rfl (arecv_ob (x := 0) rfl rfl (by decide) kn_0) ⟨_, rfl, Nat.le_of_ble_eq_true rfl, Nat.le_of_ble_eq_true rfl, rfl, rfl⟩ ?_
                                                              refine X3_chance_ca  x_y278 ?_
                                                              refine ev_r1 ?_
                                                              refine ev_aload_n dL_law_957 (pc' := 958) rfl rfl ?_
                                                              refine ev_aload_n dL_law_958 (pc' := 959) rfl rfl ?_
                                                              refine ev_iload_n dL_law_959 (pc' := 960) rfl rfl ?_
                                                              refine ev_iconst dL_law_960 (pc' := 961) (v := 1) rfl (by decide) ?_
                                                              refine ev_iadd dL_law_961 (pc' := 962) rfl ?_
                                                              refine ev_sald dL_law_962 (pc' := 963) rfl g273 ?_
                                                              refine ev_aload_n dL_law_963 (pc' := 964) rfl rfl ?_
                                                              refine ev_iload_n dL_law_964 (pc' := 965) rfl rfl ?_
                                                              refine ev_iconst dL_law_965 (pc' := 966) (v := 2) rfl (by decide) ?_
                                                              refine ev_iadd dL_law_966 (pc' := 967) rfl ?_
                                                              refine ev_sald dL_law_967 (pc' := 968) rfl g274 ?_
                                                              refine ev_aload_n dL_law_968 (pc' := 969) rfl rfl ?_
                                                              refine ev_iload_n dL_law_969 (pc' := 970) rfl rfl ?_
                                                              refine ev_iconst dL_law_970 (pc' := 971) (v := 3) rfl (by decide) ?_
                                                              refine ev_iadd dL_law_971 (pc' := 972) rfl ?_
                                                              refine ev_sald dL_law_972 (pc' := 973) rfl g275 ?_
                                                              refine ev_aload_n dL_law_973 (pc' := 974) rfl rfl ?_
                                                              refine ev_iload_n dL_law_974 (pc' := 975) rfl rfl ?_
                                                              refine ev_iconst dL_law_975 (pc' := 976) (v := 4) rfl (by decide) ?_
                                                              refine ev_iadd dL_law_976 (pc' := 977) rfl ?_
                                                              refine ev_sald dL_law_977 (pc' := 978) rfl g276 ?_
                                                              refine ev_aload_n dL_law_978 (pc' := 979) rfl rfl ?_
                                                              refine ev_iload_n dL_law_979 (pc' := 980) rfl rfl ?_
                                                              refine ev_iconst dL_law_980 (pc' := 981) (v := 5) rfl (by decide) ?_
                                                              refine ev_iadd dL_law_981 (pc' := 982) rfl ?_
                                                              refine ev_sald dL_law_982 (pc' := 983) rfl g277 ?_
                                                              obtain ⟨y285, m286, x_y285, h⟩ := ob2_of h
                                                              refine ev_invV dL_law_983 (pc' := 986) rfl sq_5_130 mt_X4_chance rfl (arecv_ob (x := 35) rfl rfl (by decide) kn_35) ⟨_, rfl, Nat.le_of_ble_eq_true rfl, Nat.le_of_ble_eq_true rfl, rfl, rfl⟩ ?_
                                                              refine X4_chance_ca  x_y285 ?_
                                                              refine ev_r1 ?_
                                                              refine ev_lcmp dL_law_986 (pc' := 987) rfl ?_
                                                              refine ev_if_eq dL_law_987 (pc' := 990) rfl (t := 1084) rfl (fun c287 => ?_) (fun c287 => ?_)
                                                              · replace h := it_t c287 h
                                                                obtain ⟨v288, e_v288⟩ : ∃ y : Int32, y = (w1 + 6) := ⟨_, rfl⟩
                                                                replace h := nm_at e_v288 h
                                                                refine ev_iinc dL_law_1084 (pc' := 1087) (v := v288) (ls' := [some (.ref 90), some (.ref 0), some (.ref 35), some (.int v288)]) rfl rfl (by rw [e_v288]; rfl) (Nat.le_of_ble_eq_true rfl) rfl ?_
                                                                refine ev_goto dL_law_1087 (t := 18) rfl ?_
                                                                exact ev_sub (lsub_c (lsub_c (lsub_c (lsub_c lsub_nil)))) (ih v288 m286 h)
                                                              · replace h := it_f c287 h
                                                                refine ev_iconst dL_law_990 (pc' := 991) (v := 0) rfl (by decide) ?_
                                                                obtain ⟨rfl, rfl⟩ := rt2 h
                                                                exact ev_ireturn dL_law_991 (aret_z (by decide)) q
                                                            · replace h := it_f c272 h
                                                              by_cases c289 : ((S.2 (w1).toNatClampNeg) &&& 31) = 28
                                                              · replace h := it_t c289 h
                                                                refine ev_tableIn dL_law_33 c289 (by decide) rfl (t := 992) rfl ?_
                                                                refine ev_aload_n dL_law_992 (pc' := 993) rfl rfl ?_
                                                                refine ev_aload_n dL_law_993 (pc' := 994) rfl rfl ?_
                                                                refine ev_iload_n dL_law_994 (pc' := 995) rfl rfl ?_
                                                                refine ev_iconst dL_law_995 (pc' := 996) (v := 1) rfl (by decide) ?_
                                                                refine ev_iadd dL_law_996 (pc' := 997) rfl ?_
                                                                obtain ⟨g290, h⟩ := gd_of h
                                                                refine ev_sald dL_law_997 (pc' := 998) rfl g290 ?_
                                                                refine ev_aload_n dL_law_998 (pc' := 999) rfl rfl ?_
                                                                refine ev_iload_n dL_law_999 (pc' := 1000) rfl rfl ?_
                                                                refine ev_iconst dL_law_1000 (pc' := 1001) (v := 2) rfl (by decide) ?_
                                                                refine ev_iadd dL_law_1001 (pc' := 1002) rfl ?_
                                                                obtain ⟨g291, h⟩ := gd_of h
                                                                refine ev_sald dL_law_1002 (pc' := 1003) rfl g291 ?_
                                                                refine ev_aload_n dL_law_1003 (pc' := 1004) rfl rfl ?_
                                                                refine ev_iload_n dL_law_1004 (pc' := 1005) rfl rfl ?_
                                                                refine ev_iconst dL_law_1005 (pc' := 1006) (v := 3) rfl (by decide) ?_
                                                                refine ev_iadd dL_law_1006 (pc' := 1007) rfl ?_
                                                                obtain ⟨g292, h⟩ := gd_of h
                                                                refine ev_sald dL_law_1007 (pc' := 1008) rfl g292 ?_
                                                                obtain ⟨y293, m294, x_y293, h⟩ := ob2_of h
                                                                refine ev_invV dL_law_1008 (pc' := 1011) rfl sq_5_131 mt_X3_lots rfl (arecv_ob (x := 0) rfl rfl (by decide) kn_0) ⟨_, rfl, Nat.le_of_ble_eq_true rfl, Nat.le_of_ble_eq_true rfl, rfl, rfl⟩ ?_
                                                                refine X3_lots_ca  x_y293 ?_
                                                                refine ev_r1 ?_
                                                                refine ev_aload_n dL_law_1011 (pc' := 1012) rfl rfl ?_
                                                                refine ev_aload_n dL_law_1012 (pc' := 1013) rfl rfl ?_
                                                                refine ev_iload_n dL_law_1013 (pc' := 1014) rfl rfl ?_
                                                                refine ev_iconst dL_law_1014 (pc' := 1015) (v := 1) rfl (by decide) ?_
                                                                refine ev_iadd dL_law_1015 (pc' := 1016) rfl ?_
                                                                refine ev_sald dL_law_1016 (pc' := 1017) rfl g290 ?_
                                                                refine ev_aload_n dL_law_1017 (pc' := 1018) rfl rfl ?_
                                                                refine ev_iload_n dL_law_1018 (pc' := 1019) rfl rfl ?_
                                                                refine ev_iconst dL_law_1019 (pc' := 1020) (v := 2) rfl (by decide) ?_
                                                                refine ev_iadd dL_law_1020 (pc' := 1021) rfl ?_
                                                                refine ev_sald dL_law_1021 (pc' := 1022) rfl g291 ?_
                                                                refine ev_aload_n dL_law_1022 (pc' := 1023) rfl rfl ?_
                                                                refine ev_iload_n dL_law_1023 (pc' := 1024) rfl rfl ?_
                                                                refine ev_iconst dL_law_1024 (pc' := 1025) (v := 3) rfl (by decide) ?_
                                                                refine ev_iadd dL_law_1025 (pc' := 1026) rfl ?_
                                                                refine ev_sald dL_law_1026 (pc' := 1027) rfl g292 ?_
                                                                obtain ⟨y298, m299, x_y298, h⟩ := ob2_of h
                                                                refine ev_invV dL_law_1027 (pc' := 1030) rfl sq_5_134 mt_X4_lots rfl (arecv_ob (x := 35) rfl rfl (by decide) kn_35) ⟨_, rfl, Nat.le_of_ble_eq_true rfl, Nat.le_of_ble_eq_true rfl, rfl, rfl⟩ ?_
                                                                refine X4_lots_ca  x_y298 ?_
                                                                refine ev_r1 ?_
                                                                refine ev_icmp_eq dL_law_1030 (pc' := 1033) rfl (t := 1084) rfl (fun c300 => ?_) (fun c300 => ?_)
                                                                · replace h := it_t c300 h
                                                                  obtain ⟨v301, e_v301⟩ : ∃ y : Int32, y = (w1 + 6) := ⟨_, rfl⟩
                                                                  replace h := nm_at e_v301 h
                                                                  refine ev_iinc dL_law_1084 (pc' := 1087) (v := v301) (ls' := [some (.ref 90), some (.ref 0), some (.ref 35), some (.int v301)]) rfl rfl (by rw [e_v301]; rfl) (Nat.le_of_ble_eq_true rfl) rfl ?_
                                                                  refine ev_goto dL_law_1087 (t := 18) rfl ?_
                                                                  exact ev_sub (lsub_c (lsub_c (lsub_c (lsub_c lsub_nil)))) (ih v301 m299 h)
                                                                · replace h := it_f c300 h
                                                                  refine ev_iconst dL_law_1033 (pc' := 1034) (v := 0) rfl (by decide) ?_
                                                                  obtain ⟨rfl, rfl⟩ := rt2 h
                                                                  exact ev_ireturn dL_law_1034 (aret_z (by decide)) q
                                                              · replace h := it_f c289 h
                                                                by_cases c302 : ((S.2 (w1).toNatClampNeg) &&& 31) = 29
                                                                · replace h := it_t c302 h
                                                                  refine ev_tableIn dL_law_33 c302 (by decide) rfl (t := 1035) rfl ?_
                                                                  refine ev_aload_n dL_law_1035 (pc' := 1036) rfl rfl ?_
                                                                  obtain ⟨y303, m304, x_y303, h⟩ := ob2_of h
                                                                  refine ev_invV dL_law_1036 (pc' := 1039) rfl sq_5_135 mt_X3_image rfl (arecv_ob (x := 0) rfl rfl (by decide) kn_0) ⟨_, rfl, Nat.le_of_ble_eq_true rfl, Nat.le_of_ble_eq_true rfl, rfl, rfl⟩ ?_
                                                                  refine X3_image_ca  x_y303 ?_
                                                                  refine ev_r1 ?_
                                                                  refine ev_aload_n dL_law_1039 (pc' := 1040) rfl rfl ?_
                                                                  obtain ⟨y305, m306, x_y305, h⟩ := ob2_of h
                                                                  refine ev_invV dL_law_1040 (pc' := 1043) rfl sq_5_138 mt_X4_image rfl (arecv_ob (x := 35) rfl rfl (by decide) kn_35) ⟨_, rfl, Nat.le_of_ble_eq_true rfl, Nat.le_of_ble_eq_true rfl, rfl, rfl⟩ ?_
                                                                  refine X4_image_ca  x_y305 ?_
                                                                  refine ev_r1 ?_
                                                                  refine ev_icmp_eq dL_law_1043 (pc' := 1046) rfl (t := 1084) rfl (fun c307 => ?_) (fun c307 => ?_)
                                                                  · replace h := it_t c307 h
                                                                    obtain ⟨v308, e_v308⟩ : ∃ y : Int32, y = (w1 + 6) := ⟨_, rfl⟩
                                                                    replace h := nm_at e_v308 h
                                                                    refine ev_iinc dL_law_1084 (pc' := 1087) (v := v308) (ls' := [some (.ref 90), some (.ref 0), some (.ref 35), some (.int v308)]) rfl rfl (by rw [e_v308]; rfl) (Nat.le_of_ble_eq_true rfl) rfl ?_
                                                                    refine ev_goto dL_law_1087 (t := 18) rfl ?_
                                                                    exact ev_sub (lsub_c (lsub_c (lsub_c (lsub_c lsub_nil)))) (ih v308 m306 h)
                                                                  · replace h := it_f c307 h
                                                                    refine ev_iconst dL_law_1046 (pc' := 1047) (v := 0) rfl (by decide) ?_
                                                                    obtain ⟨rfl, rfl⟩ := rt2 h
                                                                    exact ev_ireturn dL_law_1047 (aret_z (by decide)) q
                                                                · replace h := it_f c302 h
                                                                  by_cases c309 : ((S.2 (w1).toNatClampNeg) &&& 31) = 30
                                                                  · replace h := it_t c309 h
                                                                    refine ev_tableIn dL_law_33 c309 (by decide) rfl (t := 1048) rfl ?_
                                                                    refine ev_aload_n dL_law_1048 (pc' := 1049) rfl rfl ?_
                                                                    obtain ⟨y310, m311, x_y310, h⟩ := ob2_of h
                                                                    refine ev_invV dL_law_1049 (pc' := 1052) rfl sq_5_139 mt_X3_on rfl (arecv_ob (x := 0) rfl rfl (by decide) kn_0) ⟨_, rfl, Nat.le_of_ble_eq_true rfl, Nat.le_of_ble_eq_true rfl, rfl, rfl⟩ ?_
                                                                    refine X3_on_ca  x_y310 ?_
                                                                    refine ev_r1 ?_
                                                                    refine ev_aload_n dL_law_1052 (pc' := 1053) rfl rfl ?_
                                                                    obtain ⟨y312, m313, x_y312, h⟩ := ob2_of h
                                                                    refine ev_invV dL_law_1053 (pc' := 1056) rfl sq_5_142 mt_X4_on rfl (arecv_ob (x := 35) rfl rfl (by decide) kn_35) ⟨_, rfl, Nat.le_of_ble_eq_true rfl, Nat.le_of_ble_eq_true rfl, rfl, rfl⟩ ?_
                                                                    refine X4_on_ca  x_y312 ?_
                                                                    refine ev_r1 ?_
                                                                    refine ev_icmp_eq dL_law_1056 (pc' := 1059) rfl (t := 1084) rfl (fun c314 => ?_) (fun c314 => ?_)
                                                                    · replace h := it_t c314 h
                                                                      obtain ⟨v315, e_v315⟩ : ∃ y : Int32, y = (w1 + 6) := ⟨_, rfl⟩
                                                                      replace h := nm_at e_v315 h
                                                                      refine ev_iinc dL_law_1084 (pc' := 1087) (v := v315) (ls' := [some (.ref 90), some (.ref 0), some (.ref 35), some (.int v315)]) rfl rfl (by rw [e_v315]; rfl) (Nat.le_of_ble_eq_true rfl) rfl ?_
                                                                      refine ev_goto dL_law_1087 (t := 18) rfl ?_
                                                                      exact ev_sub (lsub_c (lsub_c (lsub_c (lsub_c lsub_nil)))) (ih v315 m313 h)
                                                                    · replace h := it_f c314 h
                                                                      refine ev_iconst dL_law_1059 (pc' := 1060) (v := 0) rfl (by decide) ?_
                                                                      obtain ⟨rfl, rfl⟩ := rt2 h
                                                                      exact ev_ireturn dL_law_1060 (aret_z (by decide)) q
                                                                  · replace h := it_f c309 h
                                                                    by_cases c316 : ((S.2 (w1).toNatClampNeg) &&& 31) = 31
                                                                    · replace h := it_t c316 h
                                                                      refine ev_tableIn dL_law_33 c316 (by decide) rfl (t := 1061) rfl ?_
                                                                      refine ev_aload_n dL_law_1061 (pc' := 1062) rfl rfl ?_
                                                                      refine ev_aload_n dL_law_1062 (pc' := 1063) rfl rfl ?_
                                                                      refine ev_iload_n dL_law_1063 (pc' := 1064) rfl rfl ?_
                                                                      refine ev_iconst dL_law_1064 (pc' := 1065) (v := 1) rfl (by decide) ?_
                                                                      refine ev_iadd dL_law_1065 (pc' := 1066) rfl ?_
                                                                      obtain ⟨g317, h⟩ := gd_of h
                                                                      refine ev_sald dL_law_1066 (pc' := 1067) rfl g317 ?_
                                                                      obtain ⟨y318, x_y318, h⟩ := ob_of h
                                                                      refine ev_invV dL_law_1067 (pc' := 1070) rfl sq_5_143 mt_X3_count rfl (arecv_ob (x := 0) rfl rfl (by decide) kn_0) ⟨_, rfl, Nat.le_of_ble_eq_true rfl, Nat.le_of_ble_eq_true rfl, rfl, rfl⟩ ?_
                                                                      refine X3_count_ca  x_y318 ?_
                                                                      refine ev_r1 ?_
                                                                      refine ev_aload_n dL_law_1070 (pc' := 1071) rfl rfl ?_
                                                                      refine ev_aload_n dL_law_1071 (pc' := 1072) rfl rfl ?_
                                                                      refine ev_iload_n dL_law_1072 (pc' := 1073) rfl rfl ?_
                                                                      refine ev_iconst dL_law_1073 (pc' := 1074) (v := 1) rfl (by decide) ?_
                                                                      refine ev_iadd dL_law_1074 (pc' := 1075) rfl ?_
                                                                      refine ev_sald dL_law_1075 (pc' := 1076) rfl g317 ?_
                                                                      obtain ⟨y320, x_y320, h⟩ := ob_of h
                                                                      refine ev_invV dL_law_1076 (pc' := 1079) rfl sq_5_146 mt_X4_count rfl (arecv_ob (x := 35) rfl rfl (by decide) kn_35) ⟨_, rfl, Nat.le_of_ble_eq_true rfl, Nat.le_of_ble_eq_true rfl, rfl, rfl⟩ ?_
                                                                      refine X4_count_ca  x_y320 ?_
                                                                      refine ev_r1 ?_
                                                                      refine ev_icmp_eq dL_law_1079 (pc' := 1082) rfl (t := 1084) rfl (fun c321 => ?_) (fun c321 => ?_)
                                                                      · replace h := it_t c321 h
                                                                        obtain ⟨v322, e_v322⟩ : ∃ y : Int32, y = (w1 + 6) := ⟨_, rfl⟩
                                                                        replace h := nm_at e_v322 h
                                                                        refine ev_iinc dL_law_1084 (pc' := 1087) (v := v322) (ls' := [some (.ref 90), some (.ref 0), some (.ref 35), some (.int v322)]) rfl rfl (by rw [e_v322]; rfl) (Nat.le_of_ble_eq_true rfl) rfl ?_
                                                                        refine ev_goto dL_law_1087 (t := 18) rfl ?_
                                                                        exact ev_sub (lsub_c (lsub_c (lsub_c (lsub_c lsub_nil)))) (ih v322 m2 h)
                                                                      · replace h := it_f c321 h
                                                                        refine ev_iconst dL_law_1082 (pc' := 1083) (v := 0) rfl (by decide) ?_
                                                                        obtain ⟨rfl, rfl⟩ := rt2 h
                                                                        exact ev_ireturn dL_law_1083 (aret_z (by decide)) q
                                                                    · replace h := it_f c316 h
                                                                      refine ev_tableDef dL_law_33 [0, 1, 2, 3, 4, 5, 6, 7, 8, 9, 10, 11, 12, 13, 14, 15, 16, 17, 18, 19, 20, 21, 22, 23, 24, 25, 26, 27, 28, 29, 30, 31] (by decide) (List.forall_mem_cons.mpr ⟨c5, List.forall_mem_cons.mpr ⟨c14, List.forall_mem_cons.mpr ⟨c21, List.forall_mem_cons.mpr ⟨c32, List.forall_mem_cons.mpr ⟨c43, List.forall_mem_cons.mpr ⟨c54, List.forall_mem_cons.mpr ⟨c67, List.forall_mem_cons.mpr ⟨c80, List.forall_mem_cons.mpr ⟨c89, List.forall_mem_cons.mpr ⟨c102, List.forall_mem_cons.mpr ⟨c113, List.forall_mem_cons.mpr ⟨c126, List.forall_mem_cons.mpr ⟨c135, List.forall_mem_cons.mpr ⟨c144, List.forall_mem_cons.mpr ⟨c155, List.forall_mem_cons.mpr ⟨c162, List.forall_mem_cons.mpr ⟨c171, List.forall_mem_cons.mpr ⟨c182, List.forall_mem_cons.mpr ⟨c191, List.forall_mem_cons.mpr ⟨c196, List.forall_mem_cons.mpr ⟨c205, List.forall_mem_cons.mpr ⟨c214, List.forall_mem_cons.mpr ⟨c223, List.forall_mem_cons.mpr ⟨c234, List.forall_mem_cons.mpr ⟨c243, List.forall_mem_cons.mpr ⟨c252, List.forall_mem_cons.mpr ⟨c263, List.forall_mem_cons.mpr ⟨c272, List.forall_mem_cons.mpr ⟨c289, List.forall_mem_cons.mpr ⟨c302, List.forall_mem_cons.mpr ⟨c309, List.forall_mem_cons.mpr ⟨c316, fun _ h => absurd h List.not_mem_nil⟩⟩⟩⟩⟩⟩⟩⟩⟩⟩⟩⟩⟩⟩⟩⟩⟩⟩⟩⟩⟩⟩⟩⟩⟩⟩⟩⟩⟩⟩⟩⟩) (t := 1084) rfl ?_
                                                                      obtain ⟨v323, e_v323⟩ : ∃ y : Int32, y = (w1 + 6) := ⟨_, rfl⟩
                                                                      replace h := nm_at e_v323 h
                                                                      refine ev_iinc dL_law_1084 (pc' := 1087) (v := v323) (ls' := [some (.ref 90), some (.ref 0), some (.ref 35), some (.int v323)]) rfl rfl (by rw [e_v323]; rfl) (Nat.le_of_ble_eq_true rfl) rfl ?_
                                                                      refine ev_goto dL_law_1087 (t := 18) rfl ?_
                                                                      exact ev_sub (lsub_c (lsub_c (lsub_c (lsub_c lsub_nil)))) (ih v323 m2 h)
