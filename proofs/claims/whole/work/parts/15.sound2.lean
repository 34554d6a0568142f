section SND2
variable {p : Program} {l : Launch} {e : Env} {R : Room} {s : State} {m : MethodId} {args : Array Value} {below : List Frame} {meth : Method} {c : Code} {H : Heap} {locs : List Loc} {cells slots : Nat} {Q : State → Prop}
variable {D : va_G} {ad : Nat → Nat} {sp : Value} {cI cO : ClassId} {S : Sc} {A : Nat → Prop} {call : Cf} {own : Nat} {cc : ByteArray} {rt : Option FieldType} {nL : Nat}
theorem arecv_of {d : MD} {st : List Value} (h : arecv d st = true) : ∃ o : Nat, st[d.na]? = some (.ref o) ∧ ((d.own < 5 ∧ kd o = d.own ∧ o < 44) ∨ (d.own = 10 ∧ kd o = 7)) := by
  unfold arecv at h
  split at h
  next o ho =>
    refine ⟨o, ho, ?_⟩
    split at h
    next h5 => exact Or.inl ⟨h5, (of_decide_eq_true h).1, (of_decide_eq_true h).2⟩
    next => exact Or.inr (of_decide_eq_true h)
  next => cases h
theorem kd7 {o : Nat} (h : kd o = 7) : 50 ≤ o ∧ o < 58 := by
  unfold kd at h
  split at h
  next ho =>
    exfalso
    have : ∀ i, i < 44 → ¬ kdL.getD i 99 = 7 := by decide
    exact this o ho h
  next => split at h <;> (try omega); split at h <;> (try omega); split at h <;> (try omega); split at h <;> (try omega); split at h <;> omega
theorem kd8 {o : Nat} (h : kd o = 8) : 60 ≤ o ∧ o < 68 := by
  unfold kd at h
  split at h
  next ho =>
    exfalso
    have : ∀ i, i < 44 → ¬ kdL.getD i 99 = 8 := by decide
    exact this o ho h
  next => split at h <;> (try omega); split at h <;> (try omega); split at h <;> (try omega); split at h <;> (try omega); split at h <;> omega
theorem n44 {o : Nat} (h : o < 44) : o < 99 := by omega
theorem k7_99 {o : Nat} (h : kd o = 7) : o < 99 := by have := kd7 h; omega
theorem k8_99 {o : Nat} (h : kd o = 8) : o < 99 := by have := kd8 h; omega
theorem k7_v {o : Nat} (h : kd o = 7) : o + 10 < 99 := by have := kd7 h; omega
theorem ks_of {H : Heap} (h : vk_S 8 kLen kByt (fun i => ad (50 + i)) (fun i => ad (60 + i)) A s H) {o : Nat} (ho : kd o = 7) : va_OF "java/lang/String" "coder" "B" (.int 0) (ad o) A s H ∧ va_OF "java/lang/String" "value" "[B" (.ref (ad (o + 10))) (ad o) A s H := by
  have h1 := kd7 ho
  have hs := h.1 (o - 50) (by omega)
  dsimp only at hs
  rw [show 50 + (o - 50) = o by omega, show 60 + (o - 50) = o + 10 by omega] at hs
  exact ⟨hs.2.1, hs.2.2.1⟩
theorem kb_of {H : Heap} (h : vk_S 8 kLen kByt (fun i => ad (50 + i)) (fun i => ad (60 + i)) A s H) {o : Nat} (ho : kd o = 8) : va_T .byte (ad o) (ablen o) (fun j => .int (abyt o j)) A s H := by
  have h1 := kd8 ho
  have hs := (h.1 (o - 60) (by omega)).2.2.2
  dsimp only at hs
  rw [show 60 + (o - 60) = o by omega] at hs
  exact hs
theorem vwCl_at {ci : Nat} (h : ci < 5) : vwCl[ci]? = some (cn ci, TT ci, nfT ci) := by
  rcases (by omega : ci = 0 ∨ ci = 1 ∨ ci = 2 ∨ ci = 3 ∨ ci = 4) with rfl | rfl | rfl | rfl | rfl <;> rfl
theorem inTT {ci : Nat} (h : ci < 5) : ∀ w ∈ u_ws (cn ci) (TT ci) (nfT ci), w ∈ BW := by
  have good : ∀ (C : String) (T : u_T) (N : Nat), ∀ w ∈ u_ws C T N, goodWord w = true := by
    intro C T N w hw
    obtain ⟨k, -, rfl⟩ := List.mem_map.mp hw
    unfold u_lay
    split <;> rfl
  intro w hw
  refine bw ?_ (good _ _ _ w hw)
  rcases (by omega : ci = 0 ∨ ci = 1 ∨ ci = 2 ∨ ci = 3 ∨ ci = 4) with rfl | rfl | rfl | rfl | rfl
  · exact inX0 w hw
  · exact inX1 w hw
  · exact inX2 w hw
  · exact inX3 w hw
  · exact inX4 w hw
set_option maxHeartbeats 4000000 in
/-- a call on an object -/
theorem ab_callv (hsp : sp = .null ∨ ∃ a, sp = .ref a) (hx : p.tables.exec = Jvm.exec) (hb : c.code = cc) (hml : c.maxLocals = nL) (hown : s.vm.findClass (cn own) = some m.cls) (hts : ∀ w ∈ BW, w.before args s = true) (hKX : KX D ad sp cI cO S A s s.heap) (hAD : ∀ q, AD ad q → A q) (hcs : cells ≤ R.cells ∧ slots ≤ R.slots) (hcall : CallOk l R D ad sp cI cO S call)
    {pc k μ : Nat} {nst : Bool} {d : MD} {ls : Lo} {la : Array Slot} {st : List Value} {mem : Mm} {o : Rz ⊕ S5} (hdg : decode cc pc = .ok (.invokevirtual k, 3)) (hs : lk2 sTL own k = some (nst, μ)) (hd : mTL[μ]? = some d) (hst : d.st = false) (hrv : arecv d st = true) (h : acall call d μ pc ls st mem = some o)
    (hP : va_P D vwCl (wd ad sp cI cO mem) H) (hS : va_S A s.heap H locs) (hL : lh ad sp nL ls la)
    (hN : ∀ pc' ls' st' mem', o = .inr (pc', ls', st', mem') → ∀ H locs la, va_P D vwCl (wd ad sp cI cO mem') H → va_S A s.heap H locs → lh ad sp nL ls' la → W p l e R s m args below meth c H locs cells slots Q (F0 m pc' la (st'.map (tr ad sp)))) : W p l e R s m args below meth c H locs cells slots Q (F0 m pc la (st.map (tr ad sp))) := by
  have hfd := mok d (List.mem_of_getElem? hd)
  obtain ⟨d0, hd0, hlink⟩ := sok _ (lk2_mem hs)
  have hdd : d0 = d := Option.some.inj (hd0.symm.trans hd)
  subst hdd
  dsimp only at hlink
  obtain ⟨⟨f1, f2⟩, ⟨f3, f4, f5⟩, f6, f7⟩ := id hfd
  obtain ⟨hin, hse⟩ : Jvm.Cond.instanceMethod d0.y ∈ BW ∧ Jvm.Cond.selects d0.y.cls d0.y d0.y ∈ BW := by
    rcases f6 with ⟨z, -⟩ | ⟨-, z1, z2⟩
    · rw [hst] at z; cases z
    · exact ⟨bw z1 rfl, bw z2 rfl⟩
  have hl : Jvm.Cond.methodLink (cn own) k d0.y ∈ lw_tbl := by
    rcases hlink with ⟨-, z⟩ | ⟨-, z, -⟩
    · exact z
    · rw [hst] at z; cases z
  obtain ⟨ob, hob, hkind⟩ := arecv_of hrv
  unfold acall at h
  rw [if_neg (show ¬ d0.st = true by rw [hst]; exact Bool.false_ne_true)] at h
  dsimp only at h
  split at h
  next hn =>
    obtain ⟨hn1, hn2⟩ := hn
    split at h
    next r mem' hc =>
      cases h
      have hN' := hN _ _ _ _ rfl
      have hroom : 2 * (F0 m pc la (st.map (tr ad sp))).monitorRoom + (((st.drop (d0.na + 1)).map (tr ad sp)).map fun v => v.category).sum ≤ 8 := lv_room (by rw [awd_tr hsp]; exact hn2)
      have htk : (st.take (d0.na + 1)).reverse = .ref ob :: (st.take d0.na).reverse := by
        rw [List.take_add_one, hob]
        simp
      have hob99 : ob < 99 := by
        rcases hkind with ⟨-, -, z⟩ | ⟨-, z⟩
        · omega
        · have := kd7 z; omega
      have hvs : ((st.take (d0.na + 1)).reverse).map (tr ad sp) = .ref (ad ob) :: ((st.take d0.na).reverse).map (tr ad sp) := by
        rw [htk, List.map_cons, tr_ref hob99]
      have hstk : st.map (tr ad sp) = (((st.take d0.na).reverse).map (tr ad sp)).reverse ++ .ref (ad ob) :: (st.drop (d0.na + 1)).map (tr ad sp) := by
        rw [take_drop_stack st (d0.na + 1), hvs, List.reverse_cons, List.append_assoc]
        rfl
      rcases hcall _ _ _ _ _ hc with ⟨hμ, d1, rm, g1, hM, g2, g3, g4, g5⟩ | ⟨hμ, ha, -⟩
      · have hd1 : d1 = d0 := Option.some.inj (g1.symm.trans hd)
        subst hd1
        have hrecv : ∃ cellB : Cell, H[ad ob]? = some cellB ∧ cellB.vm.isStatics = false ∧ s.vm.findClass d1.y.cls = some cellB.cls := by
          rcases hkind with ⟨z1, z2, z3⟩ | ⟨z1, z2⟩
          · have he := wd_at (ad := ad) (sp := sp) (cI := cI) (cO := cO) (mem := mem) z3
            rw [sh_o z2 z1] at he
            rw [f3]
            exact va_recv hKX.1 hP (vwCl_at z1) he
          · rw [f3, z1]
            obtain ⟨k1, k2⟩ := kd7 z2
            have := vk_recv (i := ob - 50) hKX.2.2.1 (by omega) hS
            rw [show 50 + (ob - 50) = ob by omega] at this
            exact this
        have hPV : PreV s H d1.y.cls (ad ob) (PC D ad sp cI cO S (st.take (d1.na + 1)).reverse mem) (((st.take d1.na).reverse).map (tr ad sp)) := ⟨PC_blind, hrecv, fun U hU hW => ⟨by rw [hvs], by rw [hU]; exact hP, hKX.go (U' := U) hW (by rw [hU]; exact hS.1) (fun q h1 h2 => by rw [hU]; exact hS.2.1 q h1 h2) hAD⟩⟩
        have hlen : (((st.take d1.na).reverse).map (tr ad sp)).length = d1.na := by simp; omega
        have hrR : rm.frames + 1 ≤ R.frames ∧ 8 + (d1.ml + 11) + rm.locals ≤ R.locals := ⟨g4, by omega⟩
        have hcs' : cells + 0 ≤ R.cells ∧ slots + 0 ≤ R.slots := hcs
        have fin : ∀ (H1 : Heap) (locs1 : List Loc), va_P D vwCl (wd ad sp cI cO mem') H1 → va_S A s.heap H1 locs1 → W p l e R s m args below meth c H1 locs1 cells slots Q (F0 m (pc + 3) la ((r.map (tr ad sp)).toList ++ (st.drop (d1.na + 1)).map (tr ad sp))) := by
          intro H1 locs1 q1 q2
          have := hN' H1 locs1 la q1 q2 hL
          rw [List.map_append] at this
          cases r <;> exact this
        exact ab_back (va_runV (own := cn own) (nL := nL) (Ts := BW) ⟨hx, hb, hml, hown, hts⟩ hM (cwV d1.na hts (goodIn_bw (fun w hw => by
            rcases List.mem_append.mp hw with z | z
            · simp only [List.mem_cons, List.not_mem_nil, or_false] at z
              rcases z with rfl | rfl | rfl | rfl
              · exact bw hl rfl
              · exact hin
              · exact hse
              · exact bw f2 rfl
            · exact goodIn_ws hfd w z)) rfl g2 g3 ⟨rfl, f5⟩ hrR) hPV rfl hlen hL.2.1 hstk hroom hdg hcs') hS hAD fin
      · exfalso
        rcases math_name hμ hd with ⟨-, rfl⟩ | ⟨-, rfl⟩ | ⟨-, rfl⟩ <;> cases hst
    next => cases h
  next => cases h
end SND2
