/-! the small machine's steps are the machine's -/
def AD (ad : Nat → Nat) : Nat → Prop := fun q => ∃ i, i < 44 ∧ q = ad i
def tyW (cI cO : ClassId) : List (ClassId × FieldType) := [(cI, .int), (cO, .object RX0)]
def KX (D : va_G) (ad : Nat → Nat) (sp : Value) (cI cO : ClassId) (S : Sc) (A : Nat → Prop) (U : State) (H : Heap) : Prop :=
  va_K D vwCl (tyW cI cO) U ∧ (∀ w ∈ nlk, va_Nw w U) ∧ vk_S 8 kLen kByt (fun i => ad (50 + i)) (fun i => ad (60 + i)) A U H ∧ (∀ i, i < 8 → vk_R RX1 (kIx i) (kTx i) (ad (50 + i)) U) ∧ va_Z RJ0 "COMPACT_STRINGS" "Z" (.int 1) A U H ∧ va_Z RJ3 "SIOOBE_FORMATTER" "Ljava/util/function/BiFunction;" sp A U H ∧ (va_X (ad 90) S.1 S.2 U H ∧ ad 90 < H.size ∧ ¬ A (ad 90))
theorem nlk_form : ∀ w ∈ nlk, ∃ a i x h, w = Jvm.Cond.methodLinkNest a i x h := by
  intro w hw
  simp only [nlk, List.mem_cons, List.not_mem_nil, or_false] at hw
  rcases hw with rfl | rfl | rfl | rfl | rfl <;> exact ⟨_, _, _, _, rfl⟩
theorem KX.go {D : va_G} {ad : Nat → Nat} {sp : Value} {cI cO : ClassId} {S : Sc} {A B : Nat → Prop} {U U' : State} {H H' : Heap} (h : KX D ad sp cI cO S A U H) (hW : U.WarmedH U'.vm) (hz : H.size ≤ H'.size) (hk : ∀ q, q < H.size → ¬ A q → H'[q]? = H[q]?) (hAB : ∀ q, B q → A q) : KX D ad sp cI cO S B U' H' := by
  obtain ⟨h1, h2, h3, h4, h5, h6, h7, h8, h9⟩ := h
  refine ⟨va_K.moved hW.alike h1, fun w hw => ?_, ((vk_S.moved hW.alike h3).kept hk).narrow hAB, fun i hi => (h4 i hi).warm hW, ((va_Z.moved hW.alike h5).kept hk).narrow hAB, ((va_Z.moved hW.alike h6).kept hk).narrow hAB, (va_X.moved hW.alike h7).kept (hk _ h8 h9), Nat.lt_of_lt_of_le h8 hz, fun z => h9 (hAB _ z)⟩
  obtain ⟨a, i, x, h, rfl⟩ := nlk_form w hw
  exact va_Nw.warmM hW (h2 _ hw)
def PC (D : va_G) (ad : Nat → Nat) (sp : Value) (cI cO : ClassId) (S : Sc) (vs : List Value) (mem : Mm) : Array Value → State → Prop := va_Pc (vs.map (tr ad sp)) (fun U => va_P D vwCl (wd ad sp cI cO mem) U.heap ∧ KX D ad sp cI cO S (AD ad) U U.heap)
theorem PC_blind {D : va_G} {ad : Nat → Nat} {sp : Value} {cI cO : ClassId} {S : Sc} {vs : List Value} {mem : Mm} : FrameBlind (PC D ad sp cI cO S vs mem) := by
  intro a U g mk q
  obtain ⟨q1, q2, q3⟩ := q
  exact ⟨q1, q2, q3.go (U' := U.calling g mk a) (State.WarmedH.refl U) (Nat.le_refl _) (fun _ _ _ => rfl) (fun _ h => h)⟩
def QC (D : va_G) (ad : Nat → Nat) (sp : Value) (cI cO : ClassId) (r : Option Value) (mem : Mm) : Array Value → State → Outcome → State → Prop := fun _ st o t => o = .returned (r.map (tr ad sp)) ∧ va_P D vwCl (wd ad sp cI cO mem) t.heap ∧ va_F (AD ad) st t
def wsM (d : MD) : List Jvm.Cond := Jvm.Cond.code d.y d.c d.ml d.rt :: BW
/-- what is known of a call -/
def CallOk (l : Launch) (R : Room) (D : va_G) (ad : Nat → Nat) (sp : Value) (cI cO : ClassId) (S : Sc) (call : Cf) : Prop := ∀ (μ : Nat) (vs : List Value) (mem : Mm) (r : Option Value) (mem' : Mm), call μ vs mem = some (r, mem') →
  (3 ≤ μ ∧ ∃ (d : MD) (rm : Room), mTL[μ]? = some d ∧ Met l d.y (wsM d) rm (PC D ad sp cI cO S vs mem) (QC D ad sp cI cO r mem') 0 0 (AD ad) ∧ rm.cells = 0 ∧ rm.slots = 0 ∧ rm.frames + 1 ≤ R.frames ∧ 34 + rm.locals ≤ R.locals) ∨
  (μ < 3 ∧ amath μ vs = some r ∧ mem' = mem ∧ 1 ≤ R.frames ∧ 21 ≤ R.locals)
section SND
variable {p : Program} {l : Launch} {e : Env} {R : Room} {s : State} {m : MethodId} {args : Array Value} {below : List Frame} {meth : Method} {c : Code} {H : Heap} {locs : List Loc} {cells slots : Nat} {Q : State → Prop}
variable {D : va_G} {ad : Nat → Nat} {sp : Value} {cI cO : ClassId} {S : Sc} {A : Nat → Prop} {call : Cf} {own : Nat} {cc : ByteArray} {rt : Option FieldType} {nL : Nat}
theorem ab_back {pc : Nat} {la : Array Slot} {st0 rest : List Value} {r : Option Value} {mem' : Mm} {a : Array Value} (hr : va_Run p l e R s m args below meth c H locs cells slots 0 0 (F0 m pc la st0) rest (QC D ad sp cI cO r mem' a) (AD ad)) (hS : va_S A s.heap H locs) (hAD : ∀ q, AD ad q → A q)
    (kk : ∀ (H1 : Heap) (locs1 : List Loc), va_P D vwCl (wd ad sp cI cO mem') H1 → va_S A s.heap H1 locs1 → W p l e R s m args below meth c H1 locs1 cells slots Q (F0 m (pc + 3) la ((r.map (tr ad sp)).toList ++ rest))) : W p l e R s m args below meth c H locs cells slots Q (F0 m pc la st0) := by
  intro T hT X
  obtain ⟨v, st₀, t, T', L, h0, X', hL, e1, e2, ⟨hv, hp, hz, hk⟩, st⟩ := hr T hT X
  have hv' : v = r.map (tr ad sp) := by injection hv
  subst hv'
  rw [h0] at hz hk
  obtain ⟨t2, a1, b1⟩ := kk T'.heap (locs ++ L) (by rw [e1]; exact hp) ⟨Nat.le_trans hS.1 (by rw [e1]; exact hz), fun q h1 h2 => by rw [e1, hk q (Nat.lt_of_lt_of_le h1 hS.1) (fun z => h2 (hAD q z))]; exact hS.2.1 q h1 h2, fun q hq => by
      rcases List.mem_append.mp hq with h | h
      · exact hS.2.2 q h
      · exact hAD _ (hL q h)⟩ T' rfl X'
  exact ⟨t2, st t2 a1, b1⟩
theorem isI_of {v : Value} (h : isI v = true) : ∃ x, v = .int x := by cases v <;> first | exact ⟨_, rfl⟩ | cases h
theorem isL_of {v : Value} (h : isL v = true) : ∃ x, v = .long x := by cases v <;> first | exact ⟨_, rfl⟩ | cases h
theorem isR_of {v : Value} (h : isR v = true) : ∃ x, v = .ref x := by cases v <;> first | exact ⟨_, rfl⟩ | cases h
theorem tr_ref_or (hsp : sp = .null ∨ ∃ a, sp = .ref a) (o : Nat) : tr ad sp (.ref o) = .null ∨ ∃ a, tr ad sp (.ref o) = .ref a := by
  show (if o = 99 then sp else Value.ref (ad o)) = _ ∨ ∃ a, (if o = 99 then sp else Value.ref (ad o)) = _
  by_cases h : o = 99
  · rw [if_pos h]; exact hsp
  · rw [if_neg h]; exact Or.inr ⟨_, rfl⟩
theorem goodIn_ws {d : MD} (hd : FdP d) : ∀ w ∈ wsM d, w ∈ BW := by
  intro w hw
  rcases List.mem_cons.mp hw with rfl | h
  · exact bw hd.1.1 rfl
  · exact h
theorem goodIn_bw {ws : List Jvm.Cond} (h : ∀ w ∈ ws, w ∈ BW) : GoodIn BW ws := fun w hw => ⟨h w hw, good_of_word (List.mem_filter.mp (h w hw)).2⟩
theorem awd_tr (hsp : sp = .null ∨ ∃ a, sp = .ref a) (vs : List Value) : ((vs.map (tr ad sp)).map fun v => v.category).sum = awd vs := by
  induction vs with
  | nil => rfl
  | cons v vs ih =>
    simp only [List.map_cons, List.sum_cons, awd] at ih ⊢
    rw [ih, tr_cat hsp]
theorem take_drop_stack (st : List Value) (n : Nat) : st.map (tr ad sp) = (((st.take n).reverse).map (tr ad sp)).reverse ++ (st.drop n).map (tr ad sp) := by
  rw [← List.map_reverse, List.reverse_reverse, ← List.map_append, List.take_append_drop]
theorem math_name {μ : Nat} {d : MD} (h : μ < 3) (hd : mTL[μ]? = some d) : (μ = 0 ∧ d = md_J9_abs_0f7a4) ∨ (μ = 1 ∧ d = md_J9_max_7cf53) ∨ (μ = 2 ∧ d = md_J9_min_7cf53) := by
  rcases (by omega : μ = 0 ∨ μ = 1 ∨ μ = 2) with rfl | rfl | rfl
  · exact Or.inl ⟨rfl, (Option.some.inj (mt_J9_abs_0f7a4.symm.trans hd)).symm⟩
  · exact Or.inr (Or.inl ⟨rfl, (Option.some.inj (mt_J9_max_7cf53.symm.trans hd)).symm⟩)
  · exact Or.inr (Or.inr ⟨rfl, (Option.some.inj (mt_J9_min_7cf53.symm.trans hd)).symm⟩)
set_option maxHeartbeats 4000000 in
/-- a static call -/
theorem ab_calls (hsp : sp = .null ∨ ∃ a, sp = .ref a) (hx : p.tables.exec = Jvm.exec) (hb : c.code = cc) (hml : c.maxLocals = nL) (hown : s.vm.findClass (cn own) = some m.cls) (hts : ∀ w ∈ BW, w.before args s = true) (hKX : KX D ad sp cI cO S A s s.heap) (hAD : ∀ q, AD ad q → A q) (hcs : cells ≤ R.cells ∧ slots ≤ R.slots) (hcall : CallOk l R D ad sp cI cO S call)
    {pc k μ : Nat} {nst : Bool} {d : MD} {ls : Lo} {la : Array Slot} {st : List Value} {mem : Mm} {o : Rz ⊕ S5} (hdg : decode cc pc = .ok (.invokestatic k, 3)) (hs : lk2 sTL own k = some (nst, μ)) (hd : mTL[μ]? = some d) (hst : d.st = true) (h : acall call d μ pc ls st mem = some o)
    (hP : va_P D vwCl (wd ad sp cI cO mem) H) (hS : va_S A s.heap H locs) (hL : lh ad sp nL ls la)
    (hN : ∀ pc' ls' st' mem', o = .inr (pc', ls', st', mem') → ∀ H locs la, va_P D vwCl (wd ad sp cI cO mem') H → va_S A s.heap H locs → lh ad sp nL ls' la → W p l e R s m args below meth c H locs cells slots Q (F0 m pc' la (st'.map (tr ad sp)))) : W p l e R s m args below meth c H locs cells slots Q (F0 m pc la (st.map (tr ad sp))) := by
  have hfd := mok d (List.mem_of_getElem? hd)
  obtain ⟨d0, hd0, hlink⟩ := sok _ (lk2_mem hs)
  have hdd : d0 = d := Option.some.inj (hd0.symm.trans hd)
  subst hdd
  dsimp only at hlink
  obtain ⟨⟨f1, f2⟩, ⟨f3, f4, f5⟩, f6, f7⟩ := id hfd
  have hstat : Jvm.Cond.static d0.y ∈ BW := by
    rcases f6 with ⟨-, z⟩ | ⟨z, -⟩
    · exact bw z rfl
    · rw [hst] at z; cases z
  unfold acall at h
  rw [if_pos hst] at h
  dsimp only at h
  split at h
  next hn =>
    obtain ⟨hn1, hn2⟩ := hn
    split at h
    next r mem' hc =>
      cases h
      have hN' := hN _ _ _ _ rfl
      have hroom : 2 * (F0 m pc la (st.map (tr ad sp))).monitorRoom + (((st.drop d0.na).map (tr ad sp)).map fun v => v.category).sum ≤ 8 := lv_room (by rw [awd_tr hsp]; exact hn2)
      rcases hcall _ _ _ _ _ hc with ⟨hμ, d1, rm, g1, hM, g2, g3, g4, g5⟩ | ⟨hμ, ha, rfl, g4, g5⟩
      · have hd1 : d1 = d0 := Option.some.inj (g1.symm.trans hd)
        subst hd1
        have hPS : PreS s H (PC D ad sp cI cO S (st.take d1.na).reverse mem) (((st.take d1.na).reverse).map (tr ad sp)) := ⟨PC_blind, fun U hU hW => ⟨rfl, by rw [hU]; exact hP, hKX.go (U' := U) hW (by rw [hU]; exact hS.1) (fun q h1 h2 => by rw [hU]; exact hS.2.1 q h1 h2) hAD⟩⟩
        have hlen : (((st.take d1.na).reverse).map (tr ad sp)).length = d1.na := by simp; omega
        have hrR : rm.frames + 1 ≤ R.frames ∧ 8 + (d1.ml + 11) + rm.locals ≤ R.locals := ⟨g4, by omega⟩
        have hcs' : cells + 0 ≤ R.cells ∧ slots + 0 ≤ R.slots := hcs
        have fin : ∀ (H1 : Heap) (locs1 : List Loc), va_P D vwCl (wd ad sp cI cO mem') H1 → va_S A s.heap H1 locs1 → W p l e R s m args below meth c H1 locs1 cells slots Q (F0 m (pc + 3) la ((r.map (tr ad sp)).toList ++ (st.drop d1.na).map (tr ad sp))) := by
          intro H1 locs1 q1 q2
          have := hN' H1 locs1 la q1 q2 hL
          rw [List.map_append] at this
          cases r <;> exact this
        rcases hlink with ⟨-, hl⟩ | ⟨-, -, hl⟩
        · exact ab_back (va_runS (own := cn own) (nL := nL) (Ts := BW) ⟨hx, hb, hml, hown, hts⟩ hM (va_cwS d1.na hts (goodIn_bw (fun w hw => by
            rcases List.mem_append.mp hw with z | z
            · simp only [List.mem_cons, List.not_mem_nil, or_false] at z
              rcases z with rfl | rfl | rfl
              · exact bw hl rfl
              · exact hstat
              · exact bw f2 rfl
            · exact goodIn_ws hfd w z)) rfl g2 g3 f5 hrR) hPS rfl hlen hL.2.1 (take_drop_stack st d1.na) hroom hdg hcs') hS hAD fin
        · exact ab_back (va_runSN (own := cn own) (nL := nL) (Ts := BW) ⟨hx, hb, hml, hown, hts⟩ hM ⟨va_cnB d1.na hts (goodIn_bw (goodIn_ws hfd)) rfl g2 g3 (hKX.2.1 _ hl) (hts _ (bw f2 rfl)) f5 hrR, hts _ hstat, trivial⟩ hPS rfl hlen hL.2.1 (take_drop_stack st d1.na) hroom hdg hcs') hS hAD fin
      · have hni : nst = false := by
          rcases hlink with ⟨z, -⟩ | ⟨z, -, z2⟩
          · exact z
          · exfalso
            rcases math_name hμ hd with ⟨-, rfl⟩ | ⟨-, rfl⟩ | ⟨-, rfl⟩ <;> exact absurd z2 (by simp [nlk, MD.y, md_J9_abs_0f7a4, md_J9_max_7cf53, md_J9_min_7cf53, yX3_rangeFault, yX3_firstOf, yX3_whatFault, yX3_leastChoice, yX3_mostChoice, yJ9_abs_0f7a4, yJ9_max_7cf53, yJ9_min_7cf53, RJ9, RX3])
        have hl : Jvm.Cond.methodLink (cn own) k d0.y ∈ lw_tbl := by
          rcases hlink with ⟨-, z⟩ | ⟨z, -⟩
          · exact z
          · rw [hni] at z; cases z
        have hw8 : (((st.drop d0.na).map (tr ad sp)).map fun v => v.category).sum + 13 ≤ R.locals := by rw [awd_tr hsp]; omega
        have q1 := hts _ (bw hl rfl)
        have q2 := hts _ hstat
        have q3 := hts _ (bw f2 rfl)
        have q4 := hts _ (bw f1 rfl)
        have hst2 := take_drop_stack (ad := ad) (sp := sp) st d0.na
        have fin := hN' H locs la hP hS hL
        rcases math_name hμ hd with ⟨rfl, rfl⟩ | ⟨rfl, rfl⟩ | ⟨rfl, rfl⟩
        · generalize hvs : (st.take (MD.na md_J9_abs_0f7a4)).reverse = vs at ha hst2
          match vs, ha with
          | [.int x], ha =>
            cases ha
            rw [hst2]
            exact va_mabs (own := cn own) hx hb (hml.trans hL.2.1.symm) hown q1 q2 q3 q4 g4 hw8 hcs.1 hcs.2 hdg fin
        · generalize hvs : (st.take (MD.na md_J9_max_7cf53)).reverse = vs at ha hst2
          match vs, ha with
          | [.int x, .int y], ha =>
            cases ha
            rw [hst2]
            exact va_mmax (own := cn own) hx hb (hml.trans hL.2.1.symm) hown q1 q2 q3 q4 g4 hw8 hcs.1 hcs.2 hdg fin
        · generalize hvs : (st.take (MD.na md_J9_min_7cf53)).reverse = vs at ha hst2
          match vs, ha with
          | [.int x, .int y], ha =>
            cases ha
            rw [hst2]
            exact va_mmin (own := cn own) hx hb (hml.trans hL.2.1.symm) hown q1 q2 q3 q4 g4 hw8 hcs.1 hcs.2 hdg fin
    next => cases h
  next => cases h
end SND
