/-! the constructors: Town -/
theorem arrV_ext {cA : ClassId} {n : Nat} {f g : Nat → Value} (h : ∀ j, j < n → f j = g j) : arrV cA n f = arrV cA n g := by
  unfold arrV
  have : (fun j : Fin n => f j.val) = fun j : Fin n => g j.val := by funext j; exact h j.val j.isLt
  rw [this]
theorem va_D_fst {A : Nat → Prop} {w1 w2 : va_W} (h : w2.map Prod.fst = w1.map Prod.fst) (hD : va_D A w1) : va_D A w2 := by
  have key : ∀ (k : Nat) (q : Nat × va_E), w2[k]? = some q → ∃ q1, w1[k]? = some q1 ∧ q1.1 = q.1 := by
    intro k q hq
    have h1 : (w2.map Prod.fst)[k]? = some q.1 := by rw [List.getElem?_map, hq]; rfl
    rw [h, List.getElem?_map] at h1
    cases hz : w1[k]? with
    | none => rw [hz] at h1; cases h1
    | some q1 => rw [hz] at h1; exact ⟨q1, rfl, Option.some.inj h1⟩
  refine ⟨fun i j p q hi hj hpq => ?_, fun k q hk => ?_⟩
  · obtain ⟨p1, a1, a2⟩ := key i p hi
    obtain ⟨q1, b1, b2⟩ := key j q hj
    exact hD.1 i j p1 q1 a1 b1 (by rw [a2, b2, hpq])
  · obtain ⟨q1, b1, b2⟩ := key k q hk
    rw [← b2]; exact hD.2 k q1 b1
theorem va_P_set {D : va_G} {cl : List vw_C} {ws : va_W} {H : Heap} {k : Nat} {q e : Nat × va_E} (hP : va_P D cl ws H) (hk : ws[k]? = some q) (he : va_at D cl q H → va_at D cl e H) : va_P D cl (ws.set k e) H := by
  intro j x hj
  by_cases h : k = j
  · subst h
    rw [List.getElem?_set_self (List.getElem?_eq_some_iff.mp hk).1] at hj
    cases hj
    exact he (hP k q hk)
  · rw [List.getElem?_set_ne h] at hj
    exact hP j x hj
/-- a Town's world while it is made: as are the casks that stand in its row -/
abbrev tnE (qa qn : Nat) : va_E := .inr (2, [.ref qa, .ref qn, .int 0, .int 10, .int 4, .int 2, .int 0])
abbrev twm (h0 qa qn : Nat) (cO : ClassId) (as : List Nat) : va_W := (h0, tnE qa qn) :: (qa, eQ cO (fun j => as[j]?)) :: (qn, eK) :: as.map (fun q => (q, eK))
/-- a Town's world, by numbers -/
abbrev twn (b : Nat → Nat) (cO : ClassId) : va_W := [(b 0, tnE (b 1) (b 9)), (b 1, eQ cO (fun j => some (b (2 + j)))), (b 2, eK), (b 3, eK), (b 4, eK), (b 5, eK), (b 6, eK), (b 7, eK), (b 8, eK), (b 9, eK)]
theorem up_as {as : List Nat} {q : Nat} : va_up (fun j => as[j]?) as.length (some q) = fun j => (as ++ [q])[j]? := by
  funext j
  unfold va_up
  by_cases h : j = as.length
  · rw [if_pos h, h]; simp
  · rw [if_neg h]
    by_cases h2 : j < as.length
    · rw [List.getElem?_append_left h2]
    · have e1 : as[j]? = none := List.getElem?_eq_none (by omega)
      have e2 : (as ++ [q])[j]? = none := List.getElem?_eq_none (by rw [List.length_append]; show as.length + 1 ≤ j; omega)
      rw [e2]; exact e1
theorem twm_end {D : va_G} {h0 qa qn : Nat} {cO : ClassId} {as : List Nat} {H : Heap} {A : Nat → Prop} (hl : as.length = 7) (hP : va_P D vwCl (twm h0 qa qn cO as) H) (hD : va_D A (twm h0 qa qn cO as)) : ∃ b : Nat → Nat, b 0 = h0 ∧ va_P D vwCl (twn b cO) H ∧ va_D A (twn b cO) := by
  match as, hl with
  | [a0, a1, a2, a3, a4, a5, a6], _ =>
    refine ⟨fun n => [h0, qa, a0, a1, a2, a3, a4, a5, a6, qn].getD n 0, rfl, ?_, ?_⟩
    · have h1 := hP.sub (ws' := [(h0, tnE qa qn), (qa, eQ cO (fun j => [a0, a1, a2, a3, a4, a5, a6][j]?)), (a0, eK), (a1, eK), (a2, eK), (a3, eK), (a4, eK), (a5, eK), (a6, eK), (qn, eK)]) [0, 1, 3, 4, 5, 6, 7, 8, 9, 2] rfl
      refine va_P_set (k := 1) (e := (qa, eQ cO (fun j => some ([h0, qa, a0, a1, a2, a3, a4, a5, a6, qn].getD (2 + j) 0)))) h1 rfl (fun z => ?_)
      show H[qa]? = some (vp_cell cO (7, .inr (.inr (.inr (.inr _)))))
      have z' : H[qa]? = some (vp_cell cO (7, .inr (.inr (.inr (.inr (fun j => [a0, a1, a2, a3, a4, a5, a6][j]?)))))) := z
      rw [z', vp_cell_q, vp_cell_q]
      refine congrArg some (arrV_ext (fun j hj => ?_))
      rcases (by omega : j = 0 ∨ j = 1 ∨ j = 2 ∨ j = 3 ∨ j = 4 ∨ j = 5 ∨ j = 6) with rfl | rfl | rfl | rfl | rfl | rfl | rfl <;> rfl
    · have h1 := hD.sub (ws' := [(h0, tnE qa qn), (qa, eQ cO (fun j => [a0, a1, a2, a3, a4, a5, a6][j]?)), (a0, eK), (a1, eK), (a2, eK), (a3, eK), (a4, eK), (a5, eK), (a6, eK), (qn, eK)]) [0, 1, 3, 4, 5, 6, 7, 8, 9, 2] (by decide) rfl
      exact va_D_fst (w1 := [(h0, tnE qa qn), (qa, eQ cO (fun j => [a0, a1, a2, a3, a4, a5, a6][j]?)), (a0, eK), (a1, eK), (a2, eK), (a3, eK), (a4, eK), (a5, eK), (a6, eK), (qn, eK)]) rfl h1
abbrev tn0 : va_E := .inr (2, [.null, .null, .int 0, .int 0, .int 0, .int 0, .int 0])
def wnX2 : Jvm.Cond := .methodLinkNest RX2 17 yX0_init RX3
set_option maxHeartbeats 16000000 in
set_option maxRecDepth 100000 in
/-- Town(): a row of seven casks, and nobody -/
theorem c_X2_init (l : Launch) (D : va_G) (h0 sz : Nat) : Met l yX2_init (Jvm.Cond.code yX2_init cX2_init 2 none :: BW) ({ frames := 2, cells := 9, slots := 55, locals := 40 }) (va_Pc [.ref h0] (fun U => U.heap.size = sz ∧ va_P D vwCl [(h0, tn0)] U.heap ∧ va_K D vwCl [] U ∧ va_D (fun _ => True) [(h0, tn0)] ∧ va_Nw wnX2 U ∧ va_AO RX0 U))
    (va_Qv (fun u : ClassId × (Nat → Nat) => u.2 0 = h0) (fun u t => va_P D vwCl (twn u.2 u.1) t.heap ∧ va_K D vwCl [(u.1, .object RX0)] t ∧ va_D (va_A [(h0, tn0)] sz) (twn u.2 u.1)) (va_A [(h0, tn0)] sz)) 9 55 (va_A [(h0, tn0)] sz) := by
  refine Met.ofW (cc := cX2_init) (maxL := 2) (ret := none) (by decide) rfl ?_
  intro p e s m args below meth c s₁ B hml hv
  obtain ⟨rfl, hsz, hP, hK, hD0, hnw, hao⟩ := hv
  have hx := B.exec
  have hb := B.bytes
  have hr := B.returns
  have hts0 := atoms_spec (ws := Jvm.Cond.code yX2_init cX2_init 2 none :: BW) B.pre
  have hts : ∀ w ∈ BW, w.before ([Value.ref h0] : List Value).toArray s = true := fun w hw => hts0 w (List.mem_cons_of_mem _ hw)
  have hown : s.vm.findClass RX2 = some m.cls := findClass_of_methodNamed B.named
  have hlocks := B.notSynchronized
  have hin : meth.name = "<init>" := (name_of_methodNamed B.named B.method).1
  subst hsz
  have hD := hD0.self (sz := s.heap.size)
  generalize hAe : va_A [(h0, tn0)] s.heap.size = A at hD ⊢
  have hA : ∀ q : Nat, s.heap.size ≤ q → A q := fun q h => by rw [← hAe]; exact Or.inr h
  have hS : va_S A s.heap s.heap [] := va_S.rf
  have hP : va_P D vwCl [(h0, tn0)] s.heap := hP
  have hl := lv_entry ([.ref h0]) (n := 2) (Nat.le_of_ble_eq_true rfl)
  rw [lg_entry_eq]
  generalize (lg_sl ([.ref h0]) ++ List.replicate (2 - (lg_sl ([.ref h0])).length) Slot.unset).toArray = ls at hl ⊢
  have hl : lv_has ls 2 [(0, .ref h0)] := hl
  have g0 : GoodIn BW (Jvm.Cond.code yX0_init cX0_init 1 none :: BW) := gi_bw (tm1 32 rfl) rfl
  refine lv_aload_n hx hb dX2_init_0 rfl (lv_at hl 0 rfl) ?_
  refine W.objInit hx hb hown (hts (.methodLink RX2 3 objectInit) (bw (tm1 26 rfl) rfl)) (hts (.instanceMethod objectInit) (bw (tm1 19 rfl) rfl)) (hts (.code objectInit ⟨#[0xb1]⟩ 1 none) (bw (tm1 20 rfl) rfl)) rfl (by rw [hml]; exact hl.1) rfl dX2_init_1 (Nat.le_of_ble_eq_true rfl) (Nat.le_of_ble_eq_true rfl) ?_
  refine W.eq (g2 := F0 m 4 ls []) rfl ?_
  refine lv_aload_n hx hb dX2_init_4 rfl (lv_at hl 0 rfl) ?_
  refine lv_bipush (v := 7) hx hb dX2_init_5 (by decide) ?_
  refine va_newq (C := RX0) (N' := 7) hx hb hown (hts (.classLink RX2 9 RX0) (bw (tm1 27 rfl) rfl)) hao hK hP hD hS hA (by decide) (by decide) (by decide) (Nat.le_of_ble_eq_true rfl) (Nat.le_of_ble_eq_true rfl) dX2_init_7 (fun qa cO H hK hP hD hS => ?_)
  have hP : va_P D vwCl [(h0, tn0), (qa, eQ cO (fun _ => none))] H := hP
  have hD : va_D A [(h0, tn0), (qa, eQ cO (fun _ => none))] := hD
  have hK : va_K D vwCl [(cO, .object RX0)] s := hK
  refine va_putF (ci := 2) (v := .ref qa) (ty := .array (.object RX0)) (C := RX2) (T := TX2) (N := 7) hx hb hts (inTT (ci := 2) (by omega)) tyX2 tyX2_ok nmX2 hown hK hP hD hS 0 rfl rfl 0 (by decide) (hts (.fieldLink RX2 11 "TheAngelsWantMore$Town" "casks" "[LTheAngelsWantMore$Cask;") (bw (tm1 65 rfl) rfl)) (fun _ h9 => h9) rfl hin rfl (by decide +kernel) rfl rfl (Nat.le_of_ble_eq_true rfl) dX2_init_10 (fun H locs hP hD hS => ?_)
  have hP : va_P D vwCl [(h0, .inr (2, [.ref qa, .null, .int 0, .int 0, .int 0, .int 0, .int 0])), (qa, eQ cO (fun _ => none))] H := hP
  have hD : va_D A [(h0, .inr (2, [.ref qa, .null, .int 0, .int 0, .int 0, .int 0, .int 0])), (qa, eQ cO (fun _ => none))] := hD
  refine lv_aload_n hx hb dX2_init_13 rfl (lv_at hl 0 rfl) ?_
  refine va_new (ci := 0) (fs := [.int 0, .int 0, .int 0, .int 0, .int 0, .int 0]) (C := RX0) (T := TX0) (N := 6) hx hb hts (inTT (ci := 0) (by omega)) tyX0 tyX0_ok hown (hts (.classLink RX2 9 RX0) (bw (tm1 27 rfl) rfl)) (hts (.instantiable RX0 6) (bw (tm1 29 rfl) rfl)) (hts (.initialized RX0) (bw (tm1 3 rfl) rfl)) hK hP hD hS hA rfl (fun j hj => by rcases (show j = 0 ∨ j = 1 ∨ j = 2 ∨ j = 3 ∨ j = 4 ∨ j = 5 by omega) with rfl | rfl | rfl | rfl | rfl | rfl <;> rfl) (Nat.le_of_ble_eq_true rfl) (Nat.le_of_ble_eq_true rfl) dX2_init_14 (fun qn H hP hD hS => ?_)
  have hP : va_P D vwCl [(h0, .inr (2, [.ref qa, .null, .int 0, .int 0, .int 0, .int 0, .int 0])), (qa, eQ cO (fun _ => none)), (qn, eK)] H := hP
  have hD : va_D A [(h0, .inr (2, [.ref qa, .null, .int 0, .int 0, .int 0, .int 0, .int 0])), (qa, eQ cO (fun _ => none)), (qn, eK)] := hD
  refine lv_dup hx hb dX2_init_17 rfl ?_
  refine vr_same (va_runIN (As := []) (rest := [.ref qn, .ref h0]) ⟨hx, hb, hml, hown, hts⟩ (c_X0_init l qn) ⟨va_cnB 0 hts g0 rfl rfl rfl hnw (hts (.initialized RX0) (bw (tm1 3 rfl) rfl)) ⟨by decide +kernel, by decide +kernel, by decide +kernel⟩ ⟨Nat.le_of_ble_eq_true rfl, Nat.le_of_ble_eq_true rfl⟩, rfl, hts (.instanceMethod yX0_init) (bw (tm1 31 rfl) rfl)⟩ ⟨fun a U g mk q => ⟨q.1, trivial⟩, fun U hU hW => ⟨rfl, trivial⟩⟩ rfl rfl hl.1 rfl (lv_room (Nat.le_of_ble_eq_true rfl)) dX2_init_18 ⟨Nat.le_of_ble_eq_true rfl, Nat.le_of_ble_eq_true rfl⟩) ?_
  refine va_putF (ci := 2) (v := .ref qn) (ty := .object RX0) (C := RX2) (T := TX2) (N := 7) hx hb hts (inTT (ci := 2) (by omega)) tyX2 tyX2_ok nmX2 hown hK hP hD hS 0 rfl rfl 1 (by decide) (hts (.fieldLink RX2 18 "TheAngelsWantMore$Town" "nobody" "LTheAngelsWantMore$Cask;") (bw (tm1 66 rfl) rfl)) (fun _ h9 => h9) rfl hin rfl (by decide +kernel) rfl rfl (Nat.le_of_ble_eq_true rfl) dX2_init_21 (fun H locs hP hD hS => ?_)
  have hP : va_P D vwCl [(h0, .inr (2, [.ref qa, .ref qn, .int 0, .int 0, .int 0, .int 0, .int 0])), (qa, eQ cO (fun _ => none)), (qn, eK)] H := hP
  have hD : va_D A [(h0, .inr (2, [.ref qa, .ref qn, .int 0, .int 0, .int 0, .int 0, .int 0])), (qa, eQ cO (fun _ => none)), (qn, eK)] := hD
  refine lv_aload_n hx hb dX2_init_24 rfl (lv_at hl 0 rfl) ?_
  refine lv_iconst (v := 0) hx hb dX2_init_25 (by decide) ?_
  refine va_put (ci := 2) (v := .int 0) (ty := .int) (C := RX2) (T := TX2) (N := 7) hx hb hts (inTT (ci := 2) (by omega)) tyX2 tyX2_ok nmX2 hown hK hP hD hS 0 rfl rfl 2 (by decide) (hts (.fieldLink RX2 22 "TheAngelsWantMore$Town" "count" "I") (bw (tm1 67 rfl) rfl)) (fun _ h9 => h9) rfl (by decide +kernel) rfl rfl (Nat.le_of_ble_eq_true rfl) dX2_init_26 (fun H locs hP hD hS => ?_)
  have hP : va_P D vwCl [(h0, .inr (2, [.ref qa, .ref qn, .int 0, .int 0, .int 0, .int 0, .int 0])), (qa, eQ cO (fun _ => none)), (qn, eK)] H := hP
  have hD : va_D A [(h0, .inr (2, [.ref qa, .ref qn, .int 0, .int 0, .int 0, .int 0, .int 0])), (qa, eQ cO (fun _ => none)), (qn, eK)] := hD
  refine lv_aload_n hx hb dX2_init_29 rfl (lv_at hl 0 rfl) ?_
  refine lv_bipush (v := 10) hx hb dX2_init_30 (by decide) ?_
  refine va_put (ci := 2) (v := .int 10) (ty := .int) (C := RX2) (T := TX2) (N := 7) hx hb hts (inTT (ci := 2) (by omega)) tyX2 tyX2_ok nmX2 hown hK hP hD hS 0 rfl rfl 3 (by decide) (hts (.fieldLink RX2 26 "TheAngelsWantMore$Town" "rate" "I") (bw (tm1 69 rfl) rfl)) (fun _ h9 => h9) rfl (by decide +kernel) rfl rfl (Nat.le_of_ble_eq_true rfl) dX2_init_32 (fun H locs hP hD hS => ?_)
  have hP : va_P D vwCl [(h0, .inr (2, [.ref qa, .ref qn, .int 0, .int 10, .int 0, .int 0, .int 0])), (qa, eQ cO (fun _ => none)), (qn, eK)] H := hP
  have hD : va_D A [(h0, .inr (2, [.ref qa, .ref qn, .int 0, .int 10, .int 0, .int 0, .int 0])), (qa, eQ cO (fun _ => none)), (qn, eK)] := hD
  refine lv_aload_n hx hb dX2_init_35 rfl (lv_at hl 0 rfl) ?_
  refine lv_iconst (v := 4) hx hb dX2_init_36 (by decide) ?_
  refine va_put (ci := 2) (v := .int 4) (ty := .int) (C := RX2) (T := TX2) (N := 7) hx hb hts (inTT (ci := 2) (by omega)) tyX2 tyX2_ok nmX2 hown hK hP hD hS 0 rfl rfl 4 (by decide) (hts (.fieldLink RX2 29 "TheAngelsWantMore$Town" "lent" "I") (bw (tm1 71 rfl) rfl)) (fun _ h9 => h9) rfl (by decide +kernel) rfl rfl (Nat.le_of_ble_eq_true rfl) dX2_init_37 (fun H locs hP hD hS => ?_)
  have hP : va_P D vwCl [(h0, .inr (2, [.ref qa, .ref qn, .int 0, .int 10, .int 4, .int 0, .int 0])), (qa, eQ cO (fun _ => none)), (qn, eK)] H := hP
  have hD : va_D A [(h0, .inr (2, [.ref qa, .ref qn, .int 0, .int 10, .int 4, .int 0, .int 0])), (qa, eQ cO (fun _ => none)), (qn, eK)] := hD
  refine lv_aload_n hx hb dX2_init_40 rfl (lv_at hl 0 rfl) ?_
  refine lv_iconst (v := 2) hx hb dX2_init_41 (by decide) ?_
  refine va_put (ci := 2) (v := .int 2) (ty := .int) (C := RX2) (T := TX2) (N := 7) hx hb hts (inTT (ci := 2) (by omega)) tyX2 tyX2_ok nmX2 hown hK hP hD hS 0 rfl rfl 5 (by decide) (hts (.fieldLink RX2 32 "TheAngelsWantMore$Town" "excise" "I") (bw (tm1 73 rfl) rfl)) (fun _ h9 => h9) rfl (by decide +kernel) rfl rfl (Nat.le_of_ble_eq_true rfl) dX2_init_42 (fun H locs hP hD hS => ?_)
  have hP : va_P D vwCl [(h0, tnE qa qn), (qa, eQ cO (fun _ => none)), (qn, eK)] H := hP
  have hD : va_D A [(h0, tnE qa qn), (qa, eQ cO (fun _ => none)), (qn, eK)] := hD
  refine lv_aload_n hx hb dX2_init_45 rfl (lv_at hl 0 rfl) ?_
  refine lv_iconst (v := 0) hx hb dX2_init_46 (by decide) ?_
  refine va_put (ci := 2) (v := .int 0) (ty := .int) (C := RX2) (T := TX2) (N := 7) hx hb hts (inTT (ci := 2) (by omega)) tyX2 tyX2_ok nmX2 hown hK hP hD hS 0 rfl rfl 6 (by decide) (hts (.fieldLink RX2 35 "TheAngelsWantMore$Town" "year" "I") (bw (tm1 75 rfl) rfl)) (fun _ h9 => h9) rfl (by decide +kernel) rfl rfl (Nat.le_of_ble_eq_true rfl) dX2_init_47 (fun H locs hP hD hS => ?_)
  have hP : va_P D vwCl (twm h0 qa qn cO []) H := hP
  have hD : va_D A (twm h0 qa qn cO []) := hD
  refine lv_iconst (v := 0) hx hb dX2_init_50 (by decide) ?_
  refine lv_istore_n (lv' := [(1, .int 0), (0, .ref h0)]) hx hb dX2_init_51 rfl hl (by decide) rfl (fun ls hl => ?_)
  have loop : ∀ (k : Nat) (as : List Nat) (v : Int32) (H : Heap) (locs : List Loc) (ls : Array Slot), k = 7 - as.length → as.length ≤ 7 → v = nI as.length → va_P D vwCl (twm h0 qa qn cO as) H → va_D A (twm h0 qa qn cO as) → va_S A s.heap H locs → lv_has ls 2 [(1, .int v), (0, .ref h0)] →
      W p l e ({ frames := 2, cells := 9, slots := 55, locals := 40 }) s m ([Value.ref h0] : List Value).toArray below meth c H locs (2 + as.length) (13 + 6 * as.length) (MQ below (va_Qv (fun u : ClassId × (Nat → Nat) => u.2 0 = h0) (fun u t => va_P D vwCl (twn u.2 u.1) t.heap ∧ va_K D vwCl [(u.1, .object RX0)] t ∧ va_D A (twn u.2 u.1)) A) ([Value.ref h0] : List Value).toArray s 9 55 A) (F0 m 52 ls []) := by
    intro k
    induction k with
    | zero =>
      intro as v H locs ls hk hlen hv hP hD hS hl
      have h7 : as.length = 7 := by omega
      refine lv_iload_n hx hb dX2_init_52 rfl (lv_at hl 0 rfl) ?_
      refine lv_aload_n hx hb dX2_init_53 rfl (lv_at hl 1 rfl) ?_
      refine va_get (ci := 2) (v := .ref qa) (C := RX2) (T := TX2) (N := 7) hx hb hts (inTT (ci := 2) (by omega)) hown hK hP 0 rfl rfl 0 (by decide) (hts (.fieldLink RX2 11 "TheAngelsWantMore$Town" "casks" "[LTheAngelsWantMore$Cask;") (bw (tm1 65 rfl) rfl)) (fun _ h9 => h9) rfl dX2_init_54 ?_
      refine va_alen (v := 7) hx hb hK hP 1 0 rfl rfl (show Int32.ofNat 7 = 7 by decide) dX2_init_57 ?_
      refine lv_icmp_ge (tgt := 80) hx hb dX2_init_58 (by decide) (fun c1 => ?_) (fun c1 => absurd (by rw [hv, h7]; decide) c1)
      obtain ⟨b, b0, hP2, hD2⟩ := twm_end h7 hP hD
      refine W.widen (k := 9) (n := 55) (by omega) (by omega) ?_
      exact W.vret hx hb hr (fun t ht hW => ⟨⟨(cO, b), rfl, b0, by rw [ht]; exact hP2, va_K.moved hW.alike hK, hD2⟩, hS.F ht⟩) hS.2.2 dX2_init_80
    | succ k ih =>
      intro as v H locs ls hk hlen hv hP hD hS hl
      have hlt : as.length < 7 := by omega
      refine lv_iload_n hx hb dX2_init_52 rfl (lv_at hl 0 rfl) ?_
      refine lv_aload_n hx hb dX2_init_53 rfl (lv_at hl 1 rfl) ?_
      refine va_get (ci := 2) (v := .ref qa) (C := RX2) (T := TX2) (N := 7) hx hb hts (inTT (ci := 2) (by omega)) hown hK hP 0 rfl rfl 0 (by decide) (hts (.fieldLink RX2 11 "TheAngelsWantMore$Town" "casks" "[LTheAngelsWantMore$Cask;") (bw (tm1 65 rfl) rfl)) (fun _ h9 => h9) rfl dX2_init_54 ?_
      refine va_alen (v := 7) hx hb hK hP 1 0 rfl rfl (show Int32.ofNat 7 = 7 by decide) dX2_init_57 ?_
      refine lv_icmp_ge (tgt := 80) hx hb dX2_init_58 (by decide) (fun c1 => absurd c1 (by rw [hv, z_le, z_nI (by omega), show (7 : Int32).toInt = 7 from rfl]; omega)) (fun c1 => ?_)
      refine lv_aload_n hx hb dX2_init_61 rfl (lv_at hl 1 rfl) ?_
      refine va_get (ci := 2) (v := .ref qa) (C := RX2) (T := TX2) (N := 7) hx hb hts (inTT (ci := 2) (by omega)) hown hK hP 0 rfl rfl 0 (by decide) (hts (.fieldLink RX2 11 "TheAngelsWantMore$Town" "casks" "[LTheAngelsWantMore$Cask;") (bw (tm1 65 rfl) rfl)) (fun _ h9 => h9) rfl dX2_init_62 ?_
      refine lv_iload_n hx hb dX2_init_65 rfl (lv_at hl 0 rfl) ?_
      have hc1 : 2 + as.length + 1 ≤ 9 := by omega
      have hc2 : 13 + 6 * as.length + 6 ≤ 55 := by omega
      refine va_new (ci := 0) (fs := [.int 0, .int 0, .int 0, .int 0, .int 0, .int 0]) (C := RX0) (T := TX0) (N := 6) hx hb hts (inTT (ci := 0) (by omega)) tyX0 tyX0_ok hown (hts (.classLink RX2 9 RX0) (bw (tm1 27 rfl) rfl)) (hts (.instantiable RX0 6) (bw (tm1 29 rfl) rfl)) (hts (.initialized RX0) (bw (tm1 3 rfl) rfl)) hK hP hD hS hA rfl (fun j hj => by rcases (show j = 0 ∨ j = 1 ∨ j = 2 ∨ j = 3 ∨ j = 4 ∨ j = 5 by omega) with rfl | rfl | rfl | rfl | rfl | rfl <;> rfl) hc1 hc2 dX2_init_66 (fun qk H hP hD hS => ?_)
      have hP : va_P D vwCl ((h0, tnE qa qn) :: (qa, eQ cO (fun j => as[j]?)) :: (qn, eK) :: (as.map (fun q => (q, eK)) ++ [(qk, eK)])) H := hP
      have hD : va_D A ((h0, tnE qa qn) :: (qa, eQ cO (fun j => as[j]?)) :: (qn, eK) :: (as.map (fun q => (q, eK)) ++ [(qk, eK)])) := hD
      refine lv_dup hx hb dX2_init_69 rfl ?_
      refine vr_same (va_runIN (As := []) (rest := [.ref qk, .int v, .ref qa]) ⟨hx, hb, hml, hown, hts⟩ (c_X0_init l qk) ⟨va_cnB 0 hts g0 rfl rfl rfl hnw (hts (.initialized RX0) (bw (tm1 3 rfl) rfl)) ⟨by decide +kernel, by decide +kernel, by decide +kernel⟩ ⟨Nat.le_of_ble_eq_true rfl, Nat.le_of_ble_eq_true rfl⟩, rfl, hts (.instanceMethod yX0_init) (bw (tm1 31 rfl) rfl)⟩ ⟨fun a U g mk q => ⟨q.1, trivial⟩, fun U hU hW => ⟨rfl, trivial⟩⟩ rfl rfl hl.1 rfl (lv_room (Nat.le_of_ble_eq_true rfl)) dX2_init_70 ⟨hc1, hc2⟩) ?_
      have hqk : ((h0, tnE qa qn) :: (qa, eQ cO (fun j => as[j]?)) :: (qn, eK) :: (as.map (fun q => (q, eK)) ++ [(qk, eK)]))[3 + as.length]? = some (qk, eK) := by
        rw [show 3 + as.length = as.length + 1 + 1 + 1 by omega, List.getElem?_cons_succ, List.getElem?_cons_succ, List.getElem?_cons_succ, List.getElem?_append_right (by simp)]
        simp
      have hvin : vp_in v 7 := by rw [hv]; exact vp_in_nI hlt (by omega)
      refine va_astq hx hb hK hP hD hS 1 0 (3 + as.length) 0 rfl rfl hqk (r := (RX0, TX0, 6)) rfl hvin dX2_init_73 (fun H locs hP hD hS => ?_)
      have ecl : v.toNatClampNeg = as.length := by rw [hv]; exact nI_clamp (by omega)
      rw [ecl, up_as] at hP hD
      have hP : va_P D vwCl (twm h0 qa qn cO (as ++ [qk])) H := by
        have : twm h0 qa qn cO (as ++ [qk]) = (h0, tnE qa qn) :: (qa, eQ cO (fun j => (as ++ [qk])[j]?)) :: (qn, eK) :: (as.map (fun q => (q, eK)) ++ [(qk, eK)]) := by
          unfold twm
          rw [List.map_append]; rfl
        rw [this]; exact hP
      have hD : va_D A (twm h0 qa qn cO (as ++ [qk])) := by
        have : twm h0 qa qn cO (as ++ [qk]) = (h0, tnE qa qn) :: (qa, eQ cO (fun j => (as ++ [qk])[j]?)) :: (qn, eK) :: (as.map (fun q => (q, eK)) ++ [(qk, eK)]) := by
          unfold twm
          rw [List.map_append]; rfl
        rw [this]; exact hD
      obtain ⟨v2, ev2⟩ : ∃ y : Int32, y = v + 1 := ⟨_, rfl⟩
      refine lv_iinc (v := v2) (lv' := [(1, .int v2), (0, .ref h0)]) hx hb dX2_init_74 hl (k := 0) rfl (by rw [ev2]; rfl) (by decide) rfl (fun ls hl => ?_)
      refine lv_goto (tgt := 52) hx hb dX2_init_77 (by decide) ?_
      have hlen2 : (as ++ [qk]).length = as.length + 1 := by simp
      have := ih (as ++ [qk]) v2 H locs ls (by omega) (by omega) (by rw [ev2, hv, hlen2, nI_1]) hP hD hS hl
      rw [hlen2] at this
      exact this
  exact loop 7 [] 0 H locs ls rfl (by decide) rfl hP hD hS hl
