section SND3A
theorem q7 {x i : Nat} (h : x < 44) (hi : i < 7) : x + 1 + i < 99 := by omega
theorem ajmp_of {pc t : Nat} {off : Int} (h : ajmp pc off = some t) : (pc : Int) + off = (t : Int) := by
  unfold ajmp at h
  by_cases hz : 0 ≤ (pc : Int) + off
  · rw [if_pos hz] at h
    cases h
    omega
  · rw [if_neg hz] at h
    cases h
def tyT : Nat → Nat → FieldType
  | 0 => tyX0
  | 1 => tyX1
  | 2 => tyX2
  | 3 => tyX3
  | _ => tyX4
theorem tyT_ok {ci : Nat} (h : ci < 5) : ∀ k, k < nfT ci → parseFieldDescriptor (TT ci k).2.2.1 = some (tyT ci k) := by
  rcases (by omega : ci = 0 ∨ ci = 1 ∨ ci = 2 ∨ ci = 3 ∨ ci = 4) with rfl | rfl | rfl | rfl | rfl
  · exact tyX0_ok
  · exact tyX1_ok
  · exact tyX2_ok
  · exact tyX3_ok
  · exact tyX4_ok
theorem nmT {ci : Nat} (h : ci < 5) : ∀ a, a < nfT ci → ∀ b, b < nfT ci → a ≠ b → (TT ci a).2.1 ≠ (TT ci b).2.1 := by
  rcases (by omega : ci = 0 ∨ ci = 1 ∨ ci = 2 ∨ ci = 3 ∨ ci = 4) with rfl | rfl | rfl | rfl | rfl
  · exact nmX0
  · exact nmX1
  · exact nmX2
  · exact nmX3
  · exact nmX4
/-- a field that holds an int is written: it isn't final, and the value fits -/
theorem tt_int {ci f o : Nat} {v : Int32} (h : ci < 5) (hf : f < nfT ci) (hr : rfT ci f o = none) (hv : pok ci f v) : (TT ci f).2.2.2 = false ∧ parseFieldDescriptor (TT ci f).2.2.1 = some (tyT ci f) ∧ narrow (tyT ci f) (.int v) = .int v ∧ fits (tyT ci f) (.int v) = true := by
  have hd := tyT_ok h f hf
  have key : (TT ci f).2.2.2 = false ∧ ((¬ ((ci = 3 ∧ f = 3) ∨ (ci = 4 ∧ f = 4)) ∧ tyT ci f = .int) ∨ (((ci = 3 ∧ f = 3) ∨ (ci = 4 ∧ f = 4)) ∧ tyT ci f = .boolean)) := by
    rcases (by omega : ci = 0 ∨ ci = 1 ∨ ci = 2 ∨ ci = 3 ∨ ci = 4) with rfl | rfl | rfl | rfl | rfl
    · have hf : f < 6 := hf
      rcases (by omega : f = 0 ∨ f = 1 ∨ f = 2 ∨ f = 3 ∨ f = 4 ∨ f = 5) with rfl | rfl | rfl | rfl | rfl | rfl <;> exact ⟨rfl, Or.inl ⟨by omega, rfl⟩⟩
    · have hf : f < 2 := hf
      rcases (by omega : f = 0 ∨ f = 1) with rfl | rfl
      · cases hr
      · exact ⟨rfl, Or.inl ⟨by omega, rfl⟩⟩
    · have hf : f < 7 := hf
      rcases (by omega : f = 0 ∨ f = 1 ∨ f = 2 ∨ f = 3 ∨ f = 4 ∨ f = 5 ∨ f = 6) with rfl | rfl | rfl | rfl | rfl | rfl | rfl <;> first | cases hr; done | exact ⟨rfl, Or.inl ⟨by omega, rfl⟩⟩
    · have hf : f < 8 := hf
      rcases (by omega : f = 0 ∨ f = 1 ∨ f = 2 ∨ f = 3 ∨ f = 4 ∨ f = 5 ∨ f = 6 ∨ f = 7) with rfl | rfl | rfl | rfl | rfl | rfl | rfl | rfl <;> first | cases hr; done | exact ⟨rfl, Or.inl ⟨by omega, rfl⟩⟩ | exact ⟨rfl, Or.inr ⟨by omega, rfl⟩⟩
    · have hf : f < 15 := hf
      rcases (by omega : f = 0 ∨ f = 1 ∨ f = 2 ∨ f = 3 ∨ f = 4 ∨ f = 5 ∨ f = 6 ∨ f = 7 ∨ f = 8 ∨ f = 9 ∨ f = 10 ∨ f = 11 ∨ f = 12 ∨ f = 13 ∨ f = 14) with rfl | rfl | rfl | rfl | rfl | rfl | rfl | rfl | rfl | rfl | rfl | rfl | rfl | rfl | rfl <;> first | cases hr; done | exact ⟨rfl, Or.inl ⟨by omega, rfl⟩⟩ | exact ⟨rfl, Or.inr ⟨by omega, rfl⟩⟩
  obtain ⟨k1, ⟨k2, k3⟩ | ⟨k2, k3⟩⟩ := key
  · exact ⟨k1, hd, by rw [k3]; rfl, by rw [k3]; rfl⟩
  · have hv := hv.resolve_left (fun q => q k2)
    refine ⟨k1, hd, ?_, ?_⟩ <;> rw [k3] <;> rcases hv with rfl | rfl <;> rfl
end SND3A
section SND3
variable {p : Program} {l : Launch} {e : Env} {R : Room} {s : State} {m : MethodId} {args : Array Value} {below : List Frame} {meth : Method} {c : Code} {cells slots : Nat} {Q : State → Prop}
variable {D : va_G} {ad : Nat → Nat} {sp : Value} {cI cO : ClassId} {S : Sc} {A : Nat → Prop} {call : Cf} {own : Nat} {cc : ByteArray} {rt : Option FieldType} {nL : Nat}
/-- what the walk of one method's body stands on -/
def BodyOk (p : Program) (l : Launch) (R : Room) (s : State) (m : MethodId) (args : Array Value) (c : Code) (cells slots : Nat) (D : va_G) (ad : Nat → Nat) (sp : Value) (cI cO : ClassId) (S : Sc) (A : Nat → Prop) (call : Cf) (own : Nat) (cc : ByteArray) (nL : Nat) : Prop :=
  ((sp = .null ∨ ∃ a, sp = .ref a) ∧ p.tables.exec = Jvm.exec ∧ c.code = cc ∧ c.maxLocals = nL) ∧ (s.vm.findClass (cn own) = some m.cls ∧ (∀ w ∈ BW, w.before args s = true) ∧ KX D ad sp cI cO S A s s.heap ∧ (∀ q, AD ad q → A q)) ∧ ((cells ≤ R.cells ∧ slots ≤ R.slots) ∧ CallOk l R D ad sp cI cO S call ∧ (∀ i j, i < 44 → j < 44 → ad i = ad j → i = j))
/-- a state of the small machine, as the walk has it -/
def Wat (p : Program) (l : Launch) (e : Env) (R : Room) (s : State) (m : MethodId) (args : Array Value) (below : List Frame) (meth : Method) (c : Code) (cells slots : Nat) (Q : State → Prop) (D : va_G) (ad : Nat → Nat) (sp : Value) (cI cO : ClassId) (A : Nat → Prop) (nL : Nat) (pc : Nat) (ls : Lo) (st : List Value) (mem : Mm) : Prop :=
  ∀ (H : Heap) (locs : List Loc) (la : Array Slot), va_P D vwCl (wd ad sp cI cO mem) H → va_S A s.heap H locs → lh ad sp nL ls la → W p l e R s m args below meth c H locs cells slots Q (F0 m pc la (st.map (tr ad sp)))
variable {pc : Nat} {ls : Lo} {st : List Value} {mem : Mm} {o : Rz ⊕ S5} {H : Heap} {locs : List Loc} {la : Array Slot}
theorem ajm_of {off : Int} {rest : List Value} (h : ajm pc off ls rest mem = some o) : ∃ t : Nat, (pc : Int) + off = (t : Int) ∧ o = .inr (t, ls, rest, mem) := by
  unfold ajm ajmp at h
  by_cases hz : 0 ≤ (pc : Int) + off
  · rw [if_pos hz] at h
    cases h
    exact ⟨_, by omega, rfl⟩
  · rw [if_neg hz] at h
    cases h

theorem ab_iload (hB : BodyOk p l R s m args c cells slots D ad sp cI cO S A call own cc nL) (hL : lh ad sp nL ls la) {i len : Nat} (h : aload1 ls i pc len st mem isI = some o) : ∃ x, la[i]? = some (.val (.int x)) ∧ o = .inr (pc + len, ls, .int x :: st, mem) := by
  unfold aload1 at h
  split at h
  next v hv =>
    split at h
    next hok =>
      obtain ⟨x, rfl⟩ := isI_of hok
      cases h
      exact ⟨x, lh_at hL hv, rfl⟩
    next => cases h
  next => cases h
theorem ab_lload (hB : BodyOk p l R s m args c cells slots D ad sp cI cO S A call own cc nL) (hL : lh ad sp nL ls la) {i len : Nat} (h : aload1 ls i pc len st mem isL = some o) : ∃ x, la[i]? = some (.val (.long x)) ∧ o = .inr (pc + len, ls, .long x :: st, mem) := by
  unfold aload1 at h
  split at h
  next v hv =>
    split at h
    next hok =>
      obtain ⟨x, rfl⟩ := isL_of hok
      cases h
      exact ⟨x, lh_at hL hv, rfl⟩
    next => cases h
  next => cases h
theorem ab_aload (hB : BodyOk p l R s m args c cells slots D ad sp cI cO S A call own cc nL) (hL : lh ad sp nL ls la) {i len : Nat} (h : aload1 ls i pc len st mem isR = some o) : ∃ x, la[i]? = some (.val (tr ad sp (.ref x))) ∧ o = .inr (pc + len, ls, .ref x :: st, mem) := by
  unfold aload1 at h
  split at h
  next v hv =>
    split at h
    next hok =>
      obtain ⟨x, rfl⟩ := isR_of hok
      cases h
      exact ⟨x, lh_at hL hv, rfl⟩
    next => cases h
  next => cases h
theorem ab_store {i len : Nat} {ok : Value → Bool} (h : astore1 ls i pc len st mem ok = some o) : ∃ v rest, st = v :: rest ∧ ok v = true ∧ i + v.category ≤ ls.length ∧ o = .inr (pc + len, aset ls i v, rest, mem) := by
  unfold astore1 at h
  split at h
  next v rest =>
    split at h
    next hok => cases h; exact ⟨_, _, rfl, hok.1, hok.2, rfl⟩
    next => cases h
  next => cases h
theorem abin_of {f : Int32 → Int32 → Int32} (h : abin f pc ls st mem = some o) : ∃ x y rest, st = .int y :: .int x :: rest ∧ o = .inr (pc + 1, ls, .int (f x y) :: rest, mem) := by
  unfold abin at h
  split at h
  next => cases h; exact ⟨_, _, _, rfl, rfl⟩
  next => cases h
theorem abinL_of {f : Int64 → Int64 → Int64} (h : abinL f pc ls st mem = some o) : ∃ x y rest, st = .long y :: .long x :: rest ∧ o = .inr (pc + 1, ls, .long (f x y) :: rest, mem) := by
  unfold abinL at h
  split at h
  next => cases h; exact ⟨_, _, _, rfl, rfl⟩
  next => cases h
theorem adiv_of {f : Int32 → Int32 → Int32} (h : adiv f pc ls st mem = some o) : ∃ x y rest, st = .int y :: .int x :: rest ∧ ¬ y = 0 ∧ o = .inr (pc + 1, ls, .int (f x y) :: rest, mem) := by
  unfold adiv at h
  split at h
  next =>
    split at h
    next => cases h
    next hy => cases h; exact ⟨_, _, _, rfl, hy, rfl⟩
  next => cases h
theorem adivL_of {f : Int64 → Int64 → Int64} (h : adivL f pc ls st mem = some o) : ∃ x y rest, st = .long y :: .long x :: rest ∧ ¬ y = 0 ∧ o = .inr (pc + 1, ls, .long (f x y) :: rest, mem) := by
  unfold adivL at h
  split at h
  next =>
    split at h
    next => cases h
    next hy => cases h; exact ⟨_, _, _, rfl, hy, rfl⟩
  next => cases h

set_option maxHeartbeats 16000000 in
theorem ab_one (hB : BodyOk p l R s m args c cells slots D ad sp cI cO S A call own cc nL) {i : Instr} {len : Nat} (hdg : decode cc pc = .ok (i, len)) (hlen : len = wlen i len) (h : aex call S own rt i len pc ls st mem = some o)
    (hP : va_P D vwCl (wd ad sp cI cO mem) H) (hS : va_S A s.heap H locs) (hL : lh ad sp nL ls la)
    (hN : ∀ pc' ls' st' mem', o = .inr (pc', ls', st', mem') → Wat p l e R s m args below meth c cells slots Q D ad sp cI cO A nL pc' ls' st' mem')
    (hR : ∀ r, arets i rt st = some r → o = .inl (r, mem) → W p l e R s m args below meth c H locs cells slots Q (F0 m pc la (st.map (tr ad sp)))) : W p l e R s m args below meth c H locs cells slots Q (F0 m pc la (st.map (tr ad sp))) := by
  obtain ⟨⟨hsp, hx, hb, hml⟩, ⟨hown, hts, hKX, hAD⟩, ⟨hcs, hcall, hinj⟩⟩ := id hB
  have hA : ∀ i, i < 44 → A (ad i) := fun i hi => hAD _ ⟨i, hi, rfl⟩
  have hD : va_D A (wd ad sp cI cO mem) := wd_D hinj hA mem
  have ty0 : (tyW cI cO)[0]? = some (cI, .int) := rfl
  have ty1 : (tyW cI cO)[1]? = some (cO, .object RX0) := rfl
  have lhm : la.size = nL := hL.2.1
  cases i with
  | iconst n =>
    have hl : len = _ := hlen
    simp only [wlen] at hl
    subst hl
    cases h
    exact lv_iconst hx hb hdg rfl (hN _ _ _ _ rfl H locs la hP hS hL)
  | bipush n =>
    have hl : len = _ := hlen
    simp only [wlen] at hl
    subst hl
    cases h
    exact lv_bipush hx hb hdg rfl (hN _ _ _ _ rfl H locs la hP hS hL)
  | sipush n =>
    have hl : len = _ := hlen
    simp only [wlen] at hl
    subst hl
    cases h
    exact lv_sipush hx hb hdg rfl (hN _ _ _ _ rfl H locs la hP hS hL)
  | lconst n =>
    have hl : len = _ := hlen
    simp only [wlen] at hl
    subst hl
    cases h
    exact lv_lconst hx hb hdg rfl (hN _ _ _ _ rfl H locs la hP hS hL)
  | iload_n k =>
    have hl : len = _ := hlen
    simp only [wlen] at hl
    subst hl
    obtain ⟨x, h1, rfl⟩ := ab_iload hB hL h
    exact lv_iload_n hx hb hdg rfl h1 (hN _ _ _ _ rfl H locs la hP hS hL)
  | iload k =>
    have hl : len = _ := hlen
    simp only [wlen] at hl
    subst hl
    obtain ⟨x, h1, rfl⟩ := ab_iload hB hL h
    exact lv_iload hx hb hdg h1 (hN _ _ _ _ rfl H locs la hP hS hL)
  | lload_n k =>
    have hl : len = _ := hlen
    simp only [wlen] at hl
    subst hl
    obtain ⟨x, h1, rfl⟩ := ab_lload hB hL h
    exact lv_lload_n hx hb hdg rfl h1 (hN _ _ _ _ rfl H locs la hP hS hL)
  | lload k =>
    have hl : len = _ := hlen
    simp only [wlen] at hl
    subst hl
    obtain ⟨x, h1, rfl⟩ := ab_lload hB hL h
    exact lv_lload hx hb hdg h1 (hN _ _ _ _ rfl H locs la hP hS hL)
  | aload_n k =>
    have hl : len = _ := hlen
    simp only [wlen] at hl
    subst hl
    obtain ⟨x, h1, rfl⟩ := ab_aload hB hL h
    have fin := hN _ _ _ _ rfl H locs la hP hS hL
    rw [List.map_cons] at fin
    generalize hz : tr ad sp (.ref x) = z at h1 fin
    have hz2 := tr_ref_or (ad := ad) hsp x
    rw [hz] at hz2
    rcases hz2 with rfl | ⟨q, rfl⟩
    · exact lv_aload_nN hx hb hdg rfl h1 fin
    · exact lv_aload_n hx hb hdg rfl h1 fin
  | istore_n k =>
    have hl : len = _ := hlen
    simp only [wlen] at hl
    subst hl
    obtain ⟨v, rest, rfl, hok, hle, rfl⟩ := ab_store h
    obtain ⟨x, rfl⟩ := isI_of hok
    have hle2 : (k : Nat) + 1 ≤ ls.length := hle
    exact lv_istore_n (lv := asl ad sp ls) hx hb hdg rfl hL.2 (by have := hL.1; omega) rfl (fun la' hl' => hN _ _ _ _ rfl H locs la' hP hS (lh_set1 hsp hL.1 hl'))
  | lstore_n k =>
    have hl : len = _ := hlen
    simp only [wlen] at hl
    subst hl
    obtain ⟨v, rest, rfl, hok, hle, rfl⟩ := ab_store h
    obtain ⟨x, rfl⟩ := isL_of hok
    have hle2 : (k : Nat) + 2 ≤ ls.length := hle
    exact lv_lstore_n (lv := asl ad sp ls) hx hb hdg rfl hL.2 (by have := hL.1; omega) rfl (fun la' hl' => hN _ _ _ _ rfl H locs la' hP hS (lh_set2 hsp rfl hL.1 hl'))
  | astore_n k =>
    have hl : len = _ := hlen
    simp only [wlen] at hl
    subst hl
    obtain ⟨v, rest, rfl, hok, hle, rfl⟩ := ab_store h
    obtain ⟨x, rfl⟩ := isR_of hok
    have hle2 : (k : Nat) + 1 ≤ ls.length := hle
    have fin : ∀ la', lv_has la' nL (((k : Nat), tr ad sp (.ref x)) :: (asl ad sp ls).filter (fun q => !(q.1 == (k : Nat)) && !(q.1 + 1 == (k : Nat) && q.2.category == 2))) → _ := fun la' hl' => hN _ _ _ _ rfl H locs la' hP hS (lh_set1 hsp hL.1 hl')
    rw [List.map_cons]
    generalize hz : tr ad sp (.ref x) = z at fin
    have hz2 := tr_ref_or (ad := ad) hsp x
    rw [hz] at hz2
    rcases hz2 with rfl | ⟨q, rfl⟩
    · exact lv_astore_nN (lv := asl ad sp ls) hx hb hdg rfl hL.2 (by have := hL.1; omega) rfl fin
    · exact lv_astore_n (lv := asl ad sp ls) hx hb hdg rfl hL.2 (by have := hL.1; omega) rfl fin
  | aload k =>
    have hl : len = _ := hlen
    simp only [wlen] at hl
    subst hl
    obtain ⟨x, h1, rfl⟩ := ab_aload hB hL h
    have fin := hN _ _ _ _ rfl H locs la hP hS hL
    rw [List.map_cons] at fin
    generalize hz : tr ad sp (.ref x) = z at h1 fin
    have hz2 := tr_ref_or (ad := ad) hsp x
    rw [hz] at hz2
    rcases hz2 with rfl | ⟨q, rfl⟩
    · exact lv_aloadN hx hb hdg h1 fin
    · exact lv_aload hx hb hdg h1 fin
  | istore k =>
    have hl : len = _ := hlen
    simp only [wlen] at hl
    subst hl
    obtain ⟨v, rest, rfl, hok, hle, rfl⟩ := ab_store h
    obtain ⟨x, rfl⟩ := isI_of hok
    have hle2 : (k : Nat) + 1 ≤ ls.length := hle
    exact lv_istore (lv := asl ad sp ls) hx hb hdg hL.2 (by have := hL.1; omega) rfl (fun la' hl' => hN _ _ _ _ rfl H locs la' hP hS (lh_set1 hsp hL.1 hl'))
  | lstore k =>
    have hl : len = _ := hlen
    simp only [wlen] at hl
    subst hl
    obtain ⟨v, rest, rfl, hok, hle, rfl⟩ := ab_store h
    obtain ⟨x, rfl⟩ := isL_of hok
    have hle2 : (k : Nat) + 2 ≤ ls.length := hle
    exact lv_lstore (lv := asl ad sp ls) hx hb hdg hL.2 (by have := hL.1; omega) rfl (fun la' hl' => hN _ _ _ _ rfl H locs la' hP hS (lh_set2 hsp rfl hL.1 hl'))
  | astore k =>
    have hl : len = _ := hlen
    simp only [wlen] at hl
    subst hl
    obtain ⟨v, rest, rfl, hok, hle, rfl⟩ := ab_store h
    obtain ⟨x, rfl⟩ := isR_of hok
    have hle2 : (k : Nat) + 1 ≤ ls.length := hle
    have fin : ∀ la', lv_has la' nL (((k : Nat), tr ad sp (.ref x)) :: (asl ad sp ls).filter (fun q => !(q.1 == (k : Nat)) && !(q.1 + 1 == (k : Nat) && q.2.category == 2))) → _ := fun la' hl' => hN _ _ _ _ rfl H locs la' hP hS (lh_set1 hsp hL.1 hl')
    rw [List.map_cons]
    generalize hz : tr ad sp (.ref x) = z at fin
    have hz2 := tr_ref_or (ad := ad) hsp x
    rw [hz] at hz2
    rcases hz2 with rfl | ⟨q, rfl⟩
    · exact lv_astoreN (lv := asl ad sp ls) hx hb hdg hL.2 (by have := hL.1; omega) rfl fin
    · exact lv_astore (lv := asl ad sp ls) hx hb hdg hL.2 (by have := hL.1; omega) rfl fin
  | iinc k n =>
    have hl : len = _ := hlen
    simp only [wlen] at hl
    subst hl
    simp only [aex] at h
    split at h
    next x hk =>
      cases h
      have h1 : ls[k]? = some (some (.int x)) := by
        unfold aget at hk
        split at hk
        next w hw => cases hk; exact hw
        next => cases hk
      obtain ⟨q, hq⟩ := List.getElem?_of_mem (asl_in (ad := ad) (sp := sp) h1)
      have hlt := (List.getElem?_eq_some_iff.mp h1).1
      exact lv_iinc (lv := asl ad sp ls) hx hb hdg hL.2 hq rfl (by have := hL.1; omega) rfl (fun la' hl' => hN _ _ _ _ rfl H locs la' hP hS (lh_set1 (v := .int (x + Int32.ofInt n)) hsp hL.1 hl'))
    next => cases h
  | iadd =>
    have hl : len = _ := hlen
    simp only [wlen] at hl
    subst hl
    obtain ⟨x, y, rest, rfl, rfl⟩ := abin_of h
    exact lv_iadd hx hb hdg (hN _ _ _ _ rfl H locs la hP hS hL)
  | isub =>
    have hl : len = _ := hlen
    simp only [wlen] at hl
    subst hl
    obtain ⟨x, y, rest, rfl, rfl⟩ := abin_of h
    exact lv_isub hx hb hdg (hN _ _ _ _ rfl H locs la hP hS hL)
  | imul =>
    have hl : len = _ := hlen
    simp only [wlen] at hl
    subst hl
    obtain ⟨x, y, rest, rfl, rfl⟩ := abin_of h
    exact lv_imul hx hb hdg (hN _ _ _ _ rfl H locs la hP hS hL)
  | iand =>
    have hl : len = _ := hlen
    simp only [wlen] at hl
    subst hl
    obtain ⟨x, y, rest, rfl, rfl⟩ := abin_of h
    exact lv_iand hx hb hdg (hN _ _ _ _ rfl H locs la hP hS hL)
  | ior =>
    have hl : len = _ := hlen
    simp only [wlen] at hl
    subst hl
    obtain ⟨x, y, rest, rfl, rfl⟩ := abin_of h
    exact lv_ior hx hb hdg (hN _ _ _ _ rfl H locs la hP hS hL)
  | ishl =>
    have hl : len = _ := hlen
    simp only [wlen] at hl
    subst hl
    obtain ⟨x, y, rest, rfl, rfl⟩ := abin_of h
    exact lv_ishl hx hb hdg (hN _ _ _ _ rfl H locs la hP hS hL)
  | ishr =>
    have hl : len = _ := hlen
    simp only [wlen] at hl
    subst hl
    obtain ⟨x, y, rest, rfl, rfl⟩ := abin_of h
    exact lv_ishr hx hb hdg (hN _ _ _ _ rfl H locs la hP hS hL)
  | iushr =>
    have hl : len = _ := hlen
    simp only [wlen] at hl
    subst hl
    obtain ⟨x, y, rest, rfl, rfl⟩ := abin_of h
    exact lv_iushr hx hb hdg rfl (hN _ _ _ _ rfl H locs la hP hS hL)
  | ladd =>
    have hl : len = _ := hlen
    simp only [wlen] at hl
    subst hl
    obtain ⟨x, y, rest, rfl, rfl⟩ := abinL_of h
    exact lv_ladd hx hb hdg (hN _ _ _ _ rfl H locs la hP hS hL)
  | lsub =>
    have hl : len = _ := hlen
    simp only [wlen] at hl
    subst hl
    obtain ⟨x, y, rest, rfl, rfl⟩ := abinL_of h
    exact lv_lsub hx hb hdg (hN _ _ _ _ rfl H locs la hP hS hL)
  | lmul =>
    have hl : len = _ := hlen
    simp only [wlen] at hl
    subst hl
    obtain ⟨x, y, rest, rfl, rfl⟩ := abinL_of h
    exact lv_lmul hx hb hdg (hN _ _ _ _ rfl H locs la hP hS hL)
  | idiv =>
    have hl : len = _ := hlen
    simp only [wlen] at hl
    subst hl
    obtain ⟨x, y, rest, rfl, hy, rfl⟩ := adiv_of h
    exact lv_idiv hx hb hdg hy (hN _ _ _ _ rfl H locs la hP hS hL)
  | irem =>
    have hl : len = _ := hlen
    simp only [wlen] at hl
    subst hl
    obtain ⟨x, y, rest, rfl, hy, rfl⟩ := adiv_of h
    exact lv_irem hx hb hdg hy (hN _ _ _ _ rfl H locs la hP hS hL)
  | ldiv =>
    have hl : len = _ := hlen
    simp only [wlen] at hl
    subst hl
    obtain ⟨x, y, rest, rfl, hy, rfl⟩ := adivL_of h
    exact lv_ldiv hx hb hdg hy (hN _ _ _ _ rfl H locs la hP hS hL)
  | lrem =>
    have hl : len = _ := hlen
    simp only [wlen] at hl
    subst hl
    obtain ⟨x, y, rest, rfl, hy, rfl⟩ := adivL_of h
    exact lv_lrem hx hb hdg hy (hN _ _ _ _ rfl H locs la hP hS hL)
  | ineg =>
    have hl : len = _ := hlen
    simp only [wlen] at hl
    subst hl
    simp only [aex] at h
    split at h
    next => cases h; exact lv_ineg hx hb hdg (hN _ _ _ _ rfl H locs la hP hS hL)
    next => cases h
  | i2l =>
    have hl : len = _ := hlen
    simp only [wlen] at hl
    subst hl
    simp only [aex] at h
    split at h
    next => cases h; exact lv_i2l hx hb hdg rfl (hN _ _ _ _ rfl H locs la hP hS hL)
    next => cases h
  | i2c =>
    have hl : len = _ := hlen
    simp only [wlen] at hl
    subst hl
    simp only [aex] at h
    split at h
    next => cases h; exact lv_i2c hx hb hdg rfl (hN _ _ _ _ rfl H locs la hP hS hL)
    next => cases h
  | i2b =>
    have hl : len = _ := hlen
    simp only [wlen] at hl
    subst hl
    simp only [aex] at h
    split at h
    next => cases h; exact lv_i2b hx hb hdg rfl (hN _ _ _ _ rfl H locs la hP hS hL)
    next => cases h
  | lcmp =>
    have hl : len = _ := hlen
    simp only [wlen] at hl
    subst hl
    simp only [aex] at h
    split at h
    next => cases h; exact W.lcmp hx hb hdg (hN _ _ _ _ rfl H locs la hP hS hL)
    next => cases h
  | dup =>
    have hl : len = _ := hlen
    simp only [wlen] at hl
    subst hl
    simp only [aex] at h
    split at h
    next =>
      split at h
      next hc => cases h; exact lv_dup hx hb hdg (by rw [tr_cat hsp]; exact hc) (hN _ _ _ _ rfl H locs la hP hS hL)
      next => cases h
    next => cases h
  | pop =>
    have hl : len = _ := hlen
    simp only [wlen] at hl
    subst hl
    simp only [aex] at h
    split at h
    next =>
      split at h
      next hc => cases h; exact lv_pop hx hb hdg (by rw [tr_cat hsp]; exact hc) (hN _ _ _ _ rfl H locs la hP hS hL)
      next => cases h
    next => cases h
  | dup2 =>
    have hl : len = _ := hlen
    simp only [wlen] at hl
    subst hl
    simp only [aex] at h
    split at h
    next =>
      split at h
      next hc => cases h; exact lv_dup2_11 hx hb hdg (by rw [tr_cat hsp]; exact hc.1) (by rw [tr_cat hsp]; exact hc.2) (hN _ _ _ _ rfl H locs la hP hS hL)
      next => cases h
    next => cases h
  | ifCond cnd off =>
    have hl : len = _ := hlen
    simp only [wlen] at hl
    subst hl
    simp only [aex] at h
    split at h
    next _ x rest =>
      split at h
      next t ht0 =>
        have ht := ajmp_of ht0
        cases cnd <;> simp only [acnd, decide_eq_true_eq] at h
        · split at h
          next hc => cases h; exact lv_if_eq hx hb hdg ht (fun _ => hN _ _ _ _ rfl H locs la hP hS hL) (fun q => absurd hc q)
          next hc => cases h; exact lv_if_eq hx hb hdg ht (fun q => absurd q hc) (fun _ => hN _ _ _ _ rfl H locs la hP hS hL)
        · split at h
          next hc => cases h; exact lv_if_ne hx hb hdg ht (fun _ => hN _ _ _ _ rfl H locs la hP hS hL) (fun q => absurd q hc)
          next hc => cases h; exact lv_if_ne hx hb hdg ht (fun q => absurd q hc) (fun _ => hN _ _ _ _ rfl H locs la hP hS hL)
        · split at h
          next hc => cases h; exact lv_if_lt hx hb hdg ht (fun _ => hN _ _ _ _ rfl H locs la hP hS hL) (fun q => absurd hc q)
          next hc => cases h; exact lv_if_lt hx hb hdg ht (fun q => absurd q hc) (fun _ => hN _ _ _ _ rfl H locs la hP hS hL)
        · split at h
          next hc => cases h; exact lv_if_ge hx hb hdg ht (fun _ => hN _ _ _ _ rfl H locs la hP hS hL) (fun q => absurd hc q)
          next hc => cases h; exact lv_if_ge hx hb hdg ht (fun q => absurd q hc) (fun _ => hN _ _ _ _ rfl H locs la hP hS hL)
        · split at h
          next hc => cases h; exact lv_if_gt hx hb hdg ht (fun _ => hN _ _ _ _ rfl H locs la hP hS hL) (fun q => absurd hc q)
          next hc => cases h; exact lv_if_gt hx hb hdg ht (fun q => absurd q hc) (fun _ => hN _ _ _ _ rfl H locs la hP hS hL)
        · split at h
          next hc => cases h; exact lv_if_le hx hb hdg ht (fun _ => hN _ _ _ _ rfl H locs la hP hS hL) (fun q => absurd hc q)
          next hc => cases h; exact lv_if_le hx hb hdg ht (fun q => absurd q hc) (fun _ => hN _ _ _ _ rfl H locs la hP hS hL)
      next => cases h
    next => cases h
  | if_icmp cnd off =>
    have hl : len = _ := hlen
    simp only [wlen] at hl
    subst hl
    simp only [aex] at h
    split at h
    next _ y x rest =>
      split at h
      next t ht0 =>
        have ht := ajmp_of ht0
        cases cnd <;> simp only [acnd, decide_eq_true_eq] at h
        · split at h
          next hc => cases h; exact lv_icmp_eq hx hb hdg ht (fun _ => hN _ _ _ _ rfl H locs la hP hS hL) (fun q => absurd hc q)
          next hc => cases h; exact lv_icmp_eq hx hb hdg ht (fun q => absurd q hc) (fun _ => hN _ _ _ _ rfl H locs la hP hS hL)
        · split at h
          next hc => cases h; exact lv_icmp_ne hx hb hdg ht (fun _ => hN _ _ _ _ rfl H locs la hP hS hL) (fun q => absurd q hc)
          next hc => cases h; exact lv_icmp_ne hx hb hdg ht (fun q => absurd q hc) (fun _ => hN _ _ _ _ rfl H locs la hP hS hL)
        · split at h
          next hc => cases h; exact lv_icmp_lt hx hb hdg ht (fun _ => hN _ _ _ _ rfl H locs la hP hS hL) (fun q => absurd hc q)
          next hc => cases h; exact lv_icmp_lt hx hb hdg ht (fun q => absurd q hc) (fun _ => hN _ _ _ _ rfl H locs la hP hS hL)
        · split at h
          next hc => cases h; exact lv_icmp_ge hx hb hdg ht (fun _ => hN _ _ _ _ rfl H locs la hP hS hL) (fun q => absurd hc q)
          next hc => cases h; exact lv_icmp_ge hx hb hdg ht (fun q => absurd q hc) (fun _ => hN _ _ _ _ rfl H locs la hP hS hL)
        · split at h
          next hc => cases h; exact lv_icmp_gt hx hb hdg ht (fun _ => hN _ _ _ _ rfl H locs la hP hS hL) (fun q => absurd hc q)
          next hc => cases h; exact lv_icmp_gt hx hb hdg ht (fun q => absurd q hc) (fun _ => hN _ _ _ _ rfl H locs la hP hS hL)
        · split at h
          next hc => cases h; exact lv_icmp_le hx hb hdg ht (fun _ => hN _ _ _ _ rfl H locs la hP hS hL) (fun q => absurd hc q)
          next hc => cases h; exact lv_icmp_le hx hb hdg ht (fun q => absurd q hc) (fun _ => hN _ _ _ _ rfl H locs la hP hS hL)
      next => cases h
    next => cases h
  | goto off =>
    have hl : len = _ := hlen
    simp only [wlen] at hl
    subst hl
    obtain ⟨t, ht, rfl⟩ := ajm_of h
    exact lv_goto hx hb hdg ht (hN _ _ _ _ rfl H locs la hP hS hL)
  | ifnonnull off =>
    have hl : len = _ := hlen
    simp only [wlen] at hl
    subst hl
    simp only [aex] at h
    split at h
    next _ x rest =>
      split at h
      next => cases h
      next h99 =>
        obtain ⟨t, ht, rfl⟩ := ajm_of h
        have hz : tr ad sp (.ref x) = .ref (ad x) := if_neg h99
        rw [List.map_cons, hz]
        exact lv_ifnonnull hx hb hdg ht (hN _ _ _ _ rfl H locs la hP hS hL)
    next => cases h
  | lookupswitch dflt ps =>
    simp only [aex] at h
    split at h
    next _ x rest =>
      split at h
      next hz =>
        obtain ⟨t, ht, rfl⟩ := ajm_of h
        exact lv_lookup hx hb hdg hz rfl ht (hN _ _ _ _ rfl H locs la hP hS hL)
      next => cases h
    next => cases h
  | tableswitch dflt lo hi offs =>
    simp only [aex] at h
    split at h
    next _ x rest =>
      split at h
      next hz =>
        obtain ⟨t, ht, rfl⟩ := ajm_of h
        exact lv_tableOut hx hb hdg hz ht (hN _ _ _ _ rfl H locs la hP hS hL)
      next hz =>
        split at h
        next off ho =>
          obtain ⟨t, ht, rfl⟩ := ajm_of h
          exact lv_tableIn hx hb hdg (fun q => hz (Or.inl q)) (fun q => hz (Or.inr q)) ho ht (hN _ _ _ _ rfl H locs la hP hS hL)
        next => cases h
    next => cases h
  | ldc k =>
    have hl : len = _ := hlen
    simp only [wlen] at hl
    subst hl
    simp only [aex] at h
    split at h
    next v hv => cases h; exact lv_ldc hx hb hown (hts _ (bw (iok _ (lk2_mem hv)) rfl)) hdg (hN _ _ _ _ rfl H locs la hP hS hL)
    next =>
      split at h
      next i hi =>
        cases h
        obtain ⟨x1, x2, x3⟩ := xok _ (lk2_mem hi)
        dsimp only at x1 x2 x3
        have fin := hN _ _ _ _ rfl H locs la hP hS hL
        rw [List.map_cons, tr_ref (show 50 + i < 99 by omega)] at fin
        subst x1
        subst x3
        exact va_ldcS hx hb hown (hKX.2.2.2.1 i x2) hdg fin
      next => cases h
  | ldc_w k =>
    have hl : len = _ := hlen
    simp only [wlen] at hl
    subst hl
    simp only [aex] at h
    split at h
    next v hv => cases h; exact lv_ldcw hx hb hown (hts _ (bw (iok _ (lk2_mem hv)) rfl)) hdg (hN _ _ _ _ rfl H locs la hP hS hL)
    next => cases h
  | ldc2_w k =>
    have hl : len = _ := hlen
    simp only [wlen] at hl
    subst hl
    simp only [aex] at h
    split at h
    next v hv => cases h; exact lv_ldc2 hx hb hown (hts _ (bw (lok _ (lk2_mem hv)) rfl)) hdg (hN _ _ _ _ rfl H locs la hP hS hL)
    next => cases h
  | getstatic k =>
    have hl : len = _ := hlen
    simp only [wlen] at hl
    subst hl
    simp only [aex] at h
    split at h
    next hz =>
      cases h
      obtain ⟨rfl, rfl⟩ := hz
      exact va_gets (ref := RJ0) hx hb hKX.2.2.2.2.1 hS hown (hts _ (bw wfS rfl)) (fun _ h => h) hdg (hN _ _ _ _ rfl H locs la hP hS hL)
    next =>
      split at h
      next hz =>
        cases h
        obtain ⟨rfl, rfl⟩ := hz
        exact va_gets (ref := RJ3) hx hb hKX.2.2.2.2.2.1 hS hown (hts _ (bw wfF rfl)) (fun _ h => h) hdg (hN _ _ _ _ rfl H locs la hP hS hL)
      next => cases h
  | getfield k =>
    have hl : len = _ := hlen
    simp only [wlen] at hl
    subst hl
    simp only [aex] at h
    split at h
    next _ x rest =>
      split at h
      next ci f hf =>
        split at h
        next hz =>
          cases h
          obtain ⟨z1, z2⟩ := hz
          obtain ⟨⟨g1, g2⟩, g3, g4⟩ := fok _ (lk2_mem hf)
          dsimp only at g1 g2 g3 g4
          have he := wd_at (ad := ad) (sp := sp) (cI := cI) (cO := cO) (mem := mem) z2
          rw [sh_o z1 g4] at he
          rw [List.map_cons, tr_ref (n44 z2)]
          exact va_get (ref := cn ci) hx hb hts (inTT g4) hown hKX.1 hP x he (vwCl_at g4) f g3 (hts _ (bw g1 rfl)) (fun y hy => by rw [g2] at hy; exact hy) (v := tr ad sp (fv ci f x mem)) (by rw [List.getElem?_map, List.getElem?_range g3]; rfl) hdg (hN _ _ _ _ rfl H locs la hP hS hL)
        next => cases h
      next =>
        split at h
        next hz =>
          obtain ⟨rfl, z2⟩ := hz
          have hs := ks_of hKX.2.2.1 z2
          rw [List.map_cons, tr_ref (k7_99 z2)]
          split at h
          next hk =>
            cases h
            subst hk
            have fin := hN _ _ _ _ rfl H locs la hP hS hL
            rw [List.map_cons, tr_ref (k7_v z2)] at fin
            exact vk_getf (ref := RJ0) hx hb hs.2 hS hown (hts _ (bw wfV rfl)) (fun _ h => h) hdg fin
          next =>
            split at h
            next hk =>
              cases h
              subst hk
              exact vk_getf (ref := RJ0) hx hb hs.1 hS hown (hts _ (bw wfC rfl)) (fun _ h => h) hdg (hN _ _ _ _ rfl H locs la hP hS hL)
            next => cases h
        next => cases h
    next => cases h
  | putfield k =>
    have hl : len = _ := hlen
    simp only [wlen] at hl
    subst hl
    simp only [aex] at h
    split at h
    next _ v x rest =>
      split at h
      next ci f hf =>
        split at h
        next hz =>
          cases h
          obtain ⟨⟨z1, z2⟩, z3, z4⟩ := hz
          obtain ⟨⟨g1, g2⟩, g3, g4⟩ := fok _ (lk2_mem hf)
          dsimp only at g1 g2 g3 g4
          have he := wd_at (ad := ad) (sp := sp) (cI := cI) (cO := cO) (mem := mem) z2
          rw [sh_o z1 g4] at he
          rw [List.map_cons, List.map_cons, tr_ref (n44 z2)]
          obtain ⟨t1, t2, t3, t4⟩ := tt_int g4 g3 z3 z4
          refine va_put (ref := cn ci) hx hb hts (inTT g4) (tyT ci) (tyT_ok g4) (nmT g4) hown hKX.1 hP hD hS x he (vwCl_at g4) f g3 (hts _ (bw g1 rfl)) (fun y hy => by rw [g2] at hy; exact hy) t1 t2 t3 t4 (by simpa using g3) hdg (fun H1 locs1 q1 q2 q3 => ?_)
          have hset : (wd ad sp cI cO mem).set x (ad x, .inr (ci, ((List.range (nfT ci)).map (fun k => tr ad sp (fv ci k x mem))).set f (.int v))) = wd ad sp cI cO (mset mem x f v) := by
            refine wd_set z2 ?_
            rw [sh_o z1 g4]
            refine congrArg (fun z => (Sum.inr (ci, z) : va_E)) ?_
            refine List.ext_getElem? fun i => ?_
            by_cases hi : i < nfT ci
            · rw [List.getElem?_map, List.getElem?_range hi]
              by_cases hif : i = f
              · subst hif
                rw [List.getElem?_set_self (by simpa using hi)]
                simp only [Option.map_some, fv, z3, mset_eq, upd, if_true]
                rfl
              · rw [List.getElem?_set_ne (fun q => hif q.symm), List.getElem?_map, List.getElem?_range hi]
                simp only [Option.map_some, fv, mset_eq, upd, if_neg hif]
            · rw [List.getElem?_eq_none (by simp; omega), List.getElem?_eq_none (by simp; omega)]
          rw [show tr ad sp (Value.int v) = Value.int v from rfl, hset] at q1
          exact hN _ _ _ _ rfl H1 locs1 la q1 q3 hL
        next => cases h
      next => cases h
    next => cases h
  | iaload =>
    have hl : len = _ := hlen
    simp only [wlen] at hl
    subst hl
    simp only [aex] at h
    split at h
    next _ i x rest =>
      split at h
      next hz =>
        cases h
        obtain ⟨⟨z1, z2⟩, z3⟩ := hz
        have he := wd_at (ad := ad) (sp := sp) (cI := cI) (cO := cO) (mem := mem) z2
        rw [sh_5 z1] at he
        rw [List.map_cons, List.map_cons, tr_ref (n44 z2)]
        exact va_iald hx hb hKX.1 hP x 0 he ty0 z3 hdg (hN _ _ _ _ rfl H locs la hP hS hL)
      next =>
        split at h
        next hz =>
          cases h
          obtain ⟨rfl, z3⟩ := hz
          obtain ⟨w1, w2, w3⟩ := hKX.2.2.2.2.2.2
          rw [List.map_cons, List.map_cons, tr_ref (by omega)]
          exact va_sld hx hb w1 w2 w3 hS z3 hdg (hN _ _ _ _ rfl H locs la hP hS hL)
        next => cases h
    next => cases h
  | iastore =>
    have hl : len = _ := hlen
    simp only [wlen] at hl
    subst hl
    simp only [aex] at h
    split at h
    next _ v i x rest =>
      split at h
      next hz =>
        cases h
        obtain ⟨⟨z1, z2⟩, z3⟩ := hz
        have he := wd_at (ad := ad) (sp := sp) (cI := cI) (cO := cO) (mem := mem) z2
        rw [sh_5 z1] at he
        rw [List.map_cons, List.map_cons, List.map_cons, tr_ref (n44 z2)]
        refine va_iast hx hb hKX.1 hP hD hS x 0 he ty0 z3 hdg (fun H1 locs1 q1 q2 q3 => ?_)
        rw [wd_set z2 (by rw [sh_5 z1, mset_eq])] at q1
        exact hN _ _ _ _ rfl H1 locs1 la q1 q3 hL
      next => cases h
    next => cases h
  | aaload =>
    have hl : len = _ := hlen
    simp only [wlen] at hl
    subst hl
    simp only [aex] at h
    split at h
    next _ i x rest =>
      split at h
      next hz =>
        cases h
        obtain ⟨⟨z1, z2⟩, z3⟩ := hz
        have he := wd_at (ad := ad) (sp := sp) (cI := cI) (cO := cO) (mem := mem) z2
        rw [sh_6 z1] at he
        have hlt : i.toNatClampNeg < 7 := Nat.not_le.mp fun q => z3 (Or.inr q)
        have fin := hN _ _ _ _ rfl H locs la hP hS hL
        rw [List.map_cons, tr_ref (q7 z2 hlt)] at fin
        rw [List.map_cons, List.map_cons, tr_ref (n44 z2)]
        exact va_aldq hx hb hKX.1 hP x 1 he ty1 z3 hdg fin
      next => cases h
    next => cases h
  | baload =>
    have hl : len = _ := hlen
    simp only [wlen] at hl
    subst hl
    simp only [aex] at h
    split at h
    next _ i x rest =>
      split at h
      next hz =>
        cases h
        obtain ⟨z1, z3⟩ := hz
        have hs := kb_of hKX.2.2.1 z1
        rw [List.map_cons, List.map_cons, tr_ref (k8_99 z1)]
        exact va_tb hx hb hs hS z3 rfl hdg (hN _ _ _ _ rfl H locs la hP hS hL)
      next => cases h
    next => cases h
  | arraylength =>
    have hl : len = _ := hlen
    simp only [wlen] at hl
    subst hl
    simp only [aex] at h
    split at h
    next _ x rest =>
      split at h
      next hz =>
        cases h
        obtain ⟨z1, z2⟩ := hz
        have he := wd_at (ad := ad) (sp := sp) (cI := cI) (cO := cO) (mem := mem) z2
        rw [sh_5 z1] at he
        rw [List.map_cons, tr_ref (n44 z2)]
        exact va_alen hx hb hKX.1 hP x 0 he ty0 rfl hdg (hN _ _ _ _ rfl H locs la hP hS hL)
      next =>
        split at h
        next hz =>
          cases h
          obtain ⟨z1, z2⟩ := hz
          have he := wd_at (ad := ad) (sp := sp) (cI := cI) (cO := cO) (mem := mem) z2
          rw [sh_6 z1] at he
          rw [List.map_cons, tr_ref (n44 z2)]
          exact va_alen hx hb hKX.1 hP x 1 he ty1 rfl hdg (hN _ _ _ _ rfl H locs la hP hS hL)
        next =>
          split at h
          next z1 =>
            cases h
            have hs := kb_of hKX.2.2.1 z1
            rw [List.map_cons, tr_ref (k8_99 z1)]
            exact va_tlen hx hb hs hS rfl hdg (hN _ _ _ _ rfl H locs la hP hS hL)
          next =>
            split at h
            next hz =>
              cases h
              subst hz
              obtain ⟨w1, w2, w3⟩ := hKX.2.2.2.2.2.2
              rw [List.map_cons, tr_ref (by omega)]
              exact va_slen hx hb w1 w2 w3 hS hdg (hN _ _ _ _ rfl H locs la hP hS hL)
            next => cases h
    next => cases h
  | invokestatic k =>
    have hl : len = _ := hlen
    simp only [wlen] at hl
    subst hl
    simp only [aex] at h
    split at h
    next nst μ hs =>
      split at h
      next d hd =>
        split at h
        next hst => exact ab_calls hsp hx hb hml hown hts hKX hAD hcs hcall hdg hs hd hst h hP hS hL (fun a b c' d' q => hN a b c' d' q)
        next => cases h
      next => cases h
    next => cases h
  | invokevirtual k =>
    have hl : len = _ := hlen
    simp only [wlen] at hl
    subst hl
    simp only [aex] at h
    split at h
    next nst μ hs =>
      split at h
      next d hd =>
        split at h
        next hst => exact ab_callv hsp hx hb hml hown hts hKX hAD hcs hcall hdg hs hd hst.1 hst.2 h hP hS hL (fun a b c' d' q => hN a b c' d' q)
        next => cases h
      next => cases h
    next => cases h
  | ireturn =>
    simp only [aex] at h
    split at h
    next r hr => cases h; exact hR r hr rfl
    next => cases h
  | lreturn =>
    simp only [aex] at h
    split at h
    next r hr => cases h; exact hR r hr rfl
    next => cases h
  | areturn =>
    simp only [aex] at h
    split at h
    next r hr => cases h; exact hR r hr rfl
    next => cases h
  | return_ =>
    simp only [aex] at h
    split at h
    next r hr => cases h; exact hR r hr rfl
    next => cases h
  | _ =>
    simp only [aex, arets] at h
    cases h
end SND3
