section RUN
variable {p : Program} {l : Launch} {e : Env} {R : Room} {s : State} {m : MethodId} {args : Array Value} {below : List Frame} {meth : Method} {c : Code} {cells slots : Nat} {Q : State → Prop}
variable {D : va_G} {ad : Nat → Nat} {sp : Value} {cI cO : ClassId} {S : Sc} {A : Nat → Prop} {call : Cf} {own : Nat} {cc : ByteArray} {rt : Option FieldType} {nL : Nat}
/-- a whole run of a body: what it answers, the walk comes to -/
theorem ab_sound (hB : BodyOk p l R s m args c cells slots D ad sp cI cO S A call own cc nL) {r : Option Value} {mem' : Mm}
    (hR : ∀ (pc : Nat) (st : List Value) (i : Instr) (H : Heap) (locs : List Loc) (la : Array Slot), decode cc pc = .ok (i, 1) → arets i rt st = some r → va_P D vwCl (wd ad sp cI cO mem') H → va_S A s.heap H locs → W p l e R s m args below meth c H locs cells slots Q (F0 m pc la (st.map (tr ad sp)))) :
    ∀ (n pc : Nat) (ls : Lo) (st : List Value) (mem : Mm), aloop call S own cc rt n (pc, ls, st, mem) = some (r, mem') → Wat p l e R s m args below meth c cells slots Q D ad sp cI cO A nL pc ls st mem := by
  intro n
  induction n with
  | zero => intro pc ls st mem h; cases h
  | succ n ih =>
    intro pc ls st mem h H locs la hP hS hL
    unfold aloop at h
    have hst : ∃ o, astep call S own cc rt (pc, ls, st, mem) = some o := by
      cases hz : astep call S own cc rt (pc, ls, st, mem) with
      | none => rw [hz] at h; cases h
      | some o => exact ⟨o, rfl⟩
    obtain ⟨o, ho⟩ := hst
    rw [ho] at h
    unfold astep at ho
    dsimp only at ho
    split at ho
    next i len hdg =>
      split at ho
      next hlen =>
        refine ab_one hB hdg hlen ho hP hS hL (fun pc' ls' st' m' e1 => ?_) (fun r1 hr1 e1 => ?_)
        · subst e1
          exact ih pc' ls' st' m' h
        · subst e1
          have e2 : (r1, mem) = (r, mem') := by
            have : some (r1, mem) = some (r, mem') := h
            injection this
          injection e2 with e3 e4
          subst e3
          subst e4
          have hl1 : len = 1 := by
            rw [hlen]
            cases i <;> first | rfl | cases hr1
          subst hl1
          exact hR pc st i H locs la hdg hr1 hP hS
      next => cases ho
    next => cases ho
def rmD (d : Nat) : Room := { frames := d, cells := 0, slots := 0, locals := 34 * d }
theorem arets_ret {i : Instr} {st : List Value} {r : Option Value} (h : arets i rt st = some r) :
    (∃ v ty, i = .ireturn ∧ rt = some ty ∧ st = [.int v] ∧ r = some (.int v) ∧ narrow ty (.int v) = .int v ∧ (ty = .int ∨ ty = .boolean ∨ ty = .byte ∨ ty = .char)) ∨ (∃ v, i = .lreturn ∧ rt = some .long ∧ st = [.long v] ∧ r = some (.long v)) ∨ (∃ n o, i = .areturn ∧ rt = some (.object n) ∧ st = [.ref o] ∧ ¬ o = 99 ∧ r = some (.ref o)) ∨ (i = .return_ ∧ rt = none ∧ st = [] ∧ r = none) := by
  unfold arets at h
  split at h
  next =>
    refine Or.inl ?_
    unfold aret at h
    split at h
    next v => cases h; exact ⟨v, _, rfl, rfl, rfl, rfl, rfl, Or.inl rfl⟩
    next v =>
      split at h
      next hv =>
        cases h
        exact ⟨v, _, rfl, rfl, rfl, rfl, by rcases hv with rfl | rfl <;> rfl, Or.inr (Or.inl rfl)⟩
      next => cases h
    next v =>
      split at h
      next hv =>
        cases h
        exact ⟨v, _, rfl, rfl, rfl, rfl, by show Value.int v.toInt8.toInt32 = _; rw [hv], Or.inr (Or.inr (Or.inl rfl))⟩
      next => cases h
    next v =>
      split at h
      next hv =>
        cases h
        exact ⟨v, _, rfl, rfl, rfl, rfl, by show Value.int v.toUInt32.toUInt16.toUInt32.toInt32 = _; rw [hv], Or.inr (Or.inr (Or.inr rfl))⟩
      next => cases h
    next => cases h
  next v => cases h; exact Or.inr (Or.inl ⟨v, rfl, rfl, rfl, rfl⟩)
  next n o =>
    split at h
    next => cases h
    next hz => cases h; exact Or.inr (Or.inr (Or.inl ⟨n, o, rfl, rfl, rfl, hz, rfl⟩))
  next => cases h; exact Or.inr (Or.inr (Or.inr ⟨rfl, rfl, rfl, rfl⟩))
  next => cases h
set_option maxHeartbeats 4000000 in
/-- every call of the small machine is the machine's -/
theorem ab_met (l : Launch) (D : va_G) (ad : Nat → Nat) (sp : Value) (cI cO : ClassId) (S : Sc) (hsp : sp = .null ∨ ∃ a, sp = .ref a) (hinj : ∀ i j, i < 44 → j < 44 → ad i = ad j → i = j) :
    ∀ (d n : Nat) (R : Room), d ≤ R.frames → 34 * d ≤ R.locals → CallOk l R D ad sp cI cO S (arun S d n) := by
  intro d
  induction d with
  | zero => intro n R _ _ μ vs mem r mem' h; cases h
  | succ d ih =>
    intro n R hf hl μ vs mem r mem' h
    unfold arun at h
    by_cases hμ : μ < 3
    · rw [if_pos hμ] at h
      refine Or.inr ⟨hμ, ?_⟩
      split at h
      next r1 hr1 =>
        cases h
        exact ⟨hr1, rfl, by omega, by omega⟩
      next => cases h
    · rw [if_neg hμ] at h
      split at h
      next dd hd =>
        split at h
        next hw =>
          refine Or.inl ⟨by omega, dd, rmD d, hd, ?_, rfl, rfl, by show d + 1 ≤ _; exact hf, by show 34 + 34 * d ≤ _; omega⟩
          obtain ⟨⟨f1, f2⟩, ⟨f3, f4, f5⟩, f6, f7⟩ := mok dd (List.mem_of_getElem? hd)
          have hplain : plainName dd.y.cls = true := by
            rcases f4 with z | z
            · exfalso
              have key : ∀ k, k < 176 → 3 ≤ k → ∀ q, mTL[k]? = some q → ¬ q.own = 19 := by
                have h0 : ∀ q ∈ mTL.drop 3, ¬ q.own = 19 := by decide +kernel
                intro k _ hk q hq
                refine h0 q (List.mem_of_getElem? (i := k - 3) ?_)
                rw [List.getElem?_drop, show 3 + (k - 3) = k by omega]
                exact hq
              have hlt : μ < 176 := (List.getElem?_eq_some_iff.mp hd).1
              exact key μ hlt (by omega) dd hd z
            · exact z
          refine Met.ofW (cc := dd.c) (maxL := dd.ml) (ret := dd.rt) hplain rfl ?_
          intro p e s m args below meth c s₁ B hml hv
          obtain ⟨rfl, hP, hK⟩ := hv
          have hx := B.exec
          have hb := B.bytes
          have hr := B.returns
          have hts0 := atoms_spec (ws := wsM dd) B.pre
          have hts : ∀ w ∈ BW, w.before (vs.map (tr ad sp)).toArray s = true := fun w hw => hts0 w (List.mem_cons_of_mem _ hw)
          have hown : s.vm.findClass (cn dd.own) = some m.cls := by rw [← f3]; exact findClass_of_methodNamed B.named
          have hlocks := B.notSynchronized
          have hBO : BodyOk p l (rmD d) s m (vs.map (tr ad sp)).toArray c 0 0 D ad sp cI cO S (AD ad) (arun S d n) dd.own dd.c dd.ml := ⟨⟨hsp, hx, hb, hml⟩, ⟨hown, hts, hK, fun _ h => h⟩, ⟨Nat.zero_le _, Nat.zero_le _⟩, ih n (rmD d) (Nat.le_refl _) (Nat.le_refl _), hinj⟩
          have hle := lv_entry (vs.map (tr ad sp)) (n := dd.ml) (by rw [awd_sl hsp]; exact hw)
          rw [lg_entry_eq]
          generalize (lg_sl (vs.map (tr ad sp)) ++ List.replicate (dd.ml - (lg_sl (vs.map (tr ad sp))).length) Slot.unset).toArray = la at hle ⊢
          have hlh := lh_ent hsp hw hle
          refine ab_sound hBO (r := r) (mem' := mem') (rt := dd.rt) ?_ n 0 _ [] mem h s.heap [] la hP va_S.rf hlh
          intro pc st i H locs la' hdg hre hP' hS'
          have fin : ∀ t : State, t.heap = H → s.WarmedH t.vm → QC D ad sp cI cO r mem' (vs.map (tr ad sp)).toArray s (.returned (r.map (tr ad sp))) t := fun t ht _ => ⟨rfl, by rw [ht]; exact hP', hS'.F ht⟩
          rcases arets_ret hre with ⟨v, ty, rfl, e2, rfl, rfl, e5, e6⟩ | ⟨v, rfl, e2, rfl, rfl⟩ | ⟨nm, o, rfl, e2, rfl, e4, rfl⟩ | ⟨rfl, e2, rfl, rfl⟩
          · rcases e6 with rfl | rfl | rfl | rfl
            · exact W.iret hx hb (hr.trans e2) fin hS'.2.2 hdg
            · exact W.zret hx hb (hr.trans e2) e5 fin hS'.2.2 hdg
            · exact W.zret hx hb (hr.trans e2) e5 fin hS'.2.2 hdg
            · exact W.zret hx hb (hr.trans e2) e5 fin hS'.2.2 hdg
          · exact W.lret hx hb (hr.trans e2) fin hS'.2.2 hdg
          · exact W.aret hx hb (hr.trans e2) (Or.inl ⟨_, rfl⟩) (tr_ref_or hsp o) fin hS'.2.2 hdg
          · exact W.vret hx hb (hr.trans e2) fin hS'.2.2 hdg
        next => cases h
      next => cases h
end RUN
