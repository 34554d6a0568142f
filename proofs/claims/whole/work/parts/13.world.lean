/-! what stands in the heap for the small machine's memory -/
def tr (ad : Nat → Nat) (sp : Value) : Value → Value
  | .ref i => if i = 99 then sp else .ref (ad i)
  | v => v
theorem tr_cat {ad : Nat → Nat} {sp : Value} (hsp : sp = .null ∨ ∃ a, sp = .ref a) (v : Value) : (tr ad sp v).category = v.category := by
  cases v <;> try rfl
  rename_i i
  show (if i = 99 then sp else Value.ref (ad i)).category = 1
  by_cases h : i = 99
  · rw [if_pos h]
    rcases hsp with rfl | ⟨a, rfl⟩ <;> rfl
  · rw [if_neg h]; rfl
theorem tr_ref {ad : Nat → Nat} {sp : Value} {o : Nat} (h : o < 99) : tr ad sp (.ref o) = .ref (ad o) := by
  show (if o = 99 then sp else Value.ref (ad o)) = _
  rw [if_neg (by omega)]
def sh (ad : Nat → Nat) (sp : Value) (cI cO : ClassId) (mem : Mm) (o : Nat) : va_E := if kd o = 5 then .inl (cI, ln o, .inl (mem o)) else if kd o = 6 then .inl (cO, 7, .inr (.inr (.inr (.inr (fun j => some (ad (o + 1 + j))))))) else .inr (kd o, (List.range (nfT (kd o))).map (fun k => tr ad sp (fv (kd o) k o mem)))
theorem sh_5 {ad : Nat → Nat} {sp : Value} {cI cO : ClassId} {mem : Mm} {o : Nat} (h : kd o = 5) : sh ad sp cI cO mem o = .inl (cI, ln o, .inl (mem o)) := by rw [sh, if_pos h]
theorem sh_6 {ad : Nat → Nat} {sp : Value} {cI cO : ClassId} {mem : Mm} {o : Nat} (h : kd o = 6) : sh ad sp cI cO mem o = .inl (cO, 7, .inr (.inr (.inr (.inr (fun j => some (ad (o + 1 + j))))))) := by rw [sh, if_neg (by omega), if_pos h]
theorem sh_o {ad : Nat → Nat} {sp : Value} {cI cO : ClassId} {mem : Mm} {o ci : Nat} (h : kd o = ci) (h5 : ci < 5) : sh ad sp cI cO mem o = .inr (ci, (List.range (nfT ci)).map (fun k => tr ad sp (fv ci k o mem))) := by
  subst h
  rw [sh, if_neg (by omega), if_neg (by omega)]
theorem sh_eq {ad : Nat → Nat} {sp : Value} {cI cO : ClassId} {m1 m2 : Mm} {o : Nat} (h : m1 o = m2 o) : sh ad sp cI cO m1 o = sh ad sp cI cO m2 o := by
  simp only [sh, fv, h]
def wd (ad : Nat → Nat) (sp : Value) (cI cO : ClassId) (mem : Mm) : va_W := (List.range 44).map (fun o => (ad o, sh ad sp cI cO mem o))
theorem wd_at {ad : Nat → Nat} {sp : Value} {cI cO : ClassId} {mem : Mm} {o : Nat} (h : o < 44) : (wd ad sp cI cO mem)[o]? = some (ad o, sh ad sp cI cO mem o) := by
  rw [wd, List.getElem?_map, List.getElem?_range h]; rfl
theorem wd_of {ad : Nat → Nat} {sp : Value} {cI cO : ClassId} {mem : Mm} {k : Nat} {q : Nat × va_E} (h : (wd ad sp cI cO mem)[k]? = some q) : k < 44 ∧ q = (ad k, sh ad sp cI cO mem k) := by
  have hk : k < 44 := by
    have h1 := (List.getElem?_eq_some_iff.mp h).1
    simpa [wd] using h1
  refine ⟨hk, ?_⟩
  rw [wd_at hk] at h
  exact (Option.some.inj h).symm
theorem mset_ne {mem : Mm} {o k i : Nat} {v : Int32} (h : i ≠ o) : mset mem o k v i = mem i := by
  funext j; simp [mset, h]
theorem mset_eq {mem : Mm} {o k : Nat} {v : Int32} : mset mem o k v o = upd (mem o) k v := by
  funext j; simp [mset, upd]
theorem wd_set {ad : Nat → Nat} {sp : Value} {cI cO : ClassId} {mem : Mm} {o k : Nat} {v : Int32} {e : va_E} (h : o < 44) (he : sh ad sp cI cO (mset mem o k v) o = e) : (wd ad sp cI cO mem).set o (ad o, e) = wd ad sp cI cO (mset mem o k v) := by
  subst he
  refine List.ext_getElem? fun i => ?_
  by_cases hi : i < 44
  · rw [wd_at hi]
    by_cases ho : i = o
    · subst ho
      rw [List.getElem?_set_self (by simpa [wd] using hi)]
    · rw [List.getElem?_set_ne (fun z => ho z.symm), wd_at hi, sh_eq (mset_ne ho)]
  · have e1 : ∀ m1 : Mm, (wd ad sp cI cO m1).length = 44 := fun m1 => by simp [wd]
    rw [List.getElem?_eq_none (by rw [List.length_set, e1]; omega), List.getElem?_eq_none (by rw [e1]; omega)]
theorem wd_D {ad : Nat → Nat} {sp : Value} {cI cO : ClassId} {A : Nat → Prop} (hinj : ∀ i j, i < 44 → j < 44 → ad i = ad j → i = j) (hA : ∀ i, i < 44 → A (ad i)) (mem : Mm) : va_D A (wd ad sp cI cO mem) := by
  refine ⟨fun i j p q hi hj h => ?_, fun k q h => ?_⟩
  · obtain ⟨h1, rfl⟩ := wd_of hi
    obtain ⟨h2, rfl⟩ := wd_of hj
    exact hinj i j h1 h2 h
  · obtain ⟨h1, rfl⟩ := wd_of h
    exact hA k h1
/-- locals -/
def asl (ad : Nat → Nat) (sp : Value) (ls : Lo) : List (Nat × Value) := (List.range ls.length).filterMap (fun k => match ls[k]? with
  | some (some v) => some (k, tr ad sp v)
  | _ => none)
theorem asl_in {ad : Nat → Nat} {sp : Value} {ls : Lo} {k : Nat} {v : Value} (h : ls[k]? = some (some v)) : (k, tr ad sp v) ∈ asl ad sp ls := by
  refine List.mem_filterMap.mpr ⟨k, List.mem_range.mpr (List.getElem?_eq_some_iff.mp h).1, ?_⟩
  rw [h]
theorem asl_of {ad : Nat → Nat} {sp : Value} {ls : Lo} {q : Nat × Value} (h : q ∈ asl ad sp ls) : ∃ v, ls[q.1]? = some (some v) ∧ q.2 = tr ad sp v := by
  obtain ⟨k, -, hk⟩ := List.mem_filterMap.mp h
  split at hk
  next v hv => cases hk; exact ⟨v, hv, rfl⟩
  next => cases hk
def lh (ad : Nat → Nat) (sp : Value) (nL : Nat) (ls : Lo) (la : Array Slot) : Prop := ls.length = nL ∧ lv_has la nL (asl ad sp ls)
theorem lh_at {ad : Nat → Nat} {sp : Value} {nL : Nat} {ls : Lo} {la : Array Slot} (h : lh ad sp nL ls la) {k : Nat} {v : Value} (hk : aget ls k = some v) : la[k]? = some (.val (tr ad sp v)) := by
  have h1 : ls[k]? = some (some v) := by
    unfold aget at hk
    split at hk
    next w hw => cases hk; exact hw
    next => cases hk
  exact h.2.2.2 _ (asl_in h1)
theorem aset_0 (a : Option Value) (t : Lo) (v : Value) : aset (a :: t) 0 v = some v :: (if v.category = 2 then (match t with | [] => [] | _ :: t2 => none :: t2) else t) := rfl
theorem aset_s (a : Option Value) (t : Lo) (i : Nat) (v : Value) : aset (a :: t) (i + 1) v = (if i = 0 ∧ is2 a = true then none else a) :: aset t i v := rfl
theorem aset_len : ∀ (ls : Lo) (i : Nat) (v : Value), (aset ls i v).length = ls.length
  | [], i, v => by cases i <;> rfl
  | a :: t, 0, v => by
    rw [aset_0]
    by_cases h : v.category = 2
    · rw [if_pos h]; cases t <;> rfl
    · rw [if_neg h]; rfl
  | a :: t, i + 1, v => by
    rw [aset_s, List.length_cons, List.length_cons, aset_len t i v]
theorem aset_at : ∀ (ls : Lo) (i k : Nat) (v w : Value), (aset ls i v)[k]? = some (some w) → (k = i ∧ w = v) ∨ (k ≠ i ∧ ls[k]? = some (some w) ∧ ¬ (k + 1 = i ∧ w.category = 2) ∧ ¬ (v.category = 2 ∧ k = i + 1))
  | [], i, k, v, w, h => by cases i <;> simp [aset] at h
  | a :: t, 0, k, v, w, h => by
    rw [aset_0] at h
    cases k with
    | zero => simp at h; exact Or.inl ⟨rfl, h.symm⟩
    | succ k =>
      rw [List.getElem?_cons_succ] at h
      refine Or.inr ⟨by omega, ?_⟩
      rw [List.getElem?_cons_succ]
      by_cases hc : v.category = 2
      · rw [if_pos hc] at h
        cases t with
        | nil => simp at h
        | cons b t =>
          cases k with
          | zero => simp at h
          | succ k => exact ⟨by simpa using h, by omega, by omega⟩
      · rw [if_neg hc] at h
        exact ⟨h, by omega, fun z => hc z.1⟩
  | a :: t, i + 1, k, v, w, h => by
    rw [aset_s] at h
    cases k with
    | zero =>
      rw [List.getElem?_cons_zero] at h
      refine Or.inr ⟨by omega, ?_⟩
      rw [List.getElem?_cons_zero]
      by_cases hc : i = 0 ∧ is2 a = true
      · rw [if_pos hc] at h; simp at h
      · rw [if_neg hc] at h
        refine ⟨h, fun z => hc ⟨by omega, ?_⟩, by omega⟩
        have ha : a = some w := by simpa using h
        rw [ha]
        show (w.category == 2) = true
        rw [z.2]; rfl
    | succ k =>
      rw [List.getElem?_cons_succ] at h
      rcases aset_at t i k v w h with ⟨h1, h2⟩ | ⟨h1, h2, h3, h4⟩
      · exact Or.inl ⟨by omega, h2⟩
      · exact Or.inr ⟨by omega, by rw [List.getElem?_cons_succ]; exact h2, fun z => h3 ⟨by omega, z.2⟩, fun z => h4 ⟨z.1, by omega⟩⟩
theorem lh_set1 {ad : Nat → Nat} {sp : Value} (hsp : sp = .null ∨ ∃ a, sp = .ref a) {nL i : Nat} {ls : Lo} {la : Array Slot} {v : Value} (hlen : ls.length = nL) (h : lv_has la nL ((i, tr ad sp v) :: (asl ad sp ls).filter (fun q => !(q.1 == i) && !(q.1 + 1 == i && q.2.category == 2)))) : lh ad sp nL (aset ls i v) la := by
  refine ⟨by rw [aset_len]; exact hlen, h.1, h.2.1, fun q hq => ?_⟩
  obtain ⟨w, h1, h2⟩ := asl_of hq
  rcases aset_at ls i q.1 v w h1 with ⟨e1, e2⟩ | ⟨e1, e2, e3, -⟩
  · have := h.2.2 (i, tr ad sp v) List.mem_cons_self
    rw [h2, e1, e2]; exact this
  · have hm : q ∈ (asl ad sp ls).filter (fun q => !(q.1 == i) && !(q.1 + 1 == i && q.2.category == 2)) := by
      refine List.mem_filter.mpr ⟨?_, ?_⟩
      · have := asl_in (ad := ad) (sp := sp) e2
        rw [← h2] at this
        exact this
      · rw [h2, tr_cat hsp]
        by_cases c1 : q.1 + 1 = i
        · have : ¬ w.category = 2 := fun z => e3 ⟨c1, z⟩
          simp [e1, this]
        · simp [e1, c1]
    exact h.2.2 q (List.mem_cons_of_mem _ hm)
theorem lh_set2 {ad : Nat → Nat} {sp : Value} (hsp : sp = .null ∨ ∃ a, sp = .ref a) {nL i : Nat} {ls : Lo} {la : Array Slot} {v : Value} (hv : v.category = 2) (hlen : ls.length = nL) (h : lv_has la nL ((i, tr ad sp v) :: (asl ad sp ls).filter (fun q => !(q.1 == i) && (!(q.1 == i + 1) && !(q.1 + 1 == i && q.2.category == 2))))) : lh ad sp nL (aset ls i v) la := by
  refine ⟨by rw [aset_len]; exact hlen, h.1, h.2.1, fun q hq => ?_⟩
  obtain ⟨w, h1, h2⟩ := asl_of hq
  rcases aset_at ls i q.1 v w h1 with ⟨e1, e2⟩ | ⟨e1, e2, e3, e4⟩
  · have := h.2.2 (i, tr ad sp v) List.mem_cons_self
    rw [h2, e1, e2]; exact this
  · have hm : q ∈ (asl ad sp ls).filter (fun q => !(q.1 == i) && (!(q.1 == i + 1) && !(q.1 + 1 == i && q.2.category == 2))) := by
      refine List.mem_filter.mpr ⟨?_, ?_⟩
      · have := asl_in (ad := ad) (sp := sp) e2
        rw [← h2] at this
        exact this
      · rw [h2, tr_cat hsp]
        have c4 : ¬ q.1 = i + 1 := fun z => e4 ⟨hv, z⟩
        by_cases c1 : q.1 + 1 = i
        · have : ¬ w.category = 2 := fun z => e3 ⟨c1, z⟩
          simp [e1, this, c4]
        · simp [e1, c1, c4]
    exact h.2.2 q (List.mem_cons_of_mem _ hm)
theorem aent_len : ∀ (vs : List Value) (n : Nat), awd vs ≤ n → (aent n vs).length = n
  | [], n, _ => by simp [aent]
  | v :: vs, n, h => by
    have h1 : v.category + awd vs ≤ n := by simpa [awd] using h
    rw [aent]
    by_cases hc : v.category = 2
    · rw [if_pos hc, List.length_cons, List.length_cons, aent_len vs (n - 2) (by omega)]; omega
    · have hc1 : v.category = 1 := by rcases lv_cat v with z | z <;> omega
      rw [if_neg hc, List.length_cons, aent_len vs (n - 1) (by omega)]; omega
theorem aent_at {ad : Nat → Nat} {sp : Value} (hsp : sp = .null ∨ ∃ a, sp = .ref a) : ∀ (vs : List Value) (n b k : Nat) (w : Value), (aent n vs)[k]? = some (some w) → (b + k, tr ad sp w) ∈ lv_args b (vs.map (tr ad sp))
  | [], n, b, k, w, h => by
    rw [aent] at h
    have := List.eq_of_mem_replicate (List.mem_of_getElem? h)
    cases this
  | v :: vs, n, b, k, w, h => by
    rw [aent] at h
    rw [List.map_cons, lv_args, tr_cat hsp]
    by_cases hc : v.category = 2
    · rw [if_pos hc] at h ⊢
      match k, h with
      | 0, h => simp at h; rw [h]; exact List.mem_cons_self
      | 1, h => simp at h
      | k + 2, h =>
        have h1 : (aent (n - 2) vs)[k]? = some (some w) := by simpa using h
        have := aent_at (ad := ad) hsp vs (n - 2) (b + 2) k w h1
        rw [show b + 2 + k = b + (k + 2) by omega] at this
        exact List.mem_cons_of_mem _ this
    · rw [if_neg hc] at h ⊢
      match k, h with
      | 0, h => simp at h; rw [h]; exact List.mem_cons_self
      | k + 1, h =>
        have h1 : (aent (n - 1) vs)[k]? = some (some w) := by simpa using h
        have := aent_at (ad := ad) hsp vs (n - 1) (b + 1) k w h1
        rw [show b + 1 + k = b + (k + 1) by omega] at this
        exact List.mem_cons_of_mem _ this
theorem lh_ent {ad : Nat → Nat} {sp : Value} (hsp : sp = .null ∨ ∃ a, sp = .ref a) {vs : List Value} {n : Nat} {la : Array Slot} (hw : awd vs ≤ n) (h : lv_has la n (lv_args 0 (vs.map (tr ad sp)))) : lh ad sp n (aent n vs) la := by
  refine ⟨aent_len vs n hw, h.1, h.2.1, fun q hq => ?_⟩
  obtain ⟨w, h1, h2⟩ := asl_of hq
  have := aent_at (ad := ad) hsp vs n 0 q.1 w h1
  rw [Nat.zero_add, ← h2] at this
  exact h.2.2 q this
theorem awd_sl {ad : Nat → Nat} {sp : Value} (hsp : sp = .null ∨ ∃ a, sp = .ref a) : ∀ vs : List Value, (lg_sl (vs.map (tr ad sp))).length = awd vs
  | [] => rfl
  | v :: vs => by
    have ih := awd_sl hsp vs (ad := ad)
    simp only [lg_sl, awd, List.map_cons, List.flatMap_cons, List.length_append, List.sum_cons] at ih ⊢
    rw [ih, tr_cat hsp]
    rcases lv_cat v with z | z <;> simp [z]
