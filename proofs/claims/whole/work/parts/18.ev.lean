/-! runs of the small machine that end, told by what they end in -/
def cle (c1 c2 : Cf) : Prop := ∀ μ vs mem r, c1 μ vs mem = some r → c2 μ vs mem = some r
theorem acall_mono {c1 c2 : Cf} (h : cle c1 c2) {d : MD} {μ pc : Nat} {ls : Lo} {st : List Value} {mem : Mm} {o : Rz ⊕ S5} (q : acall c1 d μ pc ls st mem = some o) : acall c2 d μ pc ls st mem = some o := by
  unfold acall at q ⊢
  generalize (if d.st = true then d.na else d.na + 1) = n at q ⊢
  dsimp only at q ⊢
  split at q
  next hn =>
    rw [if_pos hn]
    split at q
    next r m' hc =>
      rw [h _ _ _ _ hc]
      exact q
    next => cases q
  next => cases q
theorem aex_mono {c1 c2 : Cf} (h : cle c1 c2) {S : Sc} {own : Nat} {rt : Option FieldType} {i : Instr} {len pc : Nat} {ls : Lo} {st : List Value} {mem : Mm} {o : Rz ⊕ S5} (q : aex c1 S own rt i len pc ls st mem = some o) : aex c2 S own rt i len pc ls st mem = some o := by
  cases i
  case invokestatic k =>
    simp only [aex] at q ⊢
    split at q
    next nst μ hs =>
      split at q
      next d hd =>
        split at q
        next hst => rw [if_pos hst]; exact acall_mono h q
        next => cases q
      next => cases q
    next => cases q
  case invokevirtual k =>
    simp only [aex] at q ⊢
    split at q
    next nst μ hs =>
      split at q
      next d hd =>
        split at q
        next hst => rw [if_pos hst]; exact acall_mono h q
        next => cases q
      next => cases q
    next => cases q
  all_goals exact q
theorem astep_mono {c1 c2 : Cf} (h : cle c1 c2) {S : Sc} {own : Nat} {cc : ByteArray} {rt : Option FieldType} {s : S5} {o : Rz ⊕ S5} (q : astep c1 S own cc rt s = some o) : astep c2 S own cc rt s = some o := by
  unfold astep at q ⊢
  split at q
  next i len hd =>
    split at q
    next hl => rw [if_pos hl]; exact aex_mono h q
    next => cases q
  next => cases q
theorem aloop_mono {c1 c2 : Cf} (h : cle c1 c2) {S : Sc} {own : Nat} {cc : ByteArray} {rt : Option FieldType} {r : Rz} : ∀ (n k : Nat) (s : S5), aloop c1 S own cc rt n s = some r → aloop c2 S own cc rt (n + k) s = some r := by
  intro n
  induction n with
  | zero => intro k s q; cases q
  | succ n ih =>
    intro k s q
    rw [show n + 1 + k = (n + k) + 1 by omega]
    unfold aloop at q ⊢
    cases hz : astep c1 S own cc rt s with
    | none => rw [hz] at q; cases q
    | some o =>
      rw [hz] at q
      rw [astep_mono h hz]
      cases o with
      | inl r1 => exact q
      | inr s1 => exact ih k s1 q
theorem arun_mono {S : Sc} (d n k : Nat) : cle (arun S d n) (arun S d (n + k)) := by
  induction d with
  | zero => intro μ vs mem r q; cases q
  | succ d ih =>
    intro μ vs mem r q
    unfold arun at q ⊢
    by_cases hμ : μ < 3
    · rw [if_pos hμ] at q ⊢; exact q
    · rw [if_neg hμ] at q ⊢
      split at q
      next D hD =>
        split at q
        next hw => rw [if_pos hw]; exact aloop_mono ih n k _ q
        next => cases q
      next => cases q
theorem cle_refl (c : Cf) : cle c c := fun _ _ _ _ h => h
def lsub (ls ls2 : Lo) : Prop := ls.length = ls2.length ∧ ∀ (k : Nat) (v : Value), ls[k]? = some (some v) → ls2[k]? = some (some v)
theorem lsub_refl (ls : Lo) : lsub ls ls := ⟨rfl, fun _ _ h => h⟩
theorem lsub_get {ls ls2 : Lo} (h : lsub ls ls2) {k : Nat} {v : Value} (hk : aget ls k = some v) : aget ls2 k = some v := by
  have h1 : ls[k]? = some (some v) := by
    unfold aget at hk
    split at hk
    next w hw => cases hk; exact hw
    next => cases hk
  unfold aget
  rw [h.2 k v h1]
theorem aset_get : ∀ (ls : Lo) (i k : Nat) (v w : Value), i < ls.length → ((k = i ∧ w = v) ∨ (k ≠ i ∧ ls[k]? = some (some w) ∧ ¬ (k + 1 = i ∧ w.category = 2) ∧ ¬ (v.category = 2 ∧ k = i + 1))) → (aset ls i v)[k]? = some (some w)
  | [], i, k, v, w, hi, h => by simp at hi
  | a :: t, 0, k, v, w, hi, h => by
    rw [aset_0]
    rcases h with ⟨rfl, rfl⟩ | ⟨h1, h2, h3, h4⟩
    · rfl
    · cases k with
      | zero => exact absurd rfl h1
      | succ k =>
        rw [List.getElem?_cons_succ] at h2 ⊢
        by_cases hc : v.category = 2
        · rw [if_pos hc]
          cases t with
          | nil => simp at h2
          | cons b t =>
            cases k with
            | zero => exact absurd ⟨hc, rfl⟩ h4
            | succ k => simpa using h2
        · rw [if_neg hc]; exact h2
  | a :: t, i + 1, k, v, w, hi, h => by
    rw [aset_s]
    cases k with
    | zero =>
      rw [List.getElem?_cons_zero]
      rcases h with ⟨h1, -⟩ | ⟨h1, h2, h3, h4⟩
      · cases h1
      · have ha : a = some w := by simpa using h2
        subst ha
        rw [if_neg]
        rintro ⟨q1, q2⟩
        have : w.category = 2 := by simpa [is2] using q2
        exact h3 ⟨by omega, this⟩
    | succ k =>
      rw [List.getElem?_cons_succ]
      refine aset_get t i k v w (by simpa using hi) ?_
      rcases h with ⟨h1, h2⟩ | ⟨h1, h2, h3, h4⟩
      · exact Or.inl ⟨by omega, h2⟩
      · exact Or.inr ⟨by omega, by simpa using h2, fun z => h3 ⟨by omega, z.2⟩, fun z => h4 ⟨z.1, by omega⟩⟩
theorem lsub_set {ls ls2 : Lo} (h : lsub ls ls2) {i : Nat} {v : Value} (hi : i < ls.length) : lsub (aset ls i v) (aset ls2 i v) := by
  refine ⟨by rw [aset_len, aset_len]; exact h.1, fun k w hk => ?_⟩
  refine aset_get ls2 i k v w (by rw [← h.1]; exact hi) ?_
  rcases aset_at ls i k v w hk with q | ⟨q1, q2, q3, q4⟩
  · exact Or.inl q
  · exact Or.inr ⟨q1, h.2 k w q2, q3, q4⟩
abbrev Po : Type := Option Value → Mm → Prop
/-- from here the body comes to an end, with Q -/
def Ev (S : Sc) (d own : Nat) (cc : ByteArray) (rt : Option FieldType) (pc : Nat) (ls : Lo) (st : List Value) (mem : Mm) (Q : Po) : Prop := ∀ ls2, lsub ls ls2 → ∃ n r, aloop (arun S d n) S own cc rt n (pc, ls2, st, mem) = some r ∧ Q r.1 r.2
/-- this call comes to an end, with Q -/
def Ca (S : Sc) (d μ : Nat) (vs : List Value) (mem : Mm) (Q : Po) : Prop := ∃ n r, arun S d n μ vs mem = some r ∧ Q r.1 r.2
section EV
variable {S : Sc} {d own : Nat} {cc : ByteArray} {rt : Option FieldType} {pc pc' : Nat} {ls ls' : Lo} {st rest : List Value} {mem mem' : Mm} {Q : Po}
theorem ev_sub {ls0 : Lo} (h : lsub ls0 ls) (k : Ev S d own cc rt pc ls0 st mem Q) : Ev S d own cc rt pc ls st mem Q := fun ls2 h2 => k ls2 ⟨h.1.trans h2.1, fun a b c => h2.2 a b (h.2 a b c)⟩
theorem ev_nx {i : Instr} {len : Nat} {st' : List Value} (hd : decode cc pc = .ok (i, len)) (hl : len = wlen i len) (h : ∀ (call : Cf) (ls2 : Lo), lsub ls ls2 → ∃ ls3, aex call S own rt i len pc ls2 st mem = some (.inr (pc', ls3, st', mem')) ∧ lsub ls' ls3) (k : Ev S d own cc rt pc' ls' st' mem' Q) : Ev S d own cc rt pc ls st mem Q := by
  intro ls2 h2
  obtain ⟨ls3, -, h4⟩ := h (fun _ _ _ => none) ls2 h2
  obtain ⟨ls3, h3, h4⟩ := h (fun _ _ _ => none) ls2 h2
  obtain ⟨n, r, h5, h6⟩ := k ls3 h4
  refine ⟨n + 1, r, ?_, h6⟩
  have h7 : aex (arun S d (n + 1)) S own rt i len pc ls2 st mem = some (.inr (pc', ls3, st', mem')) := aex_mono (fun _ _ _ _ q => by cases q) h3
  have h8 : astep (arun S d (n + 1)) S own cc rt (pc, ls2, st, mem) = some (.inr (pc', ls3, st', mem')) := by
    unfold astep
    dsimp only
    rw [hd]
    dsimp only
    rw [if_pos hl]
    exact h7
  unfold aloop
  rw [h8]
  exact aloop_mono (arun_mono d n 1) n 0 _ h5
theorem ev_rt {i : Instr} {r : Option Value} (hd : decode cc pc = .ok (i, 1)) (hl : 1 = wlen i 1) (h : ∀ (call : Cf) (ls2 : Lo), aex call S own rt i 1 pc ls2 st mem = some (.inl (r, mem))) (k : Q r mem) : Ev S d own cc rt pc ls st mem Q := by
  intro ls2 h2
  refine ⟨1, (r, mem), ?_, k⟩
  have h8 : astep (arun S d 1) S own cc rt (pc, ls2, st, mem) = some (.inl (r, mem)) := by
    unfold astep
    dsimp only
    rw [hd]
    dsimp only
    rw [if_pos hl]
    exact h _ _
  unfold aloop
  rw [h8]
/-- a call: from what the callee comes to -/
theorem ev_inv {i : Instr} {D : MD} {μ : Nat} {vs : List Value} (hd : decode cc pc = .ok (i, 3)) (hl : 3 = wlen i 3) (hi : ∀ (call : Cf) (ls2 : Lo), aex call S own rt i 3 pc ls2 st mem = acall call D μ pc ls2 st mem) (hn : ∃ n, n = (if D.st = true then D.na else D.na + 1) ∧ n ≤ st.length ∧ awd (st.drop n) ≤ 8 ∧ (st.take n).reverse = vs ∧ st.drop n = rest) (hp : pc + 3 = pc')
    (k : Ca S d μ vs mem (fun r m' => Ev S d own cc rt pc' ls (r.toList ++ rest) m' Q)) : Ev S d own cc rt pc ls st mem Q := by
  intro ls2 h2
  subst hp
  obtain ⟨n1, r1, h3, h4⟩ := k
  obtain ⟨n2, r2, h5, h6⟩ := h4 ls2 h2
  obtain ⟨n, hn0, hn1, hn2, hn3, hn4⟩ := hn
  refine ⟨n1 + n2 + 1, r2, ?_, h6⟩
  have h7 : arun S d (n1 + n2 + 1) μ vs mem = some r1 := by
    have := arun_mono (S := S) d n1 (n2 + 1) μ vs mem r1 h3
    rw [show n1 + (n2 + 1) = n1 + n2 + 1 by omega] at this
    exact this
  have h8 : astep (arun S d (n1 + n2 + 1)) S own cc rt (pc, ls2, st, mem) = some (.inr (pc + 3, ls2, r1.1.toList ++ rest, r1.2)) := by
    unfold astep
    dsimp only
    rw [hd]
    dsimp only
    rw [if_pos hl, hi]
    unfold acall
    rw [← hn0]
    dsimp only
    rw [if_pos ⟨hn1, hn2⟩, hn3, h7, hn4]
  unfold aloop
  rw [h8]
  have := aloop_mono (S := S) (own := own) (cc := cc) (rt := rt) (r := r2) (arun_mono (S := S) d n2 (n1 + 1)) n2 n1 _ h5
  rw [show n2 + (n1 + 1) = n1 + n2 + 1 by omega, show n2 + n1 = n1 + n2 by omega] at this
  exact this
theorem ca_in {D : MD} {μ : Nat} {vs : List Value} (hμ : 3 ≤ μ) (hD : mTL[μ]? = some D) (hw : awd vs ≤ D.ml) (k : Ev S d D.own D.c D.rt 0 (aent D.ml vs) [] mem Q) : Ca S (d + 1) μ vs mem Q := by
  obtain ⟨n, r, h1, h2⟩ := k _ (lsub_refl _)
  refine ⟨n, r, ?_, h2⟩
  unfold arun
  rw [if_neg (by omega), hD]
  dsimp only
  rw [if_pos hw]
  exact h1
theorem ca_math {μ : Nat} {vs : List Value} {r : Option Value} (hμ : μ < 3) (h : amath μ vs = some r) (k : Q r mem) : Ca S (d + 1) μ vs mem Q := by
  refine ⟨0, (r, mem), ?_, k⟩
  unfold arun
  rw [if_pos hμ, h]
theorem ca_mono {μ : Nat} {vs : List Value} {Q2 : Po} (h : Ca S d μ vs mem Q) (hq : ∀ r m, Q r m → Q2 r m) : Ca S d μ vs mem Q2 := by
  obtain ⟨n, r, h1, h2⟩ := h
  exact ⟨n, r, h1, hq _ _ h2⟩
theorem ev_topi {x : Int32} (k : ∀ y, y = x → Ev S d own cc rt pc ls (.int y :: rest) mem Q) : Ev S d own cc rt pc ls (.int x :: rest) mem Q := k x rfl
theorem ev_topl {x : Int64} (k : ∀ y, y = x → Ev S d own cc rt pc ls (.long y :: rest) mem Q) : Ev S d own cc rt pc ls (.long x :: rest) mem Q := k x rfl
theorem ev_topm (k : ∀ m, m = mem → Ev S d own cc rt pc ls st m Q) : Ev S d own cc rt pc ls st mem Q := k mem rfl
end EV
