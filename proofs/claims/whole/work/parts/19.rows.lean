section EVR
variable {S : Sc} {d own : Nat} {cc : ByteArray} {rt : Option FieldType} {pc pc' : Nat} {ls ls' : Lo} {st rest : List Value} {mem mem' : Mm} {Q : Po}
theorem ev_iconst {n : Int} {v : Int32} (hd : decode cc pc = .ok (.iconst n, 1)) (hp : pc + 1 = pc') (hv : Int32.ofInt n = v) (k : Ev S d own cc rt pc' ls (.int v :: st) mem Q) : Ev S d own cc rt pc ls (st) mem Q := by
  subst hp
  exact ev_nx hd rfl (fun call ls2 q => ⟨ls2, by rw [← hv]; rfl, q⟩) k
theorem ev_bipush {n : Int} {v : Int32} (hd : decode cc pc = .ok (.bipush n, 2)) (hp : pc + 2 = pc') (hv : (Int8.ofInt n).toInt32 = v) (k : Ev S d own cc rt pc' ls (.int v :: st) mem Q) : Ev S d own cc rt pc ls (st) mem Q := by
  subst hp
  exact ev_nx hd rfl (fun call ls2 q => ⟨ls2, by rw [← hv]; rfl, q⟩) k
theorem ev_sipush {n : Int} {v : Int32} (hd : decode cc pc = .ok (.sipush n, 3)) (hp : pc + 3 = pc') (hv : (Int16.ofInt n).toInt32 = v) (k : Ev S d own cc rt pc' ls (.int v :: st) mem Q) : Ev S d own cc rt pc ls (st) mem Q := by
  subst hp
  exact ev_nx hd rfl (fun call ls2 q => ⟨ls2, by rw [← hv]; rfl, q⟩) k
theorem ev_lconst {n : Fin 2} {v : Int64} (hd : decode cc pc = .ok (.lconst n, 1)) (hp : pc + 1 = pc') (hv : Int64.ofNat (n : Nat) = v) (k : Ev S d own cc rt pc' ls (.long v :: st) mem Q) : Ev S d own cc rt pc ls (st) mem Q := by
  subst hp
  exact ev_nx hd rfl (fun call ls2 q => ⟨ls2, by rw [← hv]; rfl, q⟩) k
theorem ev_iload_n {i : Fin 4} {x : Int32} (hd : decode cc pc = .ok (.iload_n i, 1)) (hp : pc + 1 = pc') (hx : aget ls (i : Nat) = some (.int x)) (k : Ev S d own cc rt pc' ls (.int x :: st) mem Q) : Ev S d own cc rt pc ls (st) mem Q := by
  subst hp
  exact ev_nx hd rfl (fun call ls2 q => ⟨ls2, by show aload1 ls2 (i : Nat) pc 1 st mem isI = _; unfold aload1; rw [lsub_get q hx]; rfl, q⟩) k
theorem ev_istore_n {i : Fin 4} {x : Int32} (hd : decode cc pc = .ok (.istore_n i, 1)) (hp : pc + 1 = pc') (hi : (i : Nat) + 1 ≤ ls.length) (hl : aset ls (i : Nat) (.int x) = ls') (k : Ev S d own cc rt pc' ls' st mem Q) : Ev S d own cc rt pc ls (.int x :: st) mem Q := by
  subst hp
  subst hl
  refine ev_nx hd rfl (fun call ls2 q => ⟨aset ls2 (i : Nat) (.int x), ?_, lsub_set q (by omega)⟩) k
  show astore1 ls2 (i : Nat) pc 1 (.int x :: st) mem isI = _
  unfold astore1
  have hi2 : (i : Nat) + (Value.int x).category ≤ ls2.length := by rw [← q.1]; exact hi
  exact if_pos ⟨rfl, hi2⟩
theorem ev_iload {i : Nat} {x : Int32} (hd : decode cc pc = .ok (.iload i, 2)) (hp : pc + 2 = pc') (hx : aget ls (i : Nat) = some (.int x)) (k : Ev S d own cc rt pc' ls (.int x :: st) mem Q) : Ev S d own cc rt pc ls (st) mem Q := by
  subst hp
  exact ev_nx hd rfl (fun call ls2 q => ⟨ls2, by show aload1 ls2 (i : Nat) pc 2 st mem isI = _; unfold aload1; rw [lsub_get q hx]; rfl, q⟩) k
theorem ev_istore {i : Nat} {x : Int32} (hd : decode cc pc = .ok (.istore i, 2)) (hp : pc + 2 = pc') (hi : (i : Nat) + 1 ≤ ls.length) (hl : aset ls (i : Nat) (.int x) = ls') (k : Ev S d own cc rt pc' ls' st mem Q) : Ev S d own cc rt pc ls (.int x :: st) mem Q := by
  subst hp
  subst hl
  refine ev_nx hd rfl (fun call ls2 q => ⟨aset ls2 (i : Nat) (.int x), ?_, lsub_set q (by omega)⟩) k
  show astore1 ls2 (i : Nat) pc 2 (.int x :: st) mem isI = _
  unfold astore1
  have hi2 : (i : Nat) + (Value.int x).category ≤ ls2.length := by rw [← q.1]; exact hi
  exact if_pos ⟨rfl, hi2⟩
theorem ev_lload_n {i : Fin 4} {x : Int64} (hd : decode cc pc = .ok (.lload_n i, 1)) (hp : pc + 1 = pc') (hx : aget ls (i : Nat) = some (.long x)) (k : Ev S d own cc rt pc' ls (.long x :: st) mem Q) : Ev S d own cc rt pc ls (st) mem Q := by
  subst hp
  exact ev_nx hd rfl (fun call ls2 q => ⟨ls2, by show aload1 ls2 (i : Nat) pc 1 st mem isL = _; unfold aload1; rw [lsub_get q hx]; rfl, q⟩) k
theorem ev_lstore_n {i : Fin 4} {x : Int64} (hd : decode cc pc = .ok (.lstore_n i, 1)) (hp : pc + 1 = pc') (hi : (i : Nat) + 2 ≤ ls.length) (hl : aset ls (i : Nat) (.long x) = ls') (k : Ev S d own cc rt pc' ls' st mem Q) : Ev S d own cc rt pc ls (.long x :: st) mem Q := by
  subst hp
  subst hl
  refine ev_nx hd rfl (fun call ls2 q => ⟨aset ls2 (i : Nat) (.long x), ?_, lsub_set q (by omega)⟩) k
  show astore1 ls2 (i : Nat) pc 1 (.long x :: st) mem isL = _
  unfold astore1
  have hi2 : (i : Nat) + (Value.long x).category ≤ ls2.length := by rw [← q.1]; exact hi
  exact if_pos ⟨rfl, hi2⟩
theorem ev_lload {i : Nat} {x : Int64} (hd : decode cc pc = .ok (.lload i, 2)) (hp : pc + 2 = pc') (hx : aget ls (i : Nat) = some (.long x)) (k : Ev S d own cc rt pc' ls (.long x :: st) mem Q) : Ev S d own cc rt pc ls (st) mem Q := by
  subst hp
  exact ev_nx hd rfl (fun call ls2 q => ⟨ls2, by show aload1 ls2 (i : Nat) pc 2 st mem isL = _; unfold aload1; rw [lsub_get q hx]; rfl, q⟩) k
theorem ev_lstore {i : Nat} {x : Int64} (hd : decode cc pc = .ok (.lstore i, 2)) (hp : pc + 2 = pc') (hi : (i : Nat) + 2 ≤ ls.length) (hl : aset ls (i : Nat) (.long x) = ls') (k : Ev S d own cc rt pc' ls' st mem Q) : Ev S d own cc rt pc ls (.long x :: st) mem Q := by
  subst hp
  subst hl
  refine ev_nx hd rfl (fun call ls2 q => ⟨aset ls2 (i : Nat) (.long x), ?_, lsub_set q (by omega)⟩) k
  show astore1 ls2 (i : Nat) pc 2 (.long x :: st) mem isL = _
  unfold astore1
  have hi2 : (i : Nat) + (Value.long x).category ≤ ls2.length := by rw [← q.1]; exact hi
  exact if_pos ⟨rfl, hi2⟩
theorem ev_aload_n {i : Fin 4} {x : Nat} (hd : decode cc pc = .ok (.aload_n i, 1)) (hp : pc + 1 = pc') (hx : aget ls (i : Nat) = some (.ref x)) (k : Ev S d own cc rt pc' ls (.ref x :: st) mem Q) : Ev S d own cc rt pc ls (st) mem Q := by
  subst hp
  exact ev_nx hd rfl (fun call ls2 q => ⟨ls2, by show aload1 ls2 (i : Nat) pc 1 st mem isR = _; unfold aload1; rw [lsub_get q hx]; rfl, q⟩) k
theorem ev_astore_n {i : Fin 4} {x : Nat} (hd : decode cc pc = .ok (.astore_n i, 1)) (hp : pc + 1 = pc') (hi : (i : Nat) + 1 ≤ ls.length) (hl : aset ls (i : Nat) (.ref x) = ls') (k : Ev S d own cc rt pc' ls' st mem Q) : Ev S d own cc rt pc ls (.ref x :: st) mem Q := by
  subst hp
  subst hl
  refine ev_nx hd rfl (fun call ls2 q => ⟨aset ls2 (i : Nat) (.ref x), ?_, lsub_set q (by omega)⟩) k
  show astore1 ls2 (i : Nat) pc 1 (.ref x :: st) mem isR = _
  unfold astore1
  have hi2 : (i : Nat) + (Value.ref x).category ≤ ls2.length := by rw [← q.1]; exact hi
  exact if_pos ⟨rfl, hi2⟩
theorem ev_aload {i : Nat} {x : Nat} (hd : decode cc pc = .ok (.aload i, 2)) (hp : pc + 2 = pc') (hx : aget ls (i : Nat) = some (.ref x)) (k : Ev S d own cc rt pc' ls (.ref x :: st) mem Q) : Ev S d own cc rt pc ls (st) mem Q := by
  subst hp
  exact ev_nx hd rfl (fun call ls2 q => ⟨ls2, by show aload1 ls2 (i : Nat) pc 2 st mem isR = _; unfold aload1; rw [lsub_get q hx]; rfl, q⟩) k
theorem ev_astore {i : Nat} {x : Nat} (hd : decode cc pc = .ok (.astore i, 2)) (hp : pc + 2 = pc') (hi : (i : Nat) + 1 ≤ ls.length) (hl : aset ls (i : Nat) (.ref x) = ls') (k : Ev S d own cc rt pc' ls' st mem Q) : Ev S d own cc rt pc ls (.ref x :: st) mem Q := by
  subst hp
  subst hl
  refine ev_nx hd rfl (fun call ls2 q => ⟨aset ls2 (i : Nat) (.ref x), ?_, lsub_set q (by omega)⟩) k
  show astore1 ls2 (i : Nat) pc 2 (.ref x :: st) mem isR = _
  unfold astore1
  have hi2 : (i : Nat) + (Value.ref x).category ≤ ls2.length := by rw [← q.1]; exact hi
  exact if_pos ⟨rfl, hi2⟩
theorem ev_iinc {i : Nat} {n : Int} {x v : Int32} (hd : decode cc pc = .ok (.iinc i n, 3)) (hp : pc + 3 = pc') (hx : aget ls i = some (.int x)) (hv : x + Int32.ofInt n = v) (hi : i < ls.length) (hl : aset ls i (.int v) = ls') (k : Ev S d own cc rt pc' ls' st mem Q) : Ev S d own cc rt pc ls st mem Q := by
  subst hp
  subst hl
  subst hv
  refine ev_nx hd rfl (fun call ls2 q => ⟨aset ls2 i (.int (x + Int32.ofInt n)), ?_, lsub_set q hi⟩) k
  simp only [aex]
  rw [lsub_get q hx]
theorem ev_iadd {x y : Int32} (hd : decode cc pc = .ok (.iadd, 1)) (hp : pc + 1 = pc')  (k : Ev S d own cc rt pc' ls (.int (x + y) :: rest) mem Q) : Ev S d own cc rt pc ls (.int y :: .int x :: rest) mem Q := by
  subst hp
  exact ev_nx hd rfl (fun call ls2 q => ⟨ls2, rfl, q⟩) k
theorem ev_isub {x y : Int32} (hd : decode cc pc = .ok (.isub, 1)) (hp : pc + 1 = pc')  (k : Ev S d own cc rt pc' ls (.int (x - y) :: rest) mem Q) : Ev S d own cc rt pc ls (.int y :: .int x :: rest) mem Q := by
  subst hp
  exact ev_nx hd rfl (fun call ls2 q => ⟨ls2, rfl, q⟩) k
theorem ev_imul {x y : Int32} (hd : decode cc pc = .ok (.imul, 1)) (hp : pc + 1 = pc')  (k : Ev S d own cc rt pc' ls (.int (x * y) :: rest) mem Q) : Ev S d own cc rt pc ls (.int y :: .int x :: rest) mem Q := by
  subst hp
  exact ev_nx hd rfl (fun call ls2 q => ⟨ls2, rfl, q⟩) k
theorem ev_iand {x y : Int32} (hd : decode cc pc = .ok (.iand, 1)) (hp : pc + 1 = pc')  (k : Ev S d own cc rt pc' ls (.int (x &&& y) :: rest) mem Q) : Ev S d own cc rt pc ls (.int y :: .int x :: rest) mem Q := by
  subst hp
  exact ev_nx hd rfl (fun call ls2 q => ⟨ls2, rfl, q⟩) k
theorem ev_ior {x y : Int32} (hd : decode cc pc = .ok (.ior, 1)) (hp : pc + 1 = pc')  (k : Ev S d own cc rt pc' ls (.int (x ||| y) :: rest) mem Q) : Ev S d own cc rt pc ls (.int y :: .int x :: rest) mem Q := by
  subst hp
  exact ev_nx hd rfl (fun call ls2 q => ⟨ls2, rfl, q⟩) k
theorem ev_ishl {x y : Int32} (hd : decode cc pc = .ok (.ishl, 1)) (hp : pc + 1 = pc')  (k : Ev S d own cc rt pc' ls (.int (x <<< (y &&& 31)) :: rest) mem Q) : Ev S d own cc rt pc ls (.int y :: .int x :: rest) mem Q := by
  subst hp
  exact ev_nx hd rfl (fun call ls2 q => ⟨ls2, rfl, q⟩) k
theorem ev_ishr {x y : Int32} (hd : decode cc pc = .ok (.ishr, 1)) (hp : pc + 1 = pc')  (k : Ev S d own cc rt pc' ls (.int (x >>> (y &&& 31)) :: rest) mem Q) : Ev S d own cc rt pc ls (.int y :: .int x :: rest) mem Q := by
  subst hp
  exact ev_nx hd rfl (fun call ls2 q => ⟨ls2, rfl, q⟩) k
theorem ev_iushr {x y : Int32} (hd : decode cc pc = .ok (.iushr, 1)) (hp : pc + 1 = pc')  (k : Ev S d own cc rt pc' ls (.int (aiush x y) :: rest) mem Q) : Ev S d own cc rt pc ls (.int y :: .int x :: rest) mem Q := by
  subst hp
  exact ev_nx hd rfl (fun call ls2 q => ⟨ls2, rfl, q⟩) k
theorem ev_ladd {x y : Int64} (hd : decode cc pc = .ok (.ladd, 1)) (hp : pc + 1 = pc')  (k : Ev S d own cc rt pc' ls (.long (x + y) :: rest) mem Q) : Ev S d own cc rt pc ls (.long y :: .long x :: rest) mem Q := by
  subst hp
  exact ev_nx hd rfl (fun call ls2 q => ⟨ls2, rfl, q⟩) k
theorem ev_lsub {x y : Int64} (hd : decode cc pc = .ok (.lsub, 1)) (hp : pc + 1 = pc')  (k : Ev S d own cc rt pc' ls (.long (x - y) :: rest) mem Q) : Ev S d own cc rt pc ls (.long y :: .long x :: rest) mem Q := by
  subst hp
  exact ev_nx hd rfl (fun call ls2 q => ⟨ls2, rfl, q⟩) k
theorem ev_lmul {x y : Int64} (hd : decode cc pc = .ok (.lmul, 1)) (hp : pc + 1 = pc')  (k : Ev S d own cc rt pc' ls (.long (x * y) :: rest) mem Q) : Ev S d own cc rt pc ls (.long y :: .long x :: rest) mem Q := by
  subst hp
  exact ev_nx hd rfl (fun call ls2 q => ⟨ls2, rfl, q⟩) k
theorem ev_idiv {x y : Int32} (hd : decode cc pc = .ok (.idiv, 1)) (hp : pc + 1 = pc') (hy : ¬ y = 0) (k : Ev S d own cc rt pc' ls (.int (x / y) :: rest) mem Q) : Ev S d own cc rt pc ls (.int y :: .int x :: rest) mem Q := by
  subst hp
  exact ev_nx hd rfl (fun call ls2 q => ⟨ls2, if_neg hy, q⟩) k
theorem ev_irem {x y : Int32} (hd : decode cc pc = .ok (.irem, 1)) (hp : pc + 1 = pc') (hy : ¬ y = 0) (k : Ev S d own cc rt pc' ls (.int (airem x y) :: rest) mem Q) : Ev S d own cc rt pc ls (.int y :: .int x :: rest) mem Q := by
  subst hp
  exact ev_nx hd rfl (fun call ls2 q => ⟨ls2, if_neg hy, q⟩) k
theorem ev_ldiv {x y : Int64} (hd : decode cc pc = .ok (.ldiv, 1)) (hp : pc + 1 = pc') (hy : ¬ y = 0) (k : Ev S d own cc rt pc' ls (.long (x / y) :: rest) mem Q) : Ev S d own cc rt pc ls (.long y :: .long x :: rest) mem Q := by
  subst hp
  exact ev_nx hd rfl (fun call ls2 q => ⟨ls2, if_neg hy, q⟩) k
theorem ev_lrem {x y : Int64} (hd : decode cc pc = .ok (.lrem, 1)) (hp : pc + 1 = pc') (hy : ¬ y = 0) (k : Ev S d own cc rt pc' ls (.long (airemL x y) :: rest) mem Q) : Ev S d own cc rt pc ls (.long y :: .long x :: rest) mem Q := by
  subst hp
  exact ev_nx hd rfl (fun call ls2 q => ⟨ls2, if_neg hy, q⟩) k
theorem ev_ineg {x : Int32} (hd : decode cc pc = .ok (.ineg, 1)) (hp : pc + 1 = pc')  (k : Ev S d own cc rt pc' ls (.int (-x) :: rest) mem Q) : Ev S d own cc rt pc ls (.int x :: rest) mem Q := by
  subst hp
  exact ev_nx hd rfl (fun call ls2 q => ⟨ls2, rfl, q⟩) k
theorem ev_i2l {x : Int32} (hd : decode cc pc = .ok (.i2l, 1)) (hp : pc + 1 = pc')  (k : Ev S d own cc rt pc' ls (.long x.toInt64 :: rest) mem Q) : Ev S d own cc rt pc ls (.int x :: rest) mem Q := by
  subst hp
  exact ev_nx hd rfl (fun call ls2 q => ⟨ls2, rfl, q⟩) k
theorem ev_i2c {x : Int32} (hd : decode cc pc = .ok (.i2c, 1)) (hp : pc + 1 = pc')  (k : Ev S d own cc rt pc' ls (.int (x.toUInt32 % 65536).toInt32 :: rest) mem Q) : Ev S d own cc rt pc ls (.int x :: rest) mem Q := by
  subst hp
  exact ev_nx hd rfl (fun call ls2 q => ⟨ls2, rfl, q⟩) k
theorem ev_i2b {x : Int32} (hd : decode cc pc = .ok (.i2b, 1)) (hp : pc + 1 = pc')  (k : Ev S d own cc rt pc' ls (.int x.toInt8.toInt32 :: rest) mem Q) : Ev S d own cc rt pc ls (.int x :: rest) mem Q := by
  subst hp
  exact ev_nx hd rfl (fun call ls2 q => ⟨ls2, rfl, q⟩) k
theorem ev_lcmp {x y : Int64} (hd : decode cc pc = .ok (.lcmp, 1)) (hp : pc + 1 = pc')  (k : Ev S d own cc rt pc' ls (.int (lg_cmp x y) :: rest) mem Q) : Ev S d own cc rt pc ls (.long y :: .long x :: rest) mem Q := by
  subst hp
  exact ev_nx hd rfl (fun call ls2 q => ⟨ls2, rfl, q⟩) k
theorem ev_dup {v : Value} (hd : decode cc pc = .ok (.dup, 1)) (hp : pc + 1 = pc') (hv : v.category = 1) (k : Ev S d own cc rt pc' ls (v :: v :: rest) mem Q) : Ev S d own cc rt pc ls (v :: rest) mem Q := by
  subst hp
  exact ev_nx hd rfl (fun call ls2 q => ⟨ls2, if_pos hv, q⟩) k
theorem ev_pop {v : Value} (hd : decode cc pc = .ok (.pop, 1)) (hp : pc + 1 = pc') (hv : v.category = 1) (k : Ev S d own cc rt pc' ls (rest) mem Q) : Ev S d own cc rt pc ls (v :: rest) mem Q := by
  subst hp
  exact ev_nx hd rfl (fun call ls2 q => ⟨ls2, if_pos hv, q⟩) k
theorem ev_dup2 {a b : Value} (hd : decode cc pc = .ok (.dup2, 1)) (hp : pc + 1 = pc') (ha : a.category = 1) (hb : b.category = 1) (k : Ev S d own cc rt pc' ls (a :: b :: a :: b :: rest) mem Q) : Ev S d own cc rt pc ls (a :: b :: rest) mem Q := by
  subst hp
  exact ev_nx hd rfl (fun call ls2 q => ⟨ls2, if_pos ⟨ha, hb⟩, q⟩) k
theorem ev_if_eq {x : Int32} {off : Int} {t : Nat} (hd : decode cc pc = .ok (.ifCond .eq off, 3)) (hp : pc + 3 = pc') (ht : ajmp pc off = some t) (kt : x = 0 → Ev S d own cc rt t ls rest mem Q) (kf : ¬ (x = 0) → Ev S d own cc rt pc' ls rest mem Q) : Ev S d own cc rt pc ls (.int x :: rest) mem Q := by
  subst hp
  by_cases c : x = 0
  · refine ev_nx hd rfl (fun call ls2 q => ⟨ls2, ?_, q⟩) (kt c)
    simp only [aex, ht]
    exact if_pos (by simp only [acnd, decide_eq_true_eq]; exact c)
  · refine ev_nx hd rfl (fun call ls2 q => ⟨ls2, ?_, q⟩) (kf c)
    simp only [aex, ht]
    exact if_neg (by simp only [acnd, decide_eq_true_eq]; exact c)
theorem ev_if_ne {x : Int32} {off : Int} {t : Nat} (hd : decode cc pc = .ok (.ifCond .ne off, 3)) (hp : pc + 3 = pc') (ht : ajmp pc off = some t) (kt : ¬ x = 0 → Ev S d own cc rt t ls rest mem Q) (kf : x = 0 → Ev S d own cc rt pc' ls rest mem Q) : Ev S d own cc rt pc ls (.int x :: rest) mem Q := by
  subst hp
  by_cases c : ¬ x = 0
  · refine ev_nx hd rfl (fun call ls2 q => ⟨ls2, ?_, q⟩) (kt c)
    simp only [aex, ht]
    exact if_pos (by simp only [acnd, decide_eq_true_eq]; exact c)
  · refine ev_nx hd rfl (fun call ls2 q => ⟨ls2, ?_, q⟩) (kf (Decidable.not_not.mp c))
    simp only [aex, ht]
    exact if_neg (by simp only [acnd, decide_eq_true_eq]; exact c)
theorem ev_if_lt {x : Int32} {off : Int} {t : Nat} (hd : decode cc pc = .ok (.ifCond .lt off, 3)) (hp : pc + 3 = pc') (ht : ajmp pc off = some t) (kt : x < 0 → Ev S d own cc rt t ls rest mem Q) (kf : ¬ (x < 0) → Ev S d own cc rt pc' ls rest mem Q) : Ev S d own cc rt pc ls (.int x :: rest) mem Q := by
  subst hp
  by_cases c : x < 0
  · refine ev_nx hd rfl (fun call ls2 q => ⟨ls2, ?_, q⟩) (kt c)
    simp only [aex, ht]
    exact if_pos (by simp only [acnd, decide_eq_true_eq]; exact c)
  · refine ev_nx hd rfl (fun call ls2 q => ⟨ls2, ?_, q⟩) (kf c)
    simp only [aex, ht]
    exact if_neg (by simp only [acnd, decide_eq_true_eq]; exact c)
theorem ev_if_ge {x : Int32} {off : Int} {t : Nat} (hd : decode cc pc = .ok (.ifCond .ge off, 3)) (hp : pc + 3 = pc') (ht : ajmp pc off = some t) (kt : 0 ≤ x → Ev S d own cc rt t ls rest mem Q) (kf : ¬ (0 ≤ x) → Ev S d own cc rt pc' ls rest mem Q) : Ev S d own cc rt pc ls (.int x :: rest) mem Q := by
  subst hp
  by_cases c : 0 ≤ x
  · refine ev_nx hd rfl (fun call ls2 q => ⟨ls2, ?_, q⟩) (kt c)
    simp only [aex, ht]
    exact if_pos (by simp only [acnd, decide_eq_true_eq]; exact c)
  · refine ev_nx hd rfl (fun call ls2 q => ⟨ls2, ?_, q⟩) (kf c)
    simp only [aex, ht]
    exact if_neg (by simp only [acnd, decide_eq_true_eq]; exact c)
theorem ev_if_gt {x : Int32} {off : Int} {t : Nat} (hd : decode cc pc = .ok (.ifCond .gt off, 3)) (hp : pc + 3 = pc') (ht : ajmp pc off = some t) (kt : 0 < x → Ev S d own cc rt t ls rest mem Q) (kf : ¬ (0 < x) → Ev S d own cc rt pc' ls rest mem Q) : Ev S d own cc rt pc ls (.int x :: rest) mem Q := by
  subst hp
  by_cases c : 0 < x
  · refine ev_nx hd rfl (fun call ls2 q => ⟨ls2, ?_, q⟩) (kt c)
    simp only [aex, ht]
    exact if_pos (by simp only [acnd, decide_eq_true_eq]; exact c)
  · refine ev_nx hd rfl (fun call ls2 q => ⟨ls2, ?_, q⟩) (kf c)
    simp only [aex, ht]
    exact if_neg (by simp only [acnd, decide_eq_true_eq]; exact c)
theorem ev_if_le {x : Int32} {off : Int} {t : Nat} (hd : decode cc pc = .ok (.ifCond .le off, 3)) (hp : pc + 3 = pc') (ht : ajmp pc off = some t) (kt : x ≤ 0 → Ev S d own cc rt t ls rest mem Q) (kf : ¬ (x ≤ 0) → Ev S d own cc rt pc' ls rest mem Q) : Ev S d own cc rt pc ls (.int x :: rest) mem Q := by
  subst hp
  by_cases c : x ≤ 0
  · refine ev_nx hd rfl (fun call ls2 q => ⟨ls2, ?_, q⟩) (kt c)
    simp only [aex, ht]
    exact if_pos (by simp only [acnd, decide_eq_true_eq]; exact c)
  · refine ev_nx hd rfl (fun call ls2 q => ⟨ls2, ?_, q⟩) (kf c)
    simp only [aex, ht]
    exact if_neg (by simp only [acnd, decide_eq_true_eq]; exact c)
theorem ev_icmp_eq {x y : Int32} {off : Int} {t : Nat} (hd : decode cc pc = .ok (.if_icmp .eq off, 3)) (hp : pc + 3 = pc') (ht : ajmp pc off = some t) (kt : x = y → Ev S d own cc rt t ls rest mem Q) (kf : ¬ (x = y) → Ev S d own cc rt pc' ls rest mem Q) : Ev S d own cc rt pc ls (.int y :: .int x :: rest) mem Q := by
  subst hp
  by_cases c : x = y
  · refine ev_nx hd rfl (fun call ls2 q => ⟨ls2, ?_, q⟩) (kt c)
    simp only [aex, ht]
    exact if_pos (by simp only [acnd, decide_eq_true_eq]; exact c)
  · refine ev_nx hd rfl (fun call ls2 q => ⟨ls2, ?_, q⟩) (kf c)
    simp only [aex, ht]
    exact if_neg (by simp only [acnd, decide_eq_true_eq]; exact c)
theorem ev_icmp_ne {x y : Int32} {off : Int} {t : Nat} (hd : decode cc pc = .ok (.if_icmp .ne off, 3)) (hp : pc + 3 = pc') (ht : ajmp pc off = some t) (kt : ¬ x = y → Ev S d own cc rt t ls rest mem Q) (kf : x = y → Ev S d own cc rt pc' ls rest mem Q) : Ev S d own cc rt pc ls (.int y :: .int x :: rest) mem Q := by
  subst hp
  by_cases c : ¬ x = y
  · refine ev_nx hd rfl (fun call ls2 q => ⟨ls2, ?_, q⟩) (kt c)
    simp only [aex, ht]
    exact if_pos (by simp only [acnd, decide_eq_true_eq]; exact c)
  · refine ev_nx hd rfl (fun call ls2 q => ⟨ls2, ?_, q⟩) (kf (Decidable.not_not.mp c))
    simp only [aex, ht]
    exact if_neg (by simp only [acnd, decide_eq_true_eq]; exact c)
theorem ev_icmp_lt {x y : Int32} {off : Int} {t : Nat} (hd : decode cc pc = .ok (.if_icmp .lt off, 3)) (hp : pc + 3 = pc') (ht : ajmp pc off = some t) (kt : x < y → Ev S d own cc rt t ls rest mem Q) (kf : ¬ (x < y) → Ev S d own cc rt pc' ls rest mem Q) : Ev S d own cc rt pc ls (.int y :: .int x :: rest) mem Q := by
  subst hp
  by_cases c : x < y
  · refine ev_nx hd rfl (fun call ls2 q => ⟨ls2, ?_, q⟩) (kt c)
    simp only [aex, ht]
    exact if_pos (by simp only [acnd, decide_eq_true_eq]; exact c)
  · refine ev_nx hd rfl (fun call ls2 q => ⟨ls2, ?_, q⟩) (kf c)
    simp only [aex, ht]
    exact if_neg (by simp only [acnd, decide_eq_true_eq]; exact c)
theorem ev_icmp_ge {x y : Int32} {off : Int} {t : Nat} (hd : decode cc pc = .ok (.if_icmp .ge off, 3)) (hp : pc + 3 = pc') (ht : ajmp pc off = some t) (kt : y ≤ x → Ev S d own cc rt t ls rest mem Q) (kf : ¬ (y ≤ x) → Ev S d own cc rt pc' ls rest mem Q) : Ev S d own cc rt pc ls (.int y :: .int x :: rest) mem Q := by
  subst hp
  by_cases c : y ≤ x
  · refine ev_nx hd rfl (fun call ls2 q => ⟨ls2, ?_, q⟩) (kt c)
    simp only [aex, ht]
    exact if_pos (by simp only [acnd, decide_eq_true_eq]; exact c)
  · refine ev_nx hd rfl (fun call ls2 q => ⟨ls2, ?_, q⟩) (kf c)
    simp only [aex, ht]
    exact if_neg (by simp only [acnd, decide_eq_true_eq]; exact c)
theorem ev_icmp_gt {x y : Int32} {off : Int} {t : Nat} (hd : decode cc pc = .ok (.if_icmp .gt off, 3)) (hp : pc + 3 = pc') (ht : ajmp pc off = some t) (kt : y < x → Ev S d own cc rt t ls rest mem Q) (kf : ¬ (y < x) → Ev S d own cc rt pc' ls rest mem Q) : Ev S d own cc rt pc ls (.int y :: .int x :: rest) mem Q := by
  subst hp
  by_cases c : y < x
  · refine ev_nx hd rfl (fun call ls2 q => ⟨ls2, ?_, q⟩) (kt c)
    simp only [aex, ht]
    exact if_pos (by simp only [acnd, decide_eq_true_eq]; exact c)
  · refine ev_nx hd rfl (fun call ls2 q => ⟨ls2, ?_, q⟩) (kf c)
    simp only [aex, ht]
    exact if_neg (by simp only [acnd, decide_eq_true_eq]; exact c)
theorem ev_icmp_le {x y : Int32} {off : Int} {t : Nat} (hd : decode cc pc = .ok (.if_icmp .le off, 3)) (hp : pc + 3 = pc') (ht : ajmp pc off = some t) (kt : x ≤ y → Ev S d own cc rt t ls rest mem Q) (kf : ¬ (x ≤ y) → Ev S d own cc rt pc' ls rest mem Q) : Ev S d own cc rt pc ls (.int y :: .int x :: rest) mem Q := by
  subst hp
  by_cases c : x ≤ y
  · refine ev_nx hd rfl (fun call ls2 q => ⟨ls2, ?_, q⟩) (kt c)
    simp only [aex, ht]
    exact if_pos (by simp only [acnd, decide_eq_true_eq]; exact c)
  · refine ev_nx hd rfl (fun call ls2 q => ⟨ls2, ?_, q⟩) (kf c)
    simp only [aex, ht]
    exact if_neg (by simp only [acnd, decide_eq_true_eq]; exact c)
theorem ev_goto {off : Int} {t : Nat} (hd : decode cc pc = .ok (.goto off, 3)) (ht : ajmp pc off = some t) (k : Ev S d own cc rt t ls st mem Q) : Ev S d own cc rt pc ls st mem Q := ev_nx hd rfl (fun call ls2 q => ⟨ls2, by simp only [aex, ajm, ht], q⟩) k
theorem ev_ifnonnull {x : Nat} {off : Int} {t : Nat} (hd : decode cc pc = .ok (.ifnonnull off, 3)) (hx : x < 99) (ht : ajmp pc off = some t) (k : Ev S d own cc rt t ls rest mem Q) : Ev S d own cc rt pc ls (.ref x :: rest) mem Q := by
  have h9 : ¬ x = 99 := by omega
  refine ev_nx hd rfl (fun call ls2 q => ⟨ls2, ?_, q⟩) k
  simp only [aex, ajm, ht]
  exact if_neg h9
theorem ev_lookup {x : Int32} {dflt off : Int} {ps : Array (Int × Int)} {len t : Nat} (hd : decode cc pc = .ok (.lookupswitch dflt ps, len)) (hz : (ps.toList.zip (ps.toList.drop 1)).all (fun (a, next) => a.1 < next.1) = true) (ho : Op.lookupswitch.offset ps.toList dflt x.toInt = off) (ht : ajmp pc off = some t) (k : Ev S d own cc rt t ls rest mem Q) : Ev S d own cc rt pc ls (.int x :: rest) mem Q := by
  refine ev_nx hd rfl (fun call ls2 q => ⟨ls2, ?_, q⟩) k
  simp only [aex, ajm, ho, ht]
  exact if_pos hz
theorem ev_tableOut {x : Int32} {dflt lo hi : Int} {offs : Array Int} {len t : Nat} (hd : decode cc pc = .ok (.tableswitch dflt lo hi offs, len)) (h : x.toInt < lo ∨ hi < x.toInt) (ht : ajmp pc dflt = some t) (k : Ev S d own cc rt t ls rest mem Q) : Ev S d own cc rt pc ls (.int x :: rest) mem Q := by
  refine ev_nx hd rfl (fun call ls2 q => ⟨ls2, ?_, q⟩) k
  simp only [aex, ajm, ht]
  exact if_pos h
theorem ev_tableIn {x v : Int32} {dflt lo hi off : Int} {offs : Array Int} {len t : Nat} (hd : decode cc pc = .ok (.tableswitch dflt lo hi offs, len)) (hx : x = v) (h : ¬ (v.toInt < lo ∨ hi < v.toInt)) (ho : offs[(v.toInt - lo).toNat]? = some off) (ht : ajmp pc off = some t) (k : Ev S d own cc rt t ls rest mem Q) : Ev S d own cc rt pc ls (.int x :: rest) mem Q := by
  subst hx
  refine ev_nx hd rfl (fun call ls2 q => ⟨ls2, ?_, q⟩) k
  simp only [aex, ajm]
  rw [if_neg h, ho]
  dsimp only
  rw [ht]
theorem ev_ldc {i : Nat} {v : Int32} (hd : decode cc pc = .ok (.ldc i, 2)) (hp : pc + 2 = pc') (hv : lk2 iTL own i = some v) (k : Ev S d own cc rt pc' ls (.int v :: st) mem Q) : Ev S d own cc rt pc ls (st) mem Q := by
  subst hp
  exact ev_nx hd rfl (fun call ls2 q => ⟨ls2, by simp only [aex, hv], q⟩) k
theorem ev_ldcS {i v : Nat} (hd : decode cc pc = .ok (.ldc i, 2)) (hp : pc + 2 = pc') (hn : lk2 iTL own i = none) (hv : lk2 xTL own i = some v) (k : Ev S d own cc rt pc' ls (.ref (50 + v) :: st) mem Q) : Ev S d own cc rt pc ls (st) mem Q := by
  subst hp
  exact ev_nx hd rfl (fun call ls2 q => ⟨ls2, by simp only [aex, hn, hv], q⟩) k
theorem ev_ldc_w {i : Nat} {v : Int32} (hd : decode cc pc = .ok (.ldc_w i, 3)) (hp : pc + 3 = pc') (hv : lk2 iTL own i = some v) (k : Ev S d own cc rt pc' ls (.int v :: st) mem Q) : Ev S d own cc rt pc ls (st) mem Q := by
  subst hp
  exact ev_nx hd rfl (fun call ls2 q => ⟨ls2, by simp only [aex, hv], q⟩) k
theorem ev_ldc2 {i : Nat} {v : Int64} (hd : decode cc pc = .ok (.ldc2_w i, 3)) (hp : pc + 3 = pc') (hv : lk2 lTL own i = some v) (k : Ev S d own cc rt pc' ls (.long v :: st) mem Q) : Ev S d own cc rt pc ls (st) mem Q := by
  subst hp
  exact ev_nx hd rfl (fun call ls2 q => ⟨ls2, by simp only [aex, hv], q⟩) k
theorem ev_getsC  (hd : decode cc pc = .ok (.getstatic 38, 3)) (hp : pc + 3 = pc') (ho : own = 10) (k : Ev S d own cc rt pc' ls (.int 1 :: st) mem Q) : Ev S d own cc rt pc ls (st) mem Q := by
  subst hp
  exact ev_nx hd rfl (fun call ls2 q => ⟨ls2, by subst ho; rfl, q⟩) k
theorem ev_getsF  (hd : decode cc pc = .ok (.getstatic 1053, 3)) (hp : pc + 3 = pc') (ho : own = 10) (k : Ev S d own cc rt pc' ls (.ref 99 :: st) mem Q) : Ev S d own cc rt pc ls (st) mem Q := by
  subst hp
  exact ev_nx hd rfl (fun call ls2 q => ⟨ls2, by subst ho; rfl, q⟩) k
theorem ev_get {i x ci f : Nat} (hd : decode cc pc = .ok (.getfield i, 3)) (hp : pc + 3 = pc') (hf : lk2 fTL own i = some (ci, f)) (hk : kdp x ci) (hr : rfT ci f x = none) (k : Ev S d own cc rt pc' ls (.int (mem x f) :: rest) mem Q) : Ev S d own cc rt pc ls (.ref x :: rest) mem Q := by
  subst hp
  exact ev_nx hd rfl (fun call ls2 q => ⟨ls2, by simp only [aex, hf]; rw [if_pos hk]; simp only [fv, hr], q⟩) k
theorem ev_getR {i x y ci f : Nat} (hd : decode cc pc = .ok (.getfield i, 3)) (hp : pc + 3 = pc') (hf : lk2 fTL own i = some (ci, f)) (hk : kdp x ci) (hr : rfT ci f x = some y) (k : Ev S d own cc rt pc' ls (.ref y :: rest) mem Q) : Ev S d own cc rt pc ls (.ref x :: rest) mem Q := by
  subst hp
  exact ev_nx hd rfl (fun call ls2 q => ⟨ls2, by simp only [aex, hf]; rw [if_pos hk]; simp only [fv, hr], q⟩) k
theorem ev_getV {x : Nat} (hd : decode cc pc = .ok (.getfield 9, 3)) (hp : pc + 3 = pc') (ho : own = 10) (hk : kd x = 7) (k : Ev S d own cc rt pc' ls (.ref (x + 10) :: rest) mem Q) : Ev S d own cc rt pc ls (.ref x :: rest) mem Q := by
  subst hp
  exact ev_nx hd rfl (fun call ls2 q => ⟨ls2, by subst ho; simp only [aex, show lk2 fTL 10 9 = none from by decide +kernel]; rw [if_pos ⟨trivial, hk⟩, if_pos trivial], q⟩) k
theorem ev_getC {x : Nat} (hd : decode cc pc = .ok (.getfield 15, 3)) (hp : pc + 3 = pc') (ho : own = 10) (hk : kd x = 7) (k : Ev S d own cc rt pc' ls (.int 0 :: rest) mem Q) : Ev S d own cc rt pc ls (.ref x :: rest) mem Q := by
  subst hp
  exact ev_nx hd rfl (fun call ls2 q => ⟨ls2, by subst ho; simp only [aex, show lk2 fTL 10 15 = none from by decide +kernel]; rw [if_pos ⟨trivial, hk⟩, if_neg (by decide), if_pos trivial], q⟩) k
theorem ev_put {i x ci f : Nat} {v : Int32} (hd : decode cc pc = .ok (.putfield i, 3)) (hp : pc + 3 = pc') (hf : lk2 fTL own i = some (ci, f)) (hk : kdp x ci) (hr : rfT ci f x = none) (hv : pok ci f v) (k : Ev S d own cc rt pc' ls (rest) (mset mem x f v) Q) : Ev S d own cc rt pc ls (.int v :: .ref x :: rest) mem Q := by
  subst hp
  exact ev_nx hd rfl (fun call ls2 q => ⟨ls2, by simp only [aex, hf]; exact if_pos ⟨hk, hr, hv⟩, q⟩) k
theorem ev_iald {x : Nat} {i : Int32} (hd : decode cc pc = .ok (.iaload, 1)) (hp : pc + 1 = pc') (hk : kdp x 5) (hi : vin i (ln x)) (k : Ev S d own cc rt pc' ls (.int (mem x i.toNatClampNeg) :: rest) mem Q) : Ev S d own cc rt pc ls (.int i :: .ref x :: rest) mem Q := by
  subst hp
  exact ev_nx hd rfl (fun call ls2 q => ⟨ls2, if_pos ⟨hk, hi⟩, q⟩) k
theorem ev_sald {i : Int32} (hd : decode cc pc = .ok (.iaload, 1)) (hp : pc + 1 = pc') (hi : vin i S.1) (k : Ev S d own cc rt pc' ls (.int (S.2 i.toNatClampNeg) :: rest) mem Q) : Ev S d own cc rt pc ls (.int i :: .ref 90 :: rest) mem Q := by
  subst hp
  exact ev_nx hd rfl (fun call ls2 q => ⟨ls2, by simp only [aex]; rw [if_neg (by rintro ⟨⟨-, z⟩, -⟩; omega)]; exact if_pos ⟨trivial, hi⟩, q⟩) k
theorem ev_iast {x : Nat} {i v : Int32} (hd : decode cc pc = .ok (.iastore, 1)) (hp : pc + 1 = pc') (hk : kdp x 5) (hi : vin i (ln x)) (k : Ev S d own cc rt pc' ls (rest) (mset mem x i.toNatClampNeg v) Q) : Ev S d own cc rt pc ls (.int v :: .int i :: .ref x :: rest) mem Q := by
  subst hp
  exact ev_nx hd rfl (fun call ls2 q => ⟨ls2, if_pos ⟨hk, hi⟩, q⟩) k
theorem ev_aald {x : Nat} {i : Int32} (hd : decode cc pc = .ok (.aaload, 1)) (hp : pc + 1 = pc') (hk : kdp x 6) (hi : vin i 7) (k : Ev S d own cc rt pc' ls (.ref (x + 1 + i.toNatClampNeg) :: rest) mem Q) : Ev S d own cc rt pc ls (.int i :: .ref x :: rest) mem Q := by
  subst hp
  exact ev_nx hd rfl (fun call ls2 q => ⟨ls2, if_pos ⟨hk, hi⟩, q⟩) k
theorem ev_bald {x : Nat} {i : Int32} (hd : decode cc pc = .ok (.baload, 1)) (hp : pc + 1 = pc') (hk : kd x = 8) (hi : vin i (ablen x)) (k : Ev S d own cc rt pc' ls (.int (abyt x i.toNatClampNeg) :: rest) mem Q) : Ev S d own cc rt pc ls (.int i :: .ref x :: rest) mem Q := by
  subst hp
  exact ev_nx hd rfl (fun call ls2 q => ⟨ls2, if_pos ⟨hk, hi⟩, q⟩) k
theorem ev_alen {x : Nat} {n : Int32} (hd : decode cc pc = .ok (.arraylength, 1)) (hp : pc + 1 = pc') (hk : kdp x 5) (hn : Int32.ofNat (ln x) = n) (k : Ev S d own cc rt pc' ls (.int n :: rest) mem Q) : Ev S d own cc rt pc ls (.ref x :: rest) mem Q := by
  subst hp
  exact ev_nx hd rfl (fun call ls2 q => ⟨ls2, by rw [← hn]; exact if_pos hk, q⟩) k
theorem ev_alenC {x : Nat} (hd : decode cc pc = .ok (.arraylength, 1)) (hp : pc + 1 = pc') (hk : kdp x 6) (k : Ev S d own cc rt pc' ls (.int 7 :: rest) mem Q) : Ev S d own cc rt pc ls (.ref x :: rest) mem Q := by
  subst hp
  exact ev_nx hd rfl (fun call ls2 q => ⟨ls2, by simp only [aex]; rw [if_neg (by rintro ⟨z, -⟩; rw [hk.1] at z; cases z)]; exact if_pos hk, q⟩) k
theorem ev_alenB {x : Nat} (hd : decode cc pc = .ok (.arraylength, 1)) (hp : pc + 1 = pc') (hk : kd x = 8) (k : Ev S d own cc rt pc' ls (.int (Int32.ofNat (ablen x)) :: rest) mem Q) : Ev S d own cc rt pc ls (.ref x :: rest) mem Q := by
  subst hp
  exact ev_nx hd rfl (fun call ls2 q => ⟨ls2, by simp only [aex]; rw [if_neg (by rintro ⟨z, -⟩; rw [hk] at z; cases z), if_neg (by rintro ⟨z, -⟩; rw [hk] at z; cases z)]; exact if_pos hk, q⟩) k
theorem ev_alenS  (hd : decode cc pc = .ok (.arraylength, 1)) (hp : pc + 1 = pc')  (k : Ev S d own cc rt pc' ls (.int (Int32.ofNat S.1) :: rest) mem Q) : Ev S d own cc rt pc ls (.ref 90 :: rest) mem Q := by
  subst hp
  exact ev_nx hd rfl (fun call ls2 q => ⟨ls2, rfl, q⟩) k
theorem ev_invS {i μ : Nat} {b : Bool} {D : MD} {vs : List Value} (hd : decode cc pc = .ok (.invokestatic i, 3)) (hp : pc + 3 = pc') (hs : lk2 sTL own i = some (b, μ)) (hD : mTL[μ]? = some D) (hst : D.st = true) (hn : ∃ n, n = (if D.st = true then D.na else D.na + 1) ∧ n ≤ st.length ∧ awd (st.drop n) ≤ 8 ∧ (st.take n).reverse = vs ∧ st.drop n = rest) (k : Ca S d μ vs mem (fun r m' => Ev S d own cc rt pc' ls (r.toList ++ rest) m' Q)) : Ev S d own cc rt pc ls st mem Q := ev_inv hd rfl (fun call ls2 => by simp only [aex, hs, hD]; exact if_pos hst) hn hp k
theorem ev_invV {i μ : Nat} {b : Bool} {D : MD} {vs : List Value} (hd : decode cc pc = .ok (.invokevirtual i, 3)) (hp : pc + 3 = pc') (hs : lk2 sTL own i = some (b, μ)) (hD : mTL[μ]? = some D) (hst : D.st = false) (hr : arecv D st = true) (hn : ∃ n, n = (if D.st = true then D.na else D.na + 1) ∧ n ≤ st.length ∧ awd (st.drop n) ≤ 8 ∧ (st.take n).reverse = vs ∧ st.drop n = rest) (k : Ca S d μ vs mem (fun r m' => Ev S d own cc rt pc' ls (r.toList ++ rest) m' Q)) : Ev S d own cc rt pc ls st mem Q := ev_inv hd rfl (fun call ls2 => by simp only [aex, hs, hD]; exact if_pos ⟨hst, hr⟩) hn hp k
theorem arecv_ob {D : MD} {st : List Value} {x ci : Nat} (h1 : st[D.na]? = some (.ref x)) (h2 : D.own = ci) (h5 : ci < 5) (hk : kdp x ci) : arecv D st = true := by
  subst h2
  unfold arecv
  rw [h1]
  dsimp only
  rw [if_pos h5]
  exact decide_eq_true hk
theorem arecv_tx {D : MD} {st : List Value} {x : Nat} (h1 : st[D.na]? = some (.ref x)) (h2 : D.own = 10) (hk : kd x = 7) : arecv D st = true := by
  unfold arecv
  rw [h1]
  dsimp only
  rw [if_neg (by omega)]
  exact decide_eq_true ⟨h2, hk⟩
theorem ev_ireturn {v : Int32} (hd : decode cc pc = .ok (.ireturn, 1)) (hr : aret rt [.int v] = some (some (.int v))) (k : Q (some (.int v)) mem) : Ev S d own cc rt pc ls [.int v] mem Q := ev_rt hd rfl (fun call ls2 => by simp only [aex, arets, hr]) k
theorem aret_i {v : Int32} : aret (some .int) [.int v] = some (some (.int v)) := rfl
theorem aret_z {v : Int32} (h : v = 0 ∨ v = 1) : aret (some .boolean) [.int v] = some (some (.int v)) := if_pos h
theorem aret_b {v : Int32} (h : v.toInt8.toInt32 = v) : aret (some .byte) [.int v] = some (some (.int v)) := if_pos h
theorem aret_c {v : Int32} (h : v.toUInt32.toUInt16.toUInt32.toInt32 = v) : aret (some .char) [.int v] = some (some (.int v)) := if_pos h
theorem ev_lreturn {v : Int64} (hd : decode cc pc = .ok (.lreturn, 1)) (hr : rt = some .long) (k : Q (some (.long v)) mem) : Ev S d own cc rt pc ls [.long v] mem Q := by
  subst hr
  exact ev_rt hd rfl (fun call ls2 => rfl) k
theorem ev_areturn {x : Nat} {n : String} (hd : decode cc pc = .ok (.areturn, 1)) (hr : rt = some (.object n)) (hx : x < 99) (k : Q (some (.ref x)) mem) : Ev S d own cc rt pc ls [.ref x] mem Q := by
  subst hr
  have h9 : ¬ x = 99 := by omega
  exact ev_rt hd rfl (fun call ls2 => by simp only [aex, arets]; rw [if_neg h9]) k
theorem ev_return (hd : decode cc pc = .ok (.return_, 1)) (hr : rt = none) (k : Q none mem) : Ev S d own cc rt pc ls [] mem Q := by
  subst hr
  exact ev_rt hd rfl (fun call ls2 => rfl) k
end EVR
/-- the words of the pure functions: a call that may fail, a guard, a name -/
def ob {α β : Type} (x : Option α) (k : α → Option β) : Option β := match x with
  | some y => k y
  | none => none
theorem ob_of {α β : Type} {x : Option α} {k : α → Option β} {r : β} (h : ob x k = some r) : ∃ y, x = some y ∧ k y = some r := by
  unfold ob at h
  split at h
  next y => exact ⟨y, rfl, h⟩
  next => cases h
def nm {α β : Type} (x : α) (k : α → β) : β := k x
theorem nm_at {α β : Type} {x y : α} {k : α → β} {r : β} (e : y = x) (h : nm x k = r) : k y = r := by subst e; exact h
def gd {β : Type} (c : Prop) [Decidable c] (k : Option β) : Option β := if c then k else none
theorem gd_of {β : Type} {c : Prop} [Decidable c] {k : Option β} {r : β} (h : gd c k = some r) : c ∧ k = some r := by
  unfold gd at h
  split at h
  next hc => exact ⟨hc, h⟩
  next => cases h
theorem it_t {α : Sort _} {c : Prop} [Decidable c] {a b r : α} (hc : c) (h : (if c then a else b) = r) : a = r := (if_pos hc).symm.trans h
theorem it_f {α : Sort _} {c : Prop} [Decidable c] {a b r : α} (hc : ¬ c) (h : (if c then a else b) = r) : b = r := (if_neg hc).symm.trans h
theorem kd_town {o : Nat} (h : kdp o 2) : kdp (o + 1) 6 ∧ kdp (o + 9) 0 ∧ ∀ i, i < 7 → kdp (o + 1 + 1 + i) 0 := by
  have key : ∀ k, k < 44 → kdp k 2 → kdp (k + 1) 6 ∧ kdp (k + 9) 0 ∧ ∀ i, i < 7 → kdp (k + 1 + 1 + i) 0 := by decide +kernel
  exact key o h.2 h
theorem kd_lett {o : Nat} (h : kdp o 1) : kdp (o + 1) 5 ∧ ln (o + 1) = 96 := by
  have key : ∀ k, k < 44 → kdp k 1 → kdp (k + 1) 5 ∧ ln (k + 1) = 96 := by decide +kernel
  exact key o h.2 h
def LF : Nat := 4000
/-- a call that may fail and writes -/
def ob2 {α β γ : Type} (x : Option (α × β)) (k : α → β → Option γ) : Option γ := match x with
  | some y => k y.1 y.2
  | none => none
theorem ob2_of {α β γ : Type} {x : Option (α × β)} {k : α → β → Option γ} {r : γ} (h : ob2 x k = some r) : ∃ y m, x = some (y, m) ∧ k y m = some r := by
  unfold ob2 at h
  split at h
  next y => exact ⟨y.1, y.2, rfl, h⟩
  next => cases h
def nm2 {α β γ : Type} (x : α × β) (k : α → β → γ) : γ := k x.1 x.2
theorem nm2_of {α β γ : Type} {x : α × β} {k : α → β → γ} {r : γ} (h : nm2 x k = r) : ∃ y m, x = (y, m) ∧ k y m = r := ⟨x.1, x.2, rfl, h⟩
theorem lsub_nil : lsub [] [] := lsub_refl _
theorem lsub_c {a : Option Value} {l1 l2 : Lo} (h : lsub l1 l2) : lsub (a :: l1) (a :: l2) := by
  refine ⟨by rw [List.length_cons, List.length_cons, h.1], fun k v hk => ?_⟩
  cases k with
  | zero => exact hk
  | succ k =>
    rw [List.getElem?_cons_succ] at hk ⊢
    exact h.2 k v hk
theorem lsub_n {a : Option Value} {l1 l2 : Lo} (h : lsub l1 l2) : lsub (none :: l1) (a :: l2) := by
  refine ⟨by rw [List.length_cons, List.length_cons, h.1], fun k v hk => ?_⟩
  cases k with
  | zero => simp at hk
  | succ k =>
    rw [List.getElem?_cons_succ] at hk ⊢
    exact h.2 k v hk
section EVR2
variable {S : Sc} {d own : Nat} {cc : ByteArray} {rt : Option FieldType} {pc pc' : Nat} {ls ls' : Lo} {st rest : List Value} {mem mem' : Mm} {Q : Po}
theorem ev_r1 {v : Value} (k : Ev S d own cc rt pc ls (v :: rest) mem Q) : Ev S d own cc rt pc ls ((some v).toList ++ rest) mem Q := k
theorem ev_r0 (k : Ev S d own cc rt pc ls rest mem Q) : Ev S d own cc rt pc ls ((none : Option Value).toList ++ rest) mem Q := k
theorem ev_ialdK {x k0 : Nat} {i : Int32} (hd : decode cc pc = .ok (.iaload, 1)) (hp : pc + 1 = pc') (hk : kdp x 5) (hi : vin i (ln x)) (hk0 : i.toNatClampNeg = k0) (k : Ev S d own cc rt pc' ls (.int (mem x k0) :: rest) mem Q) : Ev S d own cc rt pc ls (.int i :: .ref x :: rest) mem Q := by
  subst hk0
  exact ev_iald hd hp hk hi k
theorem ev_iastK {x k0 : Nat} {i v : Int32} (hd : decode cc pc = .ok (.iastore, 1)) (hp : pc + 1 = pc') (hk : kdp x 5) (hi : vin i (ln x)) (hk0 : i.toNatClampNeg = k0) (k : Ev S d own cc rt pc' ls rest (mset mem x k0 v) Q) : Ev S d own cc rt pc ls (.int v :: .int i :: .ref x :: rest) mem Q := by
  subst hk0
  exact ev_iast hd hp hk hi k
theorem ev_lookupIn {x v : Int32} {dflt off : Int} {ps : Array (Int × Int)} {len t : Nat} (hd : decode cc pc = .ok (.lookupswitch dflt ps, len)) (hz : (ps.toList.zip (ps.toList.drop 1)).all (fun (a, next) => a.1 < next.1) = true) (hx : x = v) (ho : Op.lookupswitch.offset ps.toList dflt v.toInt = off) (ht : ajmp pc off = some t) (k : Ev S d own cc rt t ls rest mem Q) : Ev S d own cc rt pc ls (.int x :: rest) mem Q := by
  subst hx
  exact ev_lookup hd hz ho ht k
theorem lsw_def : ∀ (ps : List (Int × Int)) (Ls : List Int32) (x : Int32) (dflt : Int), ps.map (fun q => q.1) = Ls.map (fun v => v.toInt) → (∀ v ∈ Ls, ¬ x = v) → Op.lookupswitch.offset ps dflt x.toInt = dflt
  | [], _, _, _, _, _ => rfl
  | (a, o) :: ps, [], x, dflt, h, _ => by simp at h
  | (a, o) :: ps, v :: Ls, x, dflt, h, hx => by
    have h1 : a = v.toInt := by simpa using (List.cons.inj h).1
    have h2 : ps.map (fun q => q.1) = Ls.map (fun v => v.toInt) := (List.cons.inj h).2
    rw [lv_osw (hx v List.mem_cons_self) h1.symm]
    exact lsw_def ps Ls x dflt h2 (fun w hw => hx w (List.mem_cons_of_mem _ hw))
theorem ev_lookupDef {x : Int32} {dflt : Int} {ps : Array (Int × Int)} {len t : Nat} (hd : decode cc pc = .ok (.lookupswitch dflt ps, len)) (hz : (ps.toList.zip (ps.toList.drop 1)).all (fun (a, next) => a.1 < next.1) = true) (Ls : List Int32) (hm : ps.toList.map (fun q => q.1) = Ls.map (fun v => v.toInt)) (hx : ∀ v ∈ Ls, ¬ x = v) (ht : ajmp pc dflt = some t) (k : Ev S d own cc rt t ls rest mem Q) : Ev S d own cc rt pc ls (.int x :: rest) mem Q :=
  ev_lookup hd hz (lsw_def _ Ls x dflt hm hx) ht k
theorem ev_tableDef {x : Int32} {dflt lo hi : Int} {offs : Array Int} {len t : Nat} (hd : decode cc pc = .ok (.tableswitch dflt lo hi offs, len)) (Ls : List Int32) (hm : ∀ k, k < (hi - lo + 1).toNat → (lo + (k : Int)) ∈ Ls.map (fun v => v.toInt) ∨ offs[k]? = some dflt) (hx : ∀ v ∈ Ls, ¬ x = v) (ht : ajmp pc dflt = some t) (k : Ev S d own cc rt t ls rest mem Q) : Ev S d own cc rt pc ls (.int x :: rest) mem Q := by
  by_cases h : x.toInt < lo ∨ hi < x.toInt
  · exact ev_tableOut hd h ht k
  · refine ev_nx hd rfl (fun call ls2 q => ⟨ls2, ?_, q⟩) k
    simp only [aex, ajm]
    rw [if_neg h]
    have hno : x.toInt ∉ Ls.map (fun v => v.toInt) := by
      intro z
      obtain ⟨v, hv, e⟩ := List.mem_map.mp z
      exact hx v hv (Int32.toInt_inj.mp e.symm)
    rcases hm (x.toInt - lo).toNat (by omega) with z | z
    · exfalso
      apply hno
      rw [show lo + (((x.toInt - lo).toNat : Nat) : Int) = x.toInt by omega] at z
      exact z
    · rw [z]
      dsimp only
      rw [ht]
end EVR2
theorem rt1 {α : Type} {a b : α} (h : some a = some b) : a = b := Option.some.inj h
theorem rt2 {α β : Type} {a b : α} {m n : β} (h : some (a, m) = some (b, n)) : a = b ∧ m = n := by
  have := Option.some.inj h
  exact ⟨congrArg Prod.fst this, congrArg Prod.snd this⟩
theorem rt2t {α β : Type} {a b : α} {m n : β} (h : (a, m) = (b, n)) : a = b ∧ m = n := ⟨congrArg Prod.fst h, congrArg Prod.snd h⟩
def mabs (x : Int32) : Int32 := if 0 ≤ x then x else 0 - x
def mmax (x y : Int32) : Int32 := if x < y then y else x
def mmin (x y : Int32) : Int32 := if y < x then y else x
theorem kd78 {o : Nat} (h : kd o = 7) : kd (o + 10) = 8 := by
  have h1 := kd7 h
  have key : ∀ k, k < 8 → kd (60 + k) = 8 := by decide
  have := key (o - 50) (by omega)
  rw [show 60 + (o - 50) = o + 10 by omega] at this
  exact this
theorem kn_0 : kdp 0 3 := by decide
theorem kn_1 : kdp 1 2 := by decide
theorem kn_2 : kdp 2 6 := by decide
theorem kn_3 : kdp 3 0 := by decide
theorem kn_4 : kdp 4 0 := by decide
theorem kn_5 : kdp 5 0 := by decide
theorem kn_6 : kdp 6 0 := by decide
theorem kn_7 : kdp 7 0 := by decide
theorem kn_8 : kdp 8 0 := by decide
theorem kn_9 : kdp 9 0 := by decide
theorem kn_10 : kdp 10 0 := by decide
theorem kn_11 : kdp 11 2 := by decide
theorem kn_12 : kdp 12 6 := by decide
theorem kn_13 : kdp 13 0 := by decide
theorem kn_14 : kdp 14 0 := by decide
theorem kn_15 : kdp 15 0 := by decide
theorem kn_16 : kdp 16 0 := by decide
theorem kn_17 : kdp 17 0 := by decide
theorem kn_18 : kdp 18 0 := by decide
theorem kn_19 : kdp 19 0 := by decide
theorem kn_20 : kdp 20 0 := by decide
theorem kn_21 : kdp 21 2 := by decide
theorem kn_22 : kdp 22 6 := by decide
theorem kn_23 : kdp 23 0 := by decide
theorem kn_24 : kdp 24 0 := by decide
theorem kn_25 : kdp 25 0 := by decide
theorem kn_26 : kdp 26 0 := by decide
theorem kn_27 : kdp 27 0 := by decide
theorem kn_28 : kdp 28 0 := by decide
theorem kn_29 : kdp 29 0 := by decide
theorem kn_30 : kdp 30 0 := by decide
theorem kn_31 : kdp 31 1 := by decide
theorem kn_32 : kdp 32 5 := by decide
theorem kn_33 : kdp 33 5 := by decide
theorem kn_34 : kdp 34 5 := by decide
theorem kn_35 : kdp 35 4 := by decide
theorem kn_36 : kdp 36 5 := by decide
theorem kn_37 : kdp 37 5 := by decide
theorem kn_38 : kdp 38 5 := by decide
theorem kn_39 : kdp 39 5 := by decide
theorem kn_40 : kdp 40 5 := by decide
theorem kn_41 : kdp 41 5 := by decide
theorem kn_42 : kdp 42 5 := by decide
theorem kn_43 : kdp 43 5 := by decide
