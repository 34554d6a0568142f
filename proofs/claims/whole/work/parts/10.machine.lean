/-! THE SMALL MACHINE: objects by numbers, their ints in one table; what a method's code does there (ab_step, ab_loop, ab_run). Part 11 shows that the machine of the Statement does the same. -/
abbrev Mm : Type := Nat → Nat → Int32
abbrev Lo : Type := List (Option Value)
abbrev Rz : Type := Option Value × Mm
abbrev S5 : Type := Nat × Lo × List Value × Mm
abbrev Cf : Type := Nat → List Value → Mm → Option Rz
def mset (mem : Mm) (o k : Nat) (v : Int32) : Mm := fun i j => if i = o then (if j = k then v else mem i j) else mem i j
/-- kinds of the objects: 0 Cask, 1 Letters, 2 Town, 3 the class, 4 the reference, 5 an int array, 6 a Town's array of Casks, 7 a String constant, 8 its bytes, 9 the script -/
def kdL : List Nat := [3, 2, 6, 0, 0, 0, 0, 0, 0, 0, 0, 2, 6, 0, 0, 0, 0, 0, 0, 0, 0, 2, 6, 0, 0, 0, 0, 0, 0, 0, 0, 1, 5, 5, 5, 4, 5, 5, 5, 5, 5, 5, 5, 5]
def kd (o : Nat) : Nat := if o < 44 then kdL.getD o 99 else if o < 50 then 99 else if o < 58 then 7 else if o < 60 then 99 else if o < 68 then 8 else if o = 90 then 9 else 99
def lnL : List Nat := [0, 0, 0, 0, 0, 0, 0, 0, 0, 0, 0, 0, 0, 0, 0, 0, 0, 0, 0, 0, 0, 0, 0, 0, 0, 0, 0, 0, 0, 0, 0, 0, 96, 12, 7, 0, 47, 47, 47, 47, 96, 12, 7, 5]
def ln (o : Nat) : Nat := lnL.getD o 0
/-- fields that hold an object, never written behind the constructors -/
def rfT : Nat → Nat → Nat → Option Nat
  | 1, 0, o => some (o + 1)
  | 2, 0, o => some (o + 1)
  | 2, 1, o => some (o + 9)
  | 3, 0, _ => some 1
  | 3, 1, _ => some 11
  | 3, 2, _ => some 21
  | 3, 4, _ => some 31
  | 3, 5, _ => some 33
  | 3, 7, _ => some 34
  | 4, 0, _ => some 36
  | 4, 1, _ => some 37
  | 4, 2, _ => some 38
  | 4, 3, _ => some 39
  | 4, 5, _ => some 40
  | 4, 6, _ => some 41
  | 4, 7, _ => some 42
  | 4, 13, _ => some 43
  | _, _, _ => none
def fv (ci k o : Nat) (mem : Mm) : Value := match rfT ci k o with
  | some j => .ref j
  | none => .int (mem o k)
def nfT : Nat → Nat
  | 0 => 6
  | 1 => 2
  | 2 => 7
  | 3 => 8
  | 4 => 15
  | _ => 0
def is2 : Option Value → Bool
  | some v => v.category == 2
  | none => false
def aset : Lo → Nat → Value → Lo
  | [], _, _ => []
  | _ :: t, 0, v => some v :: (if v.category = 2 then (match t with | [] => [] | _ :: t2 => none :: t2) else t)
  | a :: t, i + 1, v => (if i = 0 ∧ is2 a = true then none else a) :: aset t i v
def aget (ls : Lo) (i : Nat) : Option Value := match ls[i]? with
  | some (some v) => some v
  | _ => none
/-- the locals with which a method begins -/
def aent : Nat → List Value → Lo
  | n, [] => List.replicate n none
  | n, v :: vs => if v.category = 2 then some v :: none :: aent (n - 2) vs else some v :: aent (n - 1) vs
def awd (vs : List Value) : Nat := (vs.map fun v => v.category).sum
abbrev MD : Type := MethodName × ByteArray × Nat × Option FieldType × Nat × Nat × Bool
abbrev MD.y (d : MD) : MethodName := d.1
abbrev MD.c (d : MD) : ByteArray := d.2.1
abbrev MD.ml (d : MD) : Nat := d.2.2.1
abbrev MD.rt (d : MD) : Option FieldType := d.2.2.2.1
abbrev MD.own (d : MD) : Nat := d.2.2.2.2.1
abbrev MD.na (d : MD) : Nat := d.2.2.2.2.2.1
abbrev MD.st (d : MD) : Bool := d.2.2.2.2.2.2
def lk2 {α : Type} (t : List (Nat × Nat × α)) (a b : Nat) : Option α := match t.find? (fun e => e.1 == a && e.2.1 == b) with
  | some e => some e.2.2
  | none => none
theorem lk2_mem {α : Type} {t : List (Nat × Nat × α)} {a b : Nat} {x : α} (h : lk2 t a b = some x) : (a, b, x) ∈ t := by
  unfold lk2 at h
  split at h
  next e he =>
    have h1 := List.mem_of_find?_eq_some he
    have h2 := List.find?_some he
    simp only [Bool.and_eq_true, beq_iff_eq] at h2
    cases h
    obtain ⟨h3, h4⟩ := h2
    subst h3; subst h4
    exact h1
  next => cases h
/-- how many bytes an instruction must take (as the rows say) -/
def wlen : Instr → Nat → Nat
  | .bipush _, _ => 2
  | .sipush _, _ => 3
  | .iload _, _ => 2
  | .lload _, _ => 2
  | .aload _, _ => 2
  | .istore _, _ => 2
  | .lstore _, _ => 2
  | .astore _, _ => 2
  | .iinc _ _, _ => 3
  | .ifCond _ _, _ => 3
  | .if_icmp _ _, _ => 3
  | .ifnonnull _, _ => 3
  | .goto _, _ => 3
  | .getfield _, _ => 3
  | .putfield _, _ => 3
  | .getstatic _, _ => 3
  | .invokevirtual _, _ => 3
  | .invokestatic _, _ => 3
  | .ldc _, _ => 2
  | .ldc_w _, _ => 3
  | .ldc2_w _, _ => 3
  | .lookupswitch _ _, n => n
  | .tableswitch _ _ _ _, n => n
  | _, _ => 1
def acnd : ClassFile.Cond → Int32 → Int32 → Bool
  | .eq, x, y => decide (x = y)
  | .ne, x, y => decide (¬ x = y)
  | .lt, x, y => decide (x < y)
  | .ge, x, y => decide (y ≤ x)
  | .gt, x, y => decide (y < x)
  | .le, x, y => decide (x ≤ y)
def aret : Option FieldType → List Value → Option (Option Value)
  | some .int, [.int v] => some (some (.int v))
  | some .boolean, [.int v] => if v = 0 ∨ v = 1 then some (some (.int v)) else none
  | some .byte, [.int v] => if v.toInt8.toInt32 = v then some (some (.int v)) else none
  | some .char, [.int v] => if v.toUInt32.toUInt16.toUInt32.toInt32 = v then some (some (.int v)) else none
  | _, _ => none
/-- where a jump goes -/
def ajmp (pc : Nat) (off : Int) : Option Nat := if 0 ≤ (pc : Int) + off then some ((pc : Int) + off).toNat else none
abbrev anx (pc : Nat) (ls : Lo) (st : List Value) (mem : Mm) : Option (Rz ⊕ S5) := some (.inr (pc, ls, st, mem))
abbrev ajm (pc : Nat) (off : Int) (ls : Lo) (st : List Value) (mem : Mm) : Option (Rz ⊕ S5) := match ajmp pc off with
  | some t => anx t ls st mem
  | none => none
/-- index i within n -/
abbrev vin (i : Int32) (n : Nat) : Prop := ¬ (i < 0 ∨ n ≤ i.toNatClampNeg)
