/-! one instruction of the small machine; runs of it -/
def aload1 (ls : Lo) (i pc : Nat) (len : Nat) (st : List Value) (mem : Mm) (ok : Value → Bool) : Option (Rz ⊕ S5) := match aget ls i with
  | some v => if ok v = true then anx (pc + len) ls (v :: st) mem else none
  | none => none
def astore1 (ls : Lo) (i pc : Nat) (len : Nat) (st : List Value) (mem : Mm) (ok : Value → Bool) : Option (Rz ⊕ S5) := match st with
  | v :: rest => if ok v = true ∧ i + v.category ≤ ls.length then anx (pc + len) (aset ls i v) rest mem else none
  | _ => none
def isI : Value → Bool
  | .int _ => true
  | _ => false
def isL : Value → Bool
  | .long _ => true
  | _ => false
def isR : Value → Bool
  | .ref _ => true
  | _ => false
def abin (f : Int32 → Int32 → Int32) (pc : Nat) (ls : Lo) (st : List Value) (mem : Mm) : Option (Rz ⊕ S5) := match st with
  | .int y :: .int x :: rest => anx (pc + 1) ls (.int (f x y) :: rest) mem
  | _ => none
def abinL (f : Int64 → Int64 → Int64) (pc : Nat) (ls : Lo) (st : List Value) (mem : Mm) : Option (Rz ⊕ S5) := match st with
  | .long y :: .long x :: rest => anx (pc + 1) ls (.long (f x y) :: rest) mem
  | _ => none
def adiv (f : Int32 → Int32 → Int32) (pc : Nat) (ls : Lo) (st : List Value) (mem : Mm) : Option (Rz ⊕ S5) := match st with
  | .int y :: .int x :: rest => if y = 0 then none else anx (pc + 1) ls (.int (f x y) :: rest) mem
  | _ => none
def adivL (f : Int64 → Int64 → Int64) (pc : Nat) (ls : Lo) (st : List Value) (mem : Mm) : Option (Rz ⊕ S5) := match st with
  | .long y :: .long x :: rest => if y = 0 then none else anx (pc + 1) ls (.long (f x y) :: rest) mem
  | _ => none
def airem (x y : Int32) : Int32 := x - x / y * y
def airemL (x y : Int64) : Int64 := x - x / y * y
def aiush (x y : Int32) : Int32 := (x.toUInt32 >>> (y.toUInt32 &&& Int32.toUInt32 31)).toInt32
def abyt (o i : Nat) : Int32 := (kByt.getD (o - 60) []).getD i 0
def ablen (o : Nat) : Nat := kLen.getD (o - 60) 0
/-- the script: its length, its ints -/
abbrev Sc : Type := Nat × (Nat → Int32)
def acall (call : Cf) (d : MD) (μ : Nat) (pc : Nat) (ls : Lo) (st : List Value) (mem : Mm) : Option (Rz ⊕ S5) :=
  let n := if d.st = true then d.na else d.na + 1
  if n ≤ st.length ∧ awd (st.drop n) ≤ 8 then
    match call μ (st.take n).reverse mem with
    | some (r, mem') => anx (pc + 3) ls (r.toList ++ st.drop n) mem'
    | none => none
  else none
abbrev pok (ci f : Nat) (v : Int32) : Prop := ¬ ((ci = 3 ∧ f = 3) ∨ (ci = 4 ∧ f = 4)) ∨ v = 0 ∨ v = 1
abbrev kdp (o ci : Nat) : Prop := kd o = ci ∧ o < 44
def arecv (d : MD) (st : List Value) : Bool := match st[d.na]? with
  | some (.ref o) => if d.own < 5 then decide (kdp o d.own) else decide (d.own = 10 ∧ kd o = 7)
  | _ => false
def arets : Instr → Option FieldType → List Value → Option (Option Value)
  | .ireturn, rt, st => aret rt st
  | .lreturn, some .long, [.long v] => some (some (.long v))
  | .areturn, some (.object _), [.ref o] => if o = 99 then none else some (some (.ref o))
  | .return_, none, [] => some none
  | _, _, _ => none
/-- Math.abs, max, min -/
def amath : Nat → List Value → Option (Option Value)
  | 0, [.int x] => some (some (.int (if 0 ≤ x then x else 0 - x)))
  | 1, [.int x, .int y] => some (some (.int (if x < y then y else x)))
  | 2, [.int x, .int y] => some (some (.int (if y < x then y else x)))
  | _, _ => none
def aex (call : Cf) (S : Sc) (own : Nat) (rt : Option FieldType) (i : Instr) (len pc : Nat) (ls : Lo) (st : List Value) (mem : Mm) : Option (Rz ⊕ S5) :=
  match i with
  | .iconst n => anx (pc + 1) ls (.int (Int32.ofInt n) :: st) mem
  | .bipush n => anx (pc + 2) ls (.int (Int8.ofInt n).toInt32 :: st) mem
  | .sipush n => anx (pc + 3) ls (.int (Int16.ofInt n).toInt32 :: st) mem
  | .lconst n => anx (pc + 1) ls (.long (Int64.ofNat (n : Nat)) :: st) mem
  | .iload_n k => aload1 ls k pc 1 st mem isI
  | .iload k => aload1 ls k pc 2 st mem isI
  | .lload_n k => aload1 ls k pc 1 st mem isL
  | .lload k => aload1 ls k pc 2 st mem isL
  | .aload_n k => aload1 ls k pc 1 st mem isR
  | .aload k => aload1 ls k pc 2 st mem isR
  | .istore_n k => astore1 ls k pc 1 st mem isI
  | .istore k => astore1 ls k pc 2 st mem isI
  | .lstore_n k => astore1 ls k pc 1 st mem isL
  | .lstore k => astore1 ls k pc 2 st mem isL
  | .astore_n k => astore1 ls k pc 1 st mem isR
  | .astore k => astore1 ls k pc 2 st mem isR
  | .iinc k n => match aget ls k with
    | some (.int x) => anx (pc + 3) (aset ls k (.int (x + Int32.ofInt n))) st mem
    | _ => none
  | .iadd => abin (· + ·) pc ls st mem
  | .isub => abin (· - ·) pc ls st mem
  | .imul => abin (· * ·) pc ls st mem
  | .iand => abin (· &&& ·) pc ls st mem
  | .ior => abin (· ||| ·) pc ls st mem
  | .ishl => abin (fun x y => x <<< (y &&& 31)) pc ls st mem
  | .ishr => abin (fun x y => x >>> (y &&& 31)) pc ls st mem
  | .iushr => abin aiush pc ls st mem
  | .idiv => adiv (· / ·) pc ls st mem
  | .irem => adiv airem pc ls st mem
  | .ineg => match st with
    | .int x :: rest => anx (pc + 1) ls (.int (-x) :: rest) mem
    | _ => none
  | .ladd => abinL (· + ·) pc ls st mem
  | .lsub => abinL (· - ·) pc ls st mem
  | .lmul => abinL (· * ·) pc ls st mem
  | .ldiv => adivL (· / ·) pc ls st mem
  | .lrem => adivL airemL pc ls st mem
  | .lcmp => match st with
    | .long y :: .long x :: rest => anx (pc + 1) ls (.int (lg_cmp x y) :: rest) mem
    | _ => none
  | .i2l => match st with
    | .int x :: rest => anx (pc + 1) ls (.long x.toInt64 :: rest) mem
    | _ => none
  | .i2c => match st with
    | .int x :: rest => anx (pc + 1) ls (.int (x.toUInt32 % 65536).toInt32 :: rest) mem
    | _ => none
  | .i2b => match st with
    | .int x :: rest => anx (pc + 1) ls (.int x.toInt8.toInt32 :: rest) mem
    | _ => none
  | .dup => match st with
    | v :: rest => if v.category = 1 then anx (pc + 1) ls (v :: v :: rest) mem else none
    | _ => none
  | .pop => match st with
    | v :: rest => if v.category = 1 then anx (pc + 1) ls rest mem else none
    | _ => none
  | .dup2 => match st with
    | a :: b :: rest => if a.category = 1 ∧ b.category = 1 then anx (pc + 1) ls (a :: b :: a :: b :: rest) mem else none
    | _ => none
  | .ifCond c off => match st with
    | .int x :: rest => match ajmp pc off with
      | some t => if acnd c x 0 = true then anx t ls rest mem else anx (pc + 3) ls rest mem
      | none => none
    | _ => none
  | .if_icmp c off => match st with
    | .int y :: .int x :: rest => match ajmp pc off with
      | some t => if acnd c x y = true then anx t ls rest mem else anx (pc + 3) ls rest mem
      | none => none
    | _ => none
  | .goto off => ajm pc off ls st mem
  | .ifnonnull off => match st with
    | .ref o :: rest => if o = 99 then none else ajm pc off ls rest mem
    | _ => none
  | .lookupswitch dflt ps => match st with
    | .int x :: rest => if (ps.toList.zip (ps.toList.drop 1)).all (fun (a, next) => a.1 < next.1) = true then ajm pc (Op.lookupswitch.offset ps.toList dflt x.toInt) ls rest mem else none
    | _ => none
  | .tableswitch dflt lo hi offs => match st with
    | .int x :: rest => if x.toInt < lo ∨ hi < x.toInt then ajm pc dflt ls rest mem else match offs[(x.toInt - lo).toNat]? with
      | some off => ajm pc off ls rest mem
      | none => none
    | _ => none
  | .ldc k => match lk2 iTL own k with
    | some v => anx (pc + 2) ls (.int v :: st) mem
    | none => match lk2 xTL own k with
      | some i => anx (pc + 2) ls (.ref (50 + i) :: st) mem
      | none => none
  | .ldc_w k => match lk2 iTL own k with
    | some v => anx (pc + 3) ls (.int v :: st) mem
    | none => none
  | .ldc2_w k => match lk2 lTL own k with
    | some v => anx (pc + 3) ls (.long v :: st) mem
    | none => none
  | .getstatic k => if own = 10 ∧ k = 38 then anx (pc + 3) ls (.int 1 :: st) mem else if own = 10 ∧ k = 1053 then anx (pc + 3) ls (.ref 99 :: st) mem else none
  | .getfield k => match st with
    | .ref o :: rest => match lk2 fTL own k with
      | some (ci, f) => if kdp o ci then anx (pc + 3) ls (fv ci f o mem :: rest) mem else none
      | none => if own = 10 ∧ kd o = 7 then (if k = 9 then anx (pc + 3) ls (.ref (o + 10) :: rest) mem else if k = 15 then anx (pc + 3) ls (.int 0 :: rest) mem else none) else none
    | _ => none
  | .putfield k => match st with
    | .int v :: .ref o :: rest => match lk2 fTL own k with
      | some (ci, f) => if kdp o ci ∧ (rfT ci f o = none) ∧ pok ci f v then anx (pc + 3) ls rest (mset mem o f v) else none
      | none => none
    | _ => none
  | .iaload => match st with
    | .int i :: .ref o :: rest => if kdp o 5 ∧ vin i (ln o) then anx (pc + 1) ls (.int (mem o i.toNatClampNeg) :: rest) mem else if o = 90 ∧ vin i S.1 then anx (pc + 1) ls (.int (S.2 i.toNatClampNeg) :: rest) mem else none
    | _ => none
  | .iastore => match st with
    | .int v :: .int i :: .ref o :: rest => if kdp o 5 ∧ vin i (ln o) then anx (pc + 1) ls rest (mset mem o i.toNatClampNeg v) else none
    | _ => none
  | .aaload => match st with
    | .int i :: .ref o :: rest => if kdp o 6 ∧ vin i 7 then anx (pc + 1) ls (.ref (o + 1 + i.toNatClampNeg) :: rest) mem else none
    | _ => none
  | .baload => match st with
    | .int i :: .ref o :: rest => if kd o = 8 ∧ vin i (ablen o) then anx (pc + 1) ls (.int (abyt o i.toNatClampNeg) :: rest) mem else none
    | _ => none
  | .arraylength => match st with
    | .ref o :: rest => if kdp o 5 then anx (pc + 1) ls (.int (Int32.ofNat (ln o)) :: rest) mem else if kdp o 6 then anx (pc + 1) ls (.int 7 :: rest) mem else if kd o = 8 then anx (pc + 1) ls (.int (Int32.ofNat (ablen o)) :: rest) mem else if o = 90 then anx (pc + 1) ls (.int (Int32.ofNat S.1) :: rest) mem else none
    | _ => none
  | .invokestatic k => match lk2 sTL own k with
    | some (_, μ) => match mTL[μ]? with
      | some d => if d.st = true then acall call d μ pc ls st mem else none
      | none => none
    | none => none
  | .invokevirtual k => match lk2 sTL own k with
    | some (_, μ) => match mTL[μ]? with
      | some d => if d.st = false ∧ arecv d st = true then acall call d μ pc ls st mem else none
      | none => none
    | none => none
  | i => match arets i rt st with
    | some r => some (.inl (r, mem))
    | none => none
def astep (call : Cf) (S : Sc) (own : Nat) (cc : ByteArray) (rt : Option FieldType) (s : S5) : Option (Rz ⊕ S5) := match decode cc s.1 with
  | .ok (i, len) => if len = wlen i len then aex call S own rt i len s.1 s.2.1 s.2.2.1 s.2.2.2 else none
  | .error _ => none
def aloop (call : Cf) (S : Sc) (own : Nat) (cc : ByteArray) (rt : Option FieldType) : Nat → S5 → Option Rz
  | 0, _ => none
  | n + 1, s => match astep call S own cc rt s with
    | some (.inl r) => some r
    | some (.inr s') => aloop call S own cc rt n s'
    | none => none
def arun (S : Sc) : Nat → Nat → Cf
  | 0, _ => fun _ _ _ => none
  | d + 1, n => fun μ vs mem => if μ < 3 then (match amath μ vs with
    | some r => some (r, mem)
    | none => none) else match mTL[μ]? with
    | some D => if awd vs ≤ D.ml then aloop (arun S d n) S D.own D.c D.rt n (0, aent D.ml vs, [], mem) else none
    | none => none
