/-! ints as whole numbers -/
theorem zb (x : Int32) : -2147483648 ≤ x.toInt ∧ x.toInt < 2147483648 := ⟨Int32.le_toInt x, Int32.toInt_lt x⟩
theorem zbm {a : Int} (h1 : -2147483648 ≤ a) (h2 : a < 2147483648) : a.bmod (2 ^ 32) = a := by
  rw [Int.bmod_def]
  have : ((2 ^ 32 : Nat) : Int) = 4294967296 := by decide
  rw [this]
  by_cases h : 0 ≤ a
  · have e : a % 4294967296 = a := Int.emod_eq_of_lt h (by omega)
    rw [e, if_pos (by omega)]
  · have e : a % 4294967296 = a + 4294967296 := by omega
    rw [e, if_neg (by omega)]
    omega
theorem z_add {x y : Int32} (h1 : -2147483648 ≤ x.toInt + y.toInt) (h2 : x.toInt + y.toInt < 2147483648) : (x + y).toInt = x.toInt + y.toInt := by
  rw [Int32.toInt_add]; exact zbm h1 h2
theorem z_sub {x y : Int32} (h1 : -2147483648 ≤ x.toInt - y.toInt) (h2 : x.toInt - y.toInt < 2147483648) : (x - y).toInt = x.toInt - y.toInt := by
  rw [Int32.toInt_sub]; exact zbm h1 h2
theorem z_mul {x y : Int32} (h1 : -2147483648 ≤ x.toInt * y.toInt) (h2 : x.toInt * y.toInt < 2147483648) : (x * y).toInt = x.toInt * y.toInt := by
  rw [Int32.toInt_mul]; exact zbm h1 h2
theorem z_neg {x : Int32} (h1 : -2147483648 < x.toInt) : (-x).toInt = -x.toInt := by
  have := zb x
  rw [Int32.toInt_neg]; exact zbm (by omega) (by omega)
theorem z_div {x y : Int32} (h1 : 0 ≤ x.toInt) (h2 : 0 < y.toInt) : (x / y).toInt = x.toInt / y.toInt := by
  rw [Int32.toInt_div, Int.tdiv_eq_ediv_of_nonneg h1]
  have b := zb x
  have h3 : 0 ≤ x.toInt / y.toInt := Int.ediv_nonneg h1 (by omega)
  have h4 : x.toInt / y.toInt ≤ x.toInt := Int.ediv_le_self _ h1
  exact zbm (by omega) (by omega)
theorem z_rem {x y : Int32} (h1 : 0 ≤ x.toInt) (h2 : 0 < y.toInt) : (airem x y).toInt = x.toInt % y.toInt := by
  have b := zb x
  have h3 : 0 ≤ x.toInt / y.toInt := Int.ediv_nonneg h1 (by omega)
  have h5 : x.toInt / y.toInt * y.toInt ≤ x.toInt := Int.ediv_mul_le _ (by omega)
  have h6 : 0 ≤ x.toInt / y.toInt * y.toInt := Int.mul_nonneg h3 (by omega)
  have e1 := z_div h1 h2
  have e2 : (x / y * y).toInt = x.toInt / y.toInt * y.toInt := by
    rw [z_mul (by rw [e1]; omega) (by rw [e1]; omega), e1]
  have e3 := Int.emod_add_mul_ediv x.toInt y.toInt
  unfold airem
  rw [z_sub (by rw [e2]; omega) (by rw [e2]; omega), e2]
  rw [Int.mul_comm] at e3
  omega
theorem z_le {x y : Int32} : x ≤ y ↔ x.toInt ≤ y.toInt := Int32.le_iff_toInt_le
theorem z_lt {x y : Int32} : x < y ↔ x.toInt < y.toInt := Int32.lt_iff_toInt_lt
theorem z_eq {x y : Int32} : x = y ↔ x.toInt = y.toInt := Int32.toInt_inj.symm
theorem z_nI {n : Nat} (h : n < 2147483648) : (nI n).toInt = (n : Int) := nI_toInt h
theorem z_of {x : Int32} (h : 0 ≤ x.toInt) : ∃ n : Nat, x = nI n ∧ n < 2147483648 ∧ x.toInt = (n : Int) := by
  have b := zb x
  refine ⟨x.toInt.toNat, ?_, by omega, by omega⟩
  rw [z_eq, z_nI (by omega)]
  omega
theorem z_cl {x : Int32} {n : Nat} (h : x.toInt = (n : Int)) : x.toNatClampNeg = n := by
  show x.toInt.toNat = n
  omega
/-- the places of a town's row -/
def kx (c k : Nat) : Nat := 5 + 6 * c + k
theorem at_eq {c k : Nat} : X4_at (nI c) (nI k) = nI (kx c k) := by
  unfold X4_at kx
  rw [show (5 : Int32) = nI 5 from rfl, show (6 : Int32) = nI 6 from rfl, pk_mul, nI_add, nI_add]
theorem at_cl {c k : Nat} (hc : c < 7) (hk : k < 6) : (X4_at (nI c) (nI k)).toNatClampNeg = kx c k := by
  rw [at_eq]
  exact nI_clamp (by unfold kx; omega)
theorem at_in {c k : Nat} (hc : c < 7) (hk : k < 6) : vin (X4_at (nI c) (nI k)) 47 := by
  rw [at_eq]
  exact vp_in_nI (by unfold kx; omega) (by omega)
theorem at_cl0 {c : Nat} (hc : c < 7) : (X4_at (nI c) 0).toNatClampNeg = kx c 0 := at_cl hc (k := 0) (by omega)
theorem at_cl1 {c : Nat} (hc : c < 7) : (X4_at (nI c) 1).toNatClampNeg = kx c 1 := at_cl hc (k := 1) (by omega)
theorem at_cl2 {c : Nat} (hc : c < 7) : (X4_at (nI c) 2).toNatClampNeg = kx c 2 := at_cl hc (k := 2) (by omega)
theorem at_cl3 {c : Nat} (hc : c < 7) : (X4_at (nI c) 3).toNatClampNeg = kx c 3 := at_cl hc (k := 3) (by omega)
theorem at_cl4 {c : Nat} (hc : c < 7) : (X4_at (nI c) 4).toNatClampNeg = kx c 4 := at_cl hc (k := 4) (by omega)
theorem at_cl5 {c : Nat} (hc : c < 7) : (X4_at (nI c) 5).toNatClampNeg = kx c 5 := at_cl hc (k := 5) (by omega)
theorem at_in0 {c : Nat} (hc : c < 7) : vin (X4_at (nI c) 0) 47 := at_in hc (k := 0) (by omega)
theorem at_in1 {c : Nat} (hc : c < 7) : vin (X4_at (nI c) 1) 47 := at_in hc (k := 1) (by omega)
theorem at_in2 {c : Nat} (hc : c < 7) : vin (X4_at (nI c) 2) 47 := at_in hc (k := 2) (by omega)
theorem at_in3 {c : Nat} (hc : c < 7) : vin (X4_at (nI c) 3) 47 := at_in hc (k := 3) (by omega)
theorem at_in4 {c : Nat} (hc : c < 7) : vin (X4_at (nI c) 4) 47 := at_in hc (k := 4) (by omega)
theorem at_in5 {c : Nat} (hc : c < 7) : vin (X4_at (nI c) 5) 47 := at_in hc (k := 5) (by omega)
theorem kx_inj {c k c' k' : Nat} (hk : k < 6) (hk' : k' < 6) (h : kx c k = kx c' k') : c = c' ∧ k = k' := by unfold kx at h; omega
theorem gd_y {β : Type} {c : Prop} [Decidable c] {k : Option β} (h : c) : gd c k = k := if_pos h
theorem ob_y {α β : Type} {x : Option α} {k : α → Option β} {y : α} (h : x = some y) : ob x k = k y := by rw [h]; rfl
theorem ob2_y {α β γ : Type} {x : Option (α × β)} {k : α → β → Option γ} {y : α} {m : β} (h : x = some (y, m)) : ob2 x k = k y m := by rw [h]; rfl
theorem nm_y {α β : Type} (x : α) (k : α → β) : nm x k = k x := rfl
theorem mset_ss {mem : Mm} {o k : Nat} {v : Int32} : mset mem o k v o k = v := by simp [mset]
theorem mset_so {mem : Mm} {o k j : Nat} {v : Int32} (h : j ≠ k) : mset mem o k v o j = mem o j := by simp [mset, h]
theorem mset_oo {mem : Mm} {o k i j : Nat} {v : Int32} (h : i ≠ o) : mset mem o k v i j = mem i j := by simp [mset, h]
