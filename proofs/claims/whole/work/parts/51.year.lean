/-! a year: what becomes of a cask; both codes -/
def s_takes (kd fg tk a rate : Int32) : Int32 := if kd = 1 then (a * rate) / 100 / 2 else if kd = 3 then 0 else if kd = 4 then X4_least a ((a * rate) / 100 + fg) else if kd = 5 then (if tk ≤ a then X4_least a ((a * rate) / 100) else X4_least a (2 * ((a * rate) / 100))) else (a * rate) / 100
def s_str (kd st year : Int32) : Int32 := if kd = 1 then (if st ≤ 0 then 0 else st - 1) else if kd = 2 then (if airem year 5 = 0 then X4_least 99 (st + 1) else st) else if kd = 4 then (if airem year 5 = 0 then X4_least 99 (st + 1) else st) else if kd = 5 then X4_least 99 (st + 1) else st
def s_back (kd fg tk : Int32) : Int32 := if kd = 0 then tk / 2 else if kd = 2 then (if tk < fg then 0 else fg) else if kd = 4 then tk / 3 else 0
/-- what the angels take of a cask in a year with this rate; what comes back -/
def s_n (K : Nat → Int32) (rate : Int32) : Int32 := s_takes (K 0) (K 4) (K 5) (K 2) rate
def s_b (K : Nat → Int32) (rate year : Int32) : Int32 := if airem year 7 = 0 then X4_least (s_back (K 0) (K 4) (K 5 + s_n K rate)) (K 1 - (K 2 - s_n K rate)) else 0
def s_cY (K : Nat → Int32) (rate year : Int32) (k : Nat) : Int32 := if k = 2 then K 2 - s_n K rate + s_b K rate year else if k = 5 then K 5 + s_n K rate - s_b K rate year else if k = 3 then s_str (K 0) (K 3) year else K k
def ck (T : Nat → Int32) (c : Nat) : Nat → Int32 := fun k => T (kx c k)
theorem least_eq (a b : Int32) : X4_least a b = mmin b a := by
  unfold X4_least mmin
  by_cases h : b ≤ a
  · rw [if_pos h, if_neg (by rw [z_lt]; rw [z_le] at h; omega)]
  · rw [if_neg h, if_pos (by rw [z_lt]; rw [z_le] at h; omega)]
theorem X4_takesOf_s {p : Nat} {c : Nat} (hc : c < 7) (a rate : Int32) (mem : Mm) : X4_takesOf p (nI c) a rate mem = some (s_takes (mem p (kx c 0)) (mem p (kx c 4)) (mem p (kx c 5)) a rate) := by
  unfold X4_takesOf s_takes
  simp only [nm_y, at_cl0 hc, at_cl4 hc, at_cl5 hc, gd_y (at_in0 hc), gd_y (at_in4 hc), gd_y (at_in5 hc)]
  (repeat' split) <;> rfl
theorem X4_strengthOf_s {p : Nat} {c : Nat} (hc : c < 7) (y : Int32) (mem : Mm) : X4_strengthOf p (nI c) y mem = some (s_str (mem p (kx c 0)) (mem p (kx c 3)) y) := by
  unfold X4_strengthOf s_str
  simp only [nm_y, at_cl0 hc, at_cl3 hc, gd_y (at_in0 hc), gd_y (at_in3 hc)]
  (repeat' split) <;> rfl
theorem X4_backOf_s {p : Nat} {c : Nat} (hc : c < 7) (mem : Mm) : X4_backOf p (nI c) mem = some (s_back (mem p (kx c 0)) (mem p (kx c 4)) (mem p (kx c 5))) := by
  unfold X4_backOf s_back
  simp only [nm_y, at_cl0 hc, at_cl4 hc, at_cl5 hc, gd_y (at_in0 hc), gd_y (at_in4 hc), gd_y (at_in5 hc)]
  (repeat' split) <;> rfl
theorem X0_angelsPart_s (o : Nat) (a rate : Int32) (mem : Mm) : X0_angelsPart o a rate mem = s_takes (mem o 0) (mem o 4) (mem o 5) a rate := by
  unfold X0_angelsPart s_takes
  simp only [nm_y, least_eq]
/-- a cask as it must be; at most B taken -/
def CI (K : Nat → Int32) (B : Int) : Prop := (0 ≤ (K 0).toInt ∧ (K 0).toInt ≤ 5) ∧ (1 ≤ (K 1).toInt ∧ (K 1).toInt ≤ 400) ∧ (0 ≤ (K 2).toInt ∧ (K 2).toInt ≤ (K 1).toInt) ∧ (0 ≤ (K 3).toInt ∧ (K 3).toInt ≤ 99) ∧ (0 ≤ (K 4).toInt ∧ (K 4).toInt ≤ 9) ∧ (0 ≤ (K 5).toInt ∧ (K 5).toInt ≤ B)
theorem l_i (n : Nat) (h : n < 2147483648 := by decide) : (nI n).toInt = (n : Int) := nI_toInt h
theorem X0_strengthIn_s {o : Nat} {mem : Mm} {y : Int32} (h : 0 ≤ (mem o 3).toInt ∧ (mem o 3).toInt ≤ 99) : X0_strengthIn o y mem = s_str (mem o 0) (mem o 3) y := by
  unfold X0_strengthIn s_str
  by_cases h1 : mem o 0 = 1
  · rw [if_pos h1, if_pos h1]
    unfold mmax
    have e0 : (0 : Int32).toInt = 0 := rfl
    have e1 : (1 : Int32).toInt = 1 := rfl
    have es : (mem o 3 - 1).toInt = (mem o 3).toInt - 1 := by rw [z_sub] <;> omega
    by_cases h2 : mem o 3 ≤ 0
    · rw [if_pos h2]
      rw [z_le, e0] at h2
      rw [if_pos (by rw [z_lt, es, e0]; omega)]
    · rw [if_neg h2]
      rw [z_le, e0] at h2
      rw [if_neg (by rw [z_lt, es, e0]; omega)]
  · rw [if_neg h1, if_neg h1]
    simp only [least_eq]
theorem X0_sentBackIn_s {o : Nat} {mem : Mm} {y : Int32} (h : 0 ≤ (mem o 0).toInt ∧ (mem o 0).toInt ≤ 5) : X0_sentBackIn o y mem = if airem y 7 = 0 then s_back (mem o 0) (mem o 4) (mem o 5) else 0 := by
  unfold X0_sentBackIn s_back
  have e : mem o 0 = 0 ∨ mem o 0 = 1 ∨ mem o 0 = 2 ∨ mem o 0 = 3 ∨ mem o 0 = 4 ∨ mem o 0 = 5 := by
    have e0 : (0 : Int32).toInt = 0 := rfl
    have e1 : (1 : Int32).toInt = 1 := rfl
    have e2 : (2 : Int32).toInt = 2 := rfl
    have e3 : (3 : Int32).toInt = 3 := rfl
    have e4 : (4 : Int32).toInt = 4 := rfl
    have e5 : (5 : Int32).toInt = 5 := rfl
    simp only [z_eq, e0, e1, e2, e3, e4, e5]
    omega
  by_cases h7 : airem y 7 = 0
  · rw [if_pos h7, if_pos h7]
    rcases e with e | e | e | e | e | e <;> rw [e] <;> simp only [reduceIte] <;> rfl
  · rw [if_neg h7, if_neg h7]

theorem t0 : (0 : Int32).toInt = 0 := rfl
theorem t1 : (1 : Int32).toInt = 1 := rfl
theorem t2 : (2 : Int32).toInt = 2 := rfl
theorem t3 : (3 : Int32).toInt = 3 := rfl
theorem t99 : (99 : Int32).toInt = 99 := rfl
theorem t100 : (100 : Int32).toInt = 100 := rfl
theorem z_least {a b : Int32} : (X4_least a b).toInt = if a.toInt ≤ b.toInt then a.toInt else b.toInt := by
  unfold X4_least
  by_cases h : b ≤ a
  · rw [if_pos h]
    rw [z_le] at h
    by_cases h2 : a.toInt ≤ b.toInt
    · rw [if_pos h2]; omega
    · rw [if_neg h2]
  · rw [if_neg h]
    rw [z_le] at h
    rw [if_pos (by omega)]
/-- what is taken lies between nothing and what is there -/
theorem s_n_in {K : Nat → Int32} {B : Int} {rate : Int32} (h : CI K B) (hr : 0 ≤ rate.toInt ∧ rate.toInt ≤ 80) : 0 ≤ (s_n K rate).toInt ∧ (s_n K rate).toInt ≤ (K 2).toInt := by
  obtain ⟨⟨k1, k2⟩, ⟨s1, s2⟩, ⟨a1, a2⟩, ⟨st1, st2⟩, ⟨f1, f2⟩, g1, g2⟩ := h
  have hm1 : 0 ≤ (K 2).toInt * rate.toInt := Int.mul_nonneg a1 hr.1
  have hm2 : (K 2).toInt * rate.toInt ≤ (K 2).toInt * 80 := Int.mul_le_mul_of_nonneg_left hr.2 a1
  have e1 : (K 2 * rate).toInt = (K 2).toInt * rate.toInt := by rw [z_mul] <;> omega
  have e2 : (K 2 * rate / 100).toInt = (K 2).toInt * rate.toInt / 100 := by rw [z_div (by omega) (by rw [t100]; omega), e1, t100]
  generalize hv : K 2 * rate / 100 = v at e2
  have b1 : 0 ≤ v.toInt := by rw [e2]; omega
  have b2 : v.toInt ≤ (K 2).toInt := by rw [e2]; omega
  unfold s_n s_takes
  rw [hv]
  split
  · rw [z_div b1 (by rw [t2]; omega), t2]; omega
  · split
    · rw [t0]; omega
    · split
      · have e3 : (v + K 4).toInt = v.toInt + (K 4).toInt := by rw [z_add] <;> omega
        rw [z_least, e3]; split <;> omega
      · split
        · split
          · rw [z_least]; split <;> omega
          · have e3 : (2 * v).toInt = 2 * v.toInt := by rw [z_mul (by rw [t2]; omega) (by rw [t2]; omega), t2]
            rw [z_least, e3]; split <;> omega
        · exact ⟨b1, b2⟩
theorem s_b_in {K : Nat → Int32} {B : Int} {rate year : Int32} (h : CI K B) (hB : B ≤ 1000000) (hr : 0 ≤ rate.toInt ∧ rate.toInt ≤ 80) : 0 ≤ (s_b K rate year).toInt ∧ (s_b K rate year).toInt ≤ (K 5).toInt + (s_n K rate).toInt ∧ (s_b K rate year).toInt ≤ (K 1).toInt - ((K 2).toInt - (s_n K rate).toInt) := by
  have hn := s_n_in h hr
  obtain ⟨⟨k1, k2⟩, ⟨s1, s2⟩, ⟨a1, a2⟩, ⟨st1, st2⟩, ⟨f1, f2⟩, g1, g2⟩ := h
  have e1 : (K 5 + s_n K rate).toInt = (K 5).toInt + (s_n K rate).toInt := by rw [z_add] <;> omega
  have e2 : (K 2 - s_n K rate).toInt = (K 2).toInt - (s_n K rate).toInt := by rw [z_sub] <;> omega
  have e3 : (K 1 - (K 2 - s_n K rate)).toInt = (K 1).toInt - ((K 2).toInt - (s_n K rate).toInt) := by rw [z_sub, e2] <;> omega
  have hb : 0 ≤ (s_back (K 0) (K 4) (K 5 + s_n K rate)).toInt ∧ (s_back (K 0) (K 4) (K 5 + s_n K rate)).toInt ≤ (K 5).toInt + (s_n K rate).toInt := by
    unfold s_back
    split
    · rw [z_div (by omega) (by rw [t2]; omega), t2, e1]; omega
    · split
      · split
        · rw [t0]; omega
        · rename_i q
          rw [z_lt, e1] at q
          omega
      · split
        · rw [z_div (by omega) (by rw [t3]; omega), t3, e1]; omega
        · rw [t0]; omega
  unfold s_b
  split
  · rw [z_least, e3]; split <;> omega
  · rw [t0]; omega
theorem s_cY_in {K : Nat → Int32} {B : Int} {rate year : Int32} (h : CI K B) (hB : B ≤ 1000000) (hr : 0 ≤ rate.toInt ∧ rate.toInt ≤ 80) : CI (s_cY K rate year) (B + 400) ∧ (s_cY K rate year 2).toInt + (s_cY K rate year 5).toInt = (K 2).toInt + (K 5).toInt ∧ (s_cY K rate year 5).toInt = (K 5).toInt + (s_n K rate).toInt - (s_b K rate year).toInt := by
  have hn := s_n_in h hr
  have hb := s_b_in (year := year) h hB hr
  obtain ⟨⟨k1, k2⟩, ⟨s1, s2⟩, ⟨a1, a2⟩, ⟨st1, st2⟩, ⟨f1, f2⟩, g1, g2⟩ := h
  have e1 : (K 5 + s_n K rate).toInt = (K 5).toInt + (s_n K rate).toInt := by rw [z_add] <;> omega
  have e2 : (K 2 - s_n K rate).toInt = (K 2).toInt - (s_n K rate).toInt := by rw [z_sub] <;> omega
  have e4 : (s_cY K rate year 2).toInt = (K 2).toInt - (s_n K rate).toInt + (s_b K rate year).toInt := by
    show (K 2 - s_n K rate + s_b K rate year).toInt = _
    rw [z_add, e2] <;> omega
  have e5 : (s_cY K rate year 5).toInt = (K 5).toInt + (s_n K rate).toInt - (s_b K rate year).toInt := by
    show (K 5 + s_n K rate - s_b K rate year).toInt = _
    rw [z_sub, e1] <;> omega
  have e3 : 0 ≤ (s_cY K rate year 3).toInt ∧ (s_cY K rate year 3).toInt ≤ 99 := by
    show 0 ≤ (s_str (K 0) (K 3) year).toInt ∧ (s_str (K 0) (K 3) year).toInt ≤ 99
    have q1 : (K 3 - 1).toInt = (K 3).toInt - 1 := by rw [z_sub (by rw [t1]; omega) (by rw [t1]; omega), t1]
    have q2 : (K 3 + 1).toInt = (K 3).toInt + 1 := by rw [z_add (by rw [t1]; omega) (by rw [t1]; omega), t1]
    have q3 : 0 ≤ (X4_least 99 (K 3 + 1)).toInt ∧ (X4_least 99 (K 3 + 1)).toInt ≤ 99 := by
      rw [z_least, q2, t99]; split <;> omega
    unfold s_str
    split
    · split
      · rw [t0]; omega
      · rename_i q
        rw [z_le, t0] at q
        omega
    · split
      · split
        · exact q3
        · omega
      · split
        · split
          · exact q3
          · omega
        · split
          · exact q3
          · omega
  refine ⟨⟨⟨k1, k2⟩, ⟨s1, s2⟩, ?_, e3, ⟨f1, f2⟩, ?_⟩, by rw [e4, e5]; omega, e5⟩
  · rw [e4]
    show 0 ≤ _ ∧ _ ≤ (K 1).toInt
    omega
  · rw [e5]; omega
