/-! the memory at the law's loop: what holds of it, and of the start's constants -/
def m0F : Mm := fun o k => if o = 1 ∨ o = 11 ∨ o = 21 then (if k = 3 then 10 else if k = 4 then 4 else if k = 5 then 2 else 0) else if o = 36 then rS0 k else 0
theorem R_m0 : R m0F := by
  have hn : nT (m0F 36) = 0 := rfl
  refine ⟨⟨⟨⟨rfl, rfl, rfl, rfl, rfl⟩, fun c k hc _ => absurd hc (by rw [hn]; omega)⟩, ⟨0, ⟨by omega, rfl⟩, ⟨by decide, by decide⟩, ⟨by decide, by decide⟩, ⟨by decide, by decide⟩, ⟨by decide, by decide⟩, fun c hc => absurd hc (by omega)⟩, by decide⟩, ⟨rfl, Or.inl rfl⟩, ⟨0, by omega, rfl, rfl, fun j hj => absurd hj (by omega)⟩, ⟨0, by omega, rfl, rfl, fun j hj => absurd hj (by omega)⟩, fun j _ => rfl⟩
/-- the cells by numbers: the class, three Towns, Letters and rows; the reference -/
def adF (b h0 g0 g1 g2 g3 x4 : Nat) (b1 b2 b3 b4 adK adV : Nat → Nat) : Nat → Nat := fun o => if o = 0 then h0 else if o < 11 then b1 (o - 1) else if o < 21 then b2 (o - 11) else if o < 31 then b3 (o - 21) else if o = 31 then g0 else if o = 32 then g1 else if o = 33 then g2 else if o = 34 then g3 else if o = 35 then x4 else if o < 44 then b4 (o - 36) else if o < 60 then adK (o - 50) else if o < 90 then adV (o - 60) else b
theorem row_at {D : va_G} {cl : List vw_C} {q : Nat} {cO : ClassId} {f g : Nat → Option Nat} {H : Heap} (h : ∀ j, j < 7 → f j = g j) (z : va_at D cl (q, eQ cO f) H) : va_at D cl (q, eQ cO g) H := by
  have z' : H[q]? = some (vp_cell cO (7, .inr (.inr (.inr (.inr f))))) := z
  show H[q]? = some (vp_cell cO (7, .inr (.inr (.inr (.inr g)))))
  rw [z', vp_cell_q, vp_cell_q]
  exact congrArg some (arrV_ext (fun j hj => by rw [h j hj]))
set_option maxRecDepth 100000 in
set_option maxHeartbeats 16000000 in
theorem wd_m0 (sp : Value) (cI cO : ClassId) (b h0 g0 g1 g2 g3 x4 : Nat) (b1 b2 b3 b4 adK adV : Nat → Nat) : wd (adF b h0 g0 g1 g2 g3 x4 b1 b2 b3 b4 adK adV) sp cI cO m0F = (((wCx h0 g0 g1 g2 g3 b1 b2 b3 cI cO ++ wRf x4 b4 cI).set 2 (b1 1, eQ cO (fun j => some (adF b h0 g0 g1 g2 g3 x4 b1 b2 b3 b4 adK adV (2 + 1 + j))))).set 12 (b2 1, eQ cO (fun j => some (adF b h0 g0 g1 g2 g3 x4 b1 b2 b3 b4 adK adV (12 + 1 + j))))).set 22 (b3 1, eQ cO (fun j => some (adF b h0 g0 g1 g2 g3 x4 b1 b2 b3 b4 adK adV (22 + 1 + j)))) := by
  rfl
set_option maxRecDepth 100000 in
set_option maxHeartbeats 16000000 in
theorem wd_P {D : va_G} {H : Heap} {A : Nat → Prop} (sp : Value) (cI cO : ClassId) (b h0 g0 g1 g2 g3 x4 : Nat) (b1 b2 b3 b4 adK adV : Nat → Nat) (hP : va_P D vwCl (wCx h0 g0 g1 g2 g3 b1 b2 b3 cI cO ++ wRf x4 b4 cI) H) (hD : va_D A (wCx h0 g0 g1 g2 g3 b1 b2 b3 cI cO ++ wRf x4 b4 cI)) : va_P D vwCl (wd (adF b h0 g0 g1 g2 g3 x4 b1 b2 b3 b4 adK adV) sp cI cO m0F) H ∧ va_D A (wd (adF b h0 g0 g1 g2 g3 x4 b1 b2 b3 b4 adK adV) sp cI cO m0F) := by
  have seven : ∀ (f g : Nat → Nat), f 0 = g 0 → f 1 = g 1 → f 2 = g 2 → f 3 = g 3 → f 4 = g 4 → f 5 = g 5 → f 6 = g 6 → ∀ j, j < 7 → some (f j) = some (g j) := by
    intro f g e0 e1 e2 e3 e4 e5 e6 j hj
    rcases (by omega : j = 0 ∨ j = 1 ∨ j = 2 ∨ j = 3 ∨ j = 4 ∨ j = 5 ∨ j = 6) with rfl | rfl | rfl | rfl | rfl | rfl | rfl
    · rw [e0]
    · rw [e1]
    · rw [e2]
    · rw [e3]
    · rw [e4]
    · rw [e5]
    · rw [e6]
  have h1 := va_P_set (k := 2) (q := (b1 1, eQ cO (fun j => some (b1 (2 + j))))) (e := (b1 1, eQ cO (fun j => some (adF b h0 g0 g1 g2 g3 x4 b1 b2 b3 b4 adK adV (2 + 1 + j))))) hP rfl (row_at (seven (fun j => b1 (2 + j)) (fun j => adF b h0 g0 g1 g2 g3 x4 b1 b2 b3 b4 adK adV (2 + 1 + j)) rfl rfl rfl rfl rfl rfl rfl))
  have h2 := va_P_set (k := 12) (q := (b2 1, eQ cO (fun j => some (b2 (2 + j))))) (e := (b2 1, eQ cO (fun j => some (adF b h0 g0 g1 g2 g3 x4 b1 b2 b3 b4 adK adV (12 + 1 + j))))) h1 rfl (row_at (seven (fun j => b2 (2 + j)) (fun j => adF b h0 g0 g1 g2 g3 x4 b1 b2 b3 b4 adK adV (12 + 1 + j)) rfl rfl rfl rfl rfl rfl rfl))
  have h3 := va_P_set (k := 22) (q := (b3 1, eQ cO (fun j => some (b3 (2 + j))))) (e := (b3 1, eQ cO (fun j => some (adF b h0 g0 g1 g2 g3 x4 b1 b2 b3 b4 adK adV (22 + 1 + j))))) h2 rfl (row_at (seven (fun j => b3 (2 + j)) (fun j => adF b h0 g0 g1 g2 g3 x4 b1 b2 b3 b4 adK adV (22 + 1 + j)) rfl rfl rfl rfl rfl rfl rfl))
  refine ⟨by rw [wd_m0]; exact h3, va_D_fst ?_ hD⟩
  rw [wd_m0]
  rfl
def pmT : List Jvm.Cond := flatC (Jvm.Cond.and given_1 narrow_1)
def tmS (i : Nat) : Term := Term.string RX1 (kIx i)
set_option maxRecDepth 100000 in
theorem pm_ex : ∀ i, i < 8 → Cond.exactly (tmS i) "java/lang/String" ∈ pmT := by decide +kernel
set_option maxRecDepth 100000 in
theorem pm_co : ∀ i, i < 8 → Cond.eq (.field (tmS i) "java/lang/String" "coder" "B") (.int 0) ∈ pmT := by decide +kernel
set_option maxRecDepth 100000 in
theorem pm_ar : ∀ i, i < 8 → Cond.arrayOf (.field (tmS i) "java/lang/String" "value" "[B") .byte ∈ pmT := by decide +kernel
set_option maxRecDepth 100000 in
theorem pm_le : ∀ i, i < 8 → Cond.eq (.length (.field (tmS i) "java/lang/String" "value" "[B")) (.int (Int32.ofNat (kLen.getD i 0))) ∈ pmT := by decide +kernel
set_option maxRecDepth 100000 in
theorem pm_el : ∀ i, i < 8 → ∀ j, j < kLen.getD i 0 → Cond.eq (.elem (.field (tmS i) "java/lang/String" "value" "[B") (.int (Int32.ofNat j))) (.int ((kByt.getD i []).getD j 0)) ∈ pmT := by decide +kernel
set_option maxRecDepth 100000 in
theorem pm_ne : ∀ i, i < 8 → ∀ j, j < 8 → i ≠ j → Cond.not (Cond.eq (tmS i) (tmS j)) ∈ pmT ∨ Cond.not (Cond.eq (tmS j) (tmS i)) ∈ pmT := by decide +kernel
set_option maxRecDepth 100000 in
theorem pm_cs : Cond.eq (Term.static RJ0 "COMPACT_STRINGS" "Z") (Term.int 1) ∈ pmT := by decide +kernel
set_option maxRecDepth 100000 in
theorem pm_si : Cond.isRef (Term.static RJ3 "SIOOBE_FORMATTER" "Ljava/util/function/BiFunction;") ∈ pmT := by decide +kernel
theorem sr_in : ∀ i, i < 8 → Jvm.Cond.stringRef RX1 (kIx i) (kTx i) ∈ lw_tbl := by
  intro i hi
  rcases (by omega : i = 0 ∨ i = 1 ∨ i = 2 ∨ i = 3 ∨ i = 4 ∨ i = 5 ∨ i = 6 ∨ i = 7) with rfl | rfl | rfl | rfl | rfl | rfl | rfl | rfl
  · exact tm1 233 rfl
  · exact tm1 163 rfl
  · exact tm1 181 rfl
  · exact tm1 182 rfl
  · exact tm1 183 rfl
  · exact tm1 184 rfl
  · exact tm1 185 rfl
  · exact tm1 186 rfl
theorem nl_in : ∀ w ∈ nlk, w ∈ lw_tbl := by
  intro w hw
  simp only [nlk, List.mem_cons, List.not_mem_nil, or_false] at hw
  rcases hw with rfl | rfl | rfl | rfl | rfl
  · exact tm2 83 rfl
  · exact tm2 84 rfl
  · exact tm2 91 rfl
  · exact tm2 94 rfl
  · exact tm2 97 rfl
/-- the start's constants, as the small machine's calls need them -/
theorem KX_0 {s : State} {b L : Nat} {xs : Nat → Int32} (hts : ∀ w ∈ lw_tbl, w.before #[Value.ref b] s = true) (hgv : (Jvm.Cond.and given_1 narrow_1).before #[Value.ref b] s = true) (hX : va_X b L xs s s.heap) (hbl : b < s.heap.size) :
    ∃ (adK adV : Nat → Nat) (sp : Value), (sp = .null ∨ ∃ a, sp = .ref a) ∧ ∀ (D : va_G) (ad : Nat → Nat) (cI cO : ClassId), va_K D vwCl (tyW cI cO) s → (∀ i, i < 8 → ad (50 + i) = adK i) → (∀ i, i < 8 → ad (60 + i) = adV i) → ad 90 = b → KX D ad sp cI cO (L, xs) (fun q => s.heap.size ≤ q) s s.heap := by
  have hs : ∀ c ∈ pmT, c.before #[Value.ref b] s = true := flat_of_before _ hgv
  have hA : ∀ a : Nat, a < s.heap.size → ¬ (fun q : Nat => s.heap.size ≤ q) a := fun a h => Nat.not_le.mpr h
  obtain ⟨adK, adV, hV, hE⟩ := vk_Sof (args := #[Value.ref b]) (s := s) (N := 8) (tm := tmS) (len := kLen) (byt := kByt) (A := fun q => s.heap.size ≤ q) (by decide) (fun i hi => hs _ (pm_ex i hi)) (fun i hi => hs _ (pm_co i hi)) (fun i hi => hs _ (pm_ar i hi)) (fun i hi => hs _ (pm_le i hi)) (fun i hi j hj => hs _ (pm_el i hi j hj)) (fun i j hi hj hij => (pm_ne i hi j hj hij).imp (fun h => hs _ h) (fun h => hs _ h)) hA
  have hC : va_Z RJ0 "COMPACT_STRINGS" "Z" (.int 1) (fun q => s.heap.size ≤ q) s s.heap := va_Zof (hts _ (tm1 173 rfl)) (hts (.initialized RJ0) (tm1 6 rfl)) (va_eqi (hs _ pm_cs)) hA
  have hF : ∃ sp : Value, (sp = .null ∨ ∃ a, sp = .ref a) ∧ va_Z RJ3 "SIOOBE_FORMATTER" "Ljava/util/function/BiFunction;" sp (fun q => s.heap.size ≤ q) s s.heap := by
    rcases va_Zqof (args := #[Value.ref b]) (s := s) (C := RJ3) (n := "SIOOBE_FORMATTER") (d := "Ljava/util/function/BiFunction;") (A := fun q => s.heap.size ≤ q) (hts _ (tm1 202 rfl)) (hts (.initialized RJ3) (tm1 8 rfl)) (hs _ pm_si) hA with h | ⟨t, h⟩
    · exact ⟨.null, Or.inl rfl, h⟩
    · exact ⟨.ref t, Or.inr ⟨t, rfl⟩, h⟩
  obtain ⟨sp, hsp, hF⟩ := hF
  refine ⟨adK, adV, sp, hsp, fun D ad cI cO hK eK eV eb => ⟨hK, fun w hw => ?_, ⟨fun i hi => ?_, fun i j hi hj e => ?_⟩, fun i hi => ?_, hC, hF, ?_⟩⟩
  · obtain ⟨a, i, x, h, rfl⟩ := nlk_form w hw
    exact va_Nw.of rfl (hts _ (nl_in _ hw))
  · show va_O _ (ad (50 + i)) _ _ _ ∧ va_OF _ _ _ _ (ad (50 + i)) _ _ _ ∧ va_OF _ _ _ (.ref (ad (60 + i))) (ad (50 + i)) _ _ _ ∧ va_T _ (ad (60 + i)) _ _ _ _ _
    rw [eK i hi, eV i hi]
    exact hV.1 i hi
  · refine hV.2 i j hi hj ?_
    rw [← eK i hi, ← eK j hj]; exact e
  · rw [eK i hi]
    exact vk_R.of (A := #[Value.ref b]) (hts _ (sr_in i hi)) (hE i hi)
  · rw [eb]; exact ⟨hX, hbl, Nat.not_le.mpr hbl⟩
