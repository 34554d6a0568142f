section
-- ===== PART A: goes FIRST, ahead of the names: the tables' words, and 'selects' of the private methods out of them =====
/-- a private method of a class that the tables say can be made, by its rows of tables_1 -/
def lw_okq (q : MethodName × Nat) : Prop := (q.1.cls ≠ "java/lang/invoke/MethodHandle" ∧ q.1.cls ≠ "java/lang/invoke/VarHandle") ∧ Cond.instantiable q.1.cls q.2 ∈ tables_1 ∧ Cond.privateMethod q.1 ∈ tables_1 ∧ Cond.instanceMethod q.1 ∈ tables_1
theorem lw_p0 : lw_okq (⟨"TheAngelsWantMore", "refuse", "(I)I"⟩, 8) := ⟨⟨by decide +kernel, by decide +kernel⟩, List.mem_of_getElem? (i := 14) (by decide +kernel), List.mem_of_getElem? (i := 148) (by decide +kernel), List.mem_of_getElem? (i := 149) (by decide +kernel)⟩
theorem lw_p1 : lw_okq (⟨"TheAngelsWantMore", "readLetters", "()I"⟩, 8) := ⟨⟨by decide +kernel, by decide +kernel⟩, List.mem_of_getElem? (i := 14) (by decide +kernel), List.mem_of_getElem? (i := 156) (by decide +kernel), List.mem_of_getElem? (i := 157) (by decide +kernel)⟩
theorem lw_p2 : lw_okq (⟨"TheAngelsWantMore$Letters", "fits", "(IC)Z"⟩, 2) := ⟨⟨by decide +kernel, by decide +kernel⟩, List.mem_of_getElem? (i := 93) (by decide +kernel), List.mem_of_getElem? (i := 226) (by decide +kernel), List.mem_of_getElem? (i := 227) (by decide +kernel)⟩
theorem lw_p3 : lw_okq (⟨"TheAngelsWantMore", "statementFault", "(I)I"⟩, 8) := ⟨⟨by decide +kernel, by decide +kernel⟩, List.mem_of_getElem? (i := 14) (by decide +kernel), List.mem_of_getElem? (i := 307) (by decide +kernel), List.mem_of_getElem? (i := 308) (by decide +kernel)⟩
theorem lw_p4 : lw_okq (⟨"TheAngelsWantMore", "caskComes", "(I)I"⟩, 8) := ⟨⟨by decide +kernel, by decide +kernel⟩, List.mem_of_getElem? (i := 14) (by decide +kernel), List.mem_of_getElem? (i := 311) (by decide +kernel), List.mem_of_getElem? (i := 312) (by decide +kernel)⟩
theorem lw_p5 : lw_okq (⟨"TheAngelsWantMore", "pourComes", "(I)I"⟩, 8) := ⟨⟨by decide +kernel, by decide +kernel⟩, List.mem_of_getElem? (i := 14) (by decide +kernel), List.mem_of_getElem? (i := 341) (by decide +kernel), List.mem_of_getElem? (i := 342) (by decide +kernel)⟩
theorem lw_p6 : lw_okq (⟨"TheAngelsWantMore", "thinkOn", "(I)V"⟩, 8) := ⟨⟨by decide +kernel, by decide +kernel⟩, List.mem_of_getElem? (i := 14) (by decide +kernel), List.mem_of_getElem? (i := 437) (by decide +kernel), List.mem_of_getElem? (i := 438) (by decide +kernel)⟩
theorem lw_p7 : lw_okq (⟨"TheAngelsWantMore", "caskOrAllFault", "(I)I"⟩, 8) := ⟨⟨by decide +kernel, by decide +kernel⟩, List.mem_of_getElem? (i := 14) (by decide +kernel), List.mem_of_getElem? (i := 462) (by decide +kernel), List.mem_of_getElem? (i := 463) (by decide +kernel)⟩
theorem lw_p8 : lw_okq (⟨"TheAngelsWantMore", "refuseLong", "(I)J"⟩, 8) := ⟨⟨by decide +kernel, by decide +kernel⟩, List.mem_of_getElem? (i := 14) (by decide +kernel), List.mem_of_getElem? (i := 466) (by decide +kernel), List.mem_of_getElem? (i := 467) (by decide +kernel)⟩
theorem lw_p9 : lw_okq (⟨"TheAngelsWantMore", "keepsLess", "(II)Z"⟩, 8) := ⟨⟨by decide +kernel, by decide +kernel⟩, List.mem_of_getElem? (i := 14) (by decide +kernel), List.mem_of_getElem? (i := 546) (by decide +kernel), List.mem_of_getElem? (i := 547) (by decide +kernel)⟩
theorem lw_p10 : lw_okq (⟨"TheAngelsWantMore", "bothKeep", "(III)Z"⟩, 8) := ⟨⟨by decide +kernel, by decide +kernel⟩, List.mem_of_getElem? (i := 14) (by decide +kernel), List.mem_of_getElem? (i := 554) (by decide +kernel), List.mem_of_getElem? (i := 555) (by decide +kernel)⟩
theorem lw_p11 : lw_okq (⟨"TheAngelsWantMore", "thinkTreaty", "(III)V"⟩, 8) := ⟨⟨by decide +kernel, by decide +kernel⟩, List.mem_of_getElem? (i := 14) (by decide +kernel), List.mem_of_getElem? (i := 558) (by decide +kernel), List.mem_of_getElem? (i := 559) (by decide +kernel)⟩
theorem lw_p12 : lw_okq (⟨"TheAngelsWantMore", "kindsByRow", "(I)I"⟩, 8) := ⟨⟨by decide +kernel, by decide +kernel⟩, List.mem_of_getElem? (i := 14) (by decide +kernel), List.mem_of_getElem? (i := 580) (by decide +kernel), List.mem_of_getElem? (i := 581) (by decide +kernel)⟩
theorem lw_p13 : lw_okq (⟨"TheAngelsWantMore", "firstNotSo", "(I)I"⟩, 8) := ⟨⟨by decide +kernel, by decide +kernel⟩, List.mem_of_getElem? (i := 14) (by decide +kernel), List.mem_of_getElem? (i := 584) (by decide +kernel), List.mem_of_getElem? (i := 585) (by decide +kernel)⟩
theorem lw_p14 : lw_okq (⟨"TheAngelsWantMore", "ratesByRow", "(I)I"⟩, 8) := ⟨⟨by decide +kernel, by decide +kernel⟩, List.mem_of_getElem? (i := 14) (by decide +kernel), List.mem_of_getElem? (i := 588) (by decide +kernel), List.mem_of_getElem? (i := 589) (by decide +kernel)⟩
theorem lw_p15 : lw_okq (⟨"TheAngelsWantMore", "amountByLents", "(III)I"⟩, 8) := ⟨⟨by decide +kernel, by decide +kernel⟩, List.mem_of_getElem? (i := 14) (by decide +kernel), List.mem_of_getElem? (i := 603) (by decide +kernel), List.mem_of_getElem? (i := 604) (by decide +kernel)⟩
def lw_privs_1 : List (MethodName × Nat) := [(⟨"TheAngelsWantMore", "refuse", "(I)I"⟩, 8), (⟨"TheAngelsWantMore", "readLetters", "()I"⟩, 8), (⟨"TheAngelsWantMore$Letters", "fits", "(IC)Z"⟩, 2), (⟨"TheAngelsWantMore", "statementFault", "(I)I"⟩, 8), (⟨"TheAngelsWantMore", "caskComes", "(I)I"⟩, 8), (⟨"TheAngelsWantMore", "pourComes", "(I)I"⟩, 8), (⟨"TheAngelsWantMore", "thinkOn", "(I)V"⟩, 8), (⟨"TheAngelsWantMore", "caskOrAllFault", "(I)I"⟩, 8), (⟨"TheAngelsWantMore", "refuseLong", "(I)J"⟩, 8), (⟨"TheAngelsWantMore", "keepsLess", "(II)Z"⟩, 8), (⟨"TheAngelsWantMore", "bothKeep", "(III)Z"⟩, 8), (⟨"TheAngelsWantMore", "thinkTreaty", "(III)V"⟩, 8), (⟨"TheAngelsWantMore", "kindsByRow", "(I)I"⟩, 8), (⟨"TheAngelsWantMore", "firstNotSo", "(I)I"⟩, 8), (⟨"TheAngelsWantMore", "ratesByRow", "(I)I"⟩, 8), (⟨"TheAngelsWantMore", "amountByLents", "(III)I"⟩, 8)]
theorem lw_r1 : ∀ q ∈ lw_privs_1, lw_okq q := List.forall_mem_cons.mpr ⟨lw_p0, List.forall_mem_cons.mpr ⟨lw_p1, List.forall_mem_cons.mpr ⟨lw_p2, List.forall_mem_cons.mpr ⟨lw_p3, List.forall_mem_cons.mpr ⟨lw_p4, List.forall_mem_cons.mpr ⟨lw_p5, List.forall_mem_cons.mpr ⟨lw_p6, List.forall_mem_cons.mpr ⟨lw_p7, List.forall_mem_cons.mpr ⟨lw_p8, List.forall_mem_cons.mpr ⟨lw_p9, List.forall_mem_cons.mpr ⟨lw_p10, List.forall_mem_cons.mpr ⟨lw_p11, List.forall_mem_cons.mpr ⟨lw_p12, List.forall_mem_cons.mpr ⟨lw_p13, List.forall_mem_cons.mpr ⟨lw_p14, List.forall_mem_cons.mpr ⟨lw_p15, fun _ h => absurd h List.not_mem_nil⟩⟩⟩⟩⟩⟩⟩⟩⟩⟩⟩⟩⟩⟩⟩⟩
theorem lw_p16 : lw_okq (⟨"TheAngelsWantMore", "refused", "(I)I"⟩, 8) := ⟨⟨by decide +kernel, by decide +kernel⟩, List.mem_of_getElem? (i := 14) (by decide +kernel), List.mem_of_getElem? (i := 644) (by decide +kernel), List.mem_of_getElem? (i := 645) (by decide +kernel)⟩
theorem lw_p17 : lw_okq (⟨"TheAngelsWantMoreModel", "no", "(I)I"⟩, 15) := ⟨⟨by decide +kernel, by decide +kernel⟩, List.mem_of_getElem? (i := 648) (by decide +kernel), List.mem_of_getElem? (i := 704) (by decide +kernel), List.mem_of_getElem? (i := 705) (by decide +kernel)⟩
theorem lw_p18 : lw_okq (⟨"TheAngelsWantMoreModel", "readsStatement", "()Z"⟩, 15) := ⟨⟨by decide +kernel, by decide +kernel⟩, List.mem_of_getElem? (i := 648) (by decide +kernel), List.mem_of_getElem? (i := 712) (by decide +kernel), List.mem_of_getElem? (i := 713) (by decide +kernel)⟩
theorem lw_p19 : lw_okq (⟨"TheAngelsWantMoreModel", "here", "()I"⟩, 15) := ⟨⟨by decide +kernel, by decide +kernel⟩, List.mem_of_getElem? (i := 648) (by decide +kernel), List.mem_of_getElem? (i := 716) (by decide +kernel), List.mem_of_getElem? (i := 717) (by decide +kernel)⟩
theorem lw_p20 : lw_okq (⟨"TheAngelsWantMoreModel", "readsKind", "()Z"⟩, 15) := ⟨⟨by decide +kernel, by decide +kernel⟩, List.mem_of_getElem? (i := 648) (by decide +kernel), List.mem_of_getElem? (i := 720) (by decide +kernel), List.mem_of_getElem? (i := 721) (by decide +kernel)⟩
theorem lw_p21 : lw_okq (⟨"TheAngelsWantMoreModel", "readsNumber", "(II)Z"⟩, 15) := ⟨⟨by decide +kernel, by decide +kernel⟩, List.mem_of_getElem? (i := 648) (by decide +kernel), List.mem_of_getElem? (i := 727) (by decide +kernel), List.mem_of_getElem? (i := 728) (by decide +kernel)⟩
theorem lw_p22 : lw_okq (⟨"TheAngelsWantMoreModel", "isDone", "(I)Z"⟩, 15) := ⟨⟨by decide +kernel, by decide +kernel⟩, List.mem_of_getElem? (i := 648) (by decide +kernel), List.mem_of_getElem? (i := 737) (by decide +kernel), List.mem_of_getElem? (i := 738) (by decide +kernel)⟩
theorem lw_p23 : lw_okq (⟨"TheAngelsWantMoreModel", "isCask", "(I)Z"⟩, 15) := ⟨⟨by decide +kernel, by decide +kernel⟩, List.mem_of_getElem? (i := 648) (by decide +kernel), List.mem_of_getElem? (i := 744) (by decide +kernel), List.mem_of_getElem? (i := 745) (by decide +kernel)⟩
theorem lw_p24 : lw_okq (⟨"TheAngelsWantMoreModel", "canPour", "(III)Z"⟩, 15) := ⟨⟨by decide +kernel, by decide +kernel⟩, List.mem_of_getElem? (i := 648) (by decide +kernel), List.mem_of_getElem? (i := 748) (by decide +kernel), List.mem_of_getElem? (i := 749) (by decide +kernel)⟩
theorem lw_p25 : lw_okq (⟨"TheAngelsWantMoreModel", "pours", "(III)V"⟩, 15) := ⟨⟨by decide +kernel, by decide +kernel⟩, List.mem_of_getElem? (i := 648) (by decide +kernel), List.mem_of_getElem? (i := 752) (by decide +kernel), List.mem_of_getElem? (i := 753) (by decide +kernel)⟩
theorem lw_p26 : lw_okq (⟨"TheAngelsWantMoreModel", "mixed", "(III)I"⟩, 15) := ⟨⟨by decide +kernel, by decide +kernel⟩, List.mem_of_getElem? (i := 648) (by decide +kernel), List.mem_of_getElem? (i := 756) (by decide +kernel), List.mem_of_getElem? (i := 757) (by decide +kernel)⟩
theorem lw_p27 : lw_okq (⟨"TheAngelsWantMoreModel", "yearsOn", "([II)V"⟩, 15) := ⟨⟨by decide +kernel, by decide +kernel⟩, List.mem_of_getElem? (i := 648) (by decide +kernel), List.mem_of_getElem? (i := 760) (by decide +kernel), List.mem_of_getElem? (i := 761) (by decide +kernel)⟩
theorem lw_p28 : lw_okq (⟨"TheAngelsWantMoreModel", "year", "([I)V"⟩, 15) := ⟨⟨by decide +kernel, by decide +kernel⟩, List.mem_of_getElem? (i := 648) (by decide +kernel), List.mem_of_getElem? (i := 764) (by decide +kernel), List.mem_of_getElem? (i := 765) (by decide +kernel)⟩
theorem lw_p29 : lw_okq (⟨"TheAngelsWantMoreModel", "yearBy", "([IZ)V"⟩, 15) := ⟨⟨by decide +kernel, by decide +kernel⟩, List.mem_of_getElem? (i := 648) (by decide +kernel), List.mem_of_getElem? (i := 768) (by decide +kernel), List.mem_of_getElem? (i := 769) (by decide +kernel)⟩
theorem lw_p30 : lw_okq (⟨"TheAngelsWantMoreModel", "inMind", "(I)V"⟩, 15) := ⟨⟨by decide +kernel, by decide +kernel⟩, List.mem_of_getElem? (i := 648) (by decide +kernel), List.mem_of_getElem? (i := 815) (by decide +kernel), List.mem_of_getElem? (i := 816) (by decide +kernel)⟩
theorem lw_p31 : lw_okq (⟨"TheAngelsWantMoreModel", "noWide", "(I)J"⟩, 15) := ⟨⟨by decide +kernel, by decide +kernel⟩, List.mem_of_getElem? (i := 648) (by decide +kernel), List.mem_of_getElem? (i := 830) (by decide +kernel), List.mem_of_getElem? (i := 831) (by decide +kernel)⟩
def lw_privs_2 : List (MethodName × Nat) := [(⟨"TheAngelsWantMore", "refused", "(I)I"⟩, 8), (⟨"TheAngelsWantMoreModel", "no", "(I)I"⟩, 15), (⟨"TheAngelsWantMoreModel", "readsStatement", "()Z"⟩, 15), (⟨"TheAngelsWantMoreModel", "here", "()I"⟩, 15), (⟨"TheAngelsWantMoreModel", "readsKind", "()Z"⟩, 15), (⟨"TheAngelsWantMoreModel", "readsNumber", "(II)Z"⟩, 15), (⟨"TheAngelsWantMoreModel", "isDone", "(I)Z"⟩, 15), (⟨"TheAngelsWantMoreModel", "isCask", "(I)Z"⟩, 15), (⟨"TheAngelsWantMoreModel", "canPour", "(III)Z"⟩, 15), (⟨"TheAngelsWantMoreModel", "pours", "(III)V"⟩, 15), (⟨"TheAngelsWantMoreModel", "mixed", "(III)I"⟩, 15), (⟨"TheAngelsWantMoreModel", "yearsOn", "([II)V"⟩, 15), (⟨"TheAngelsWantMoreModel", "year", "([I)V"⟩, 15), (⟨"TheAngelsWantMoreModel", "yearBy", "([IZ)V"⟩, 15), (⟨"TheAngelsWantMoreModel", "inMind", "(I)V"⟩, 15), (⟨"TheAngelsWantMoreModel", "noWide", "(I)J"⟩, 15)]
theorem lw_r2 : ∀ q ∈ lw_privs_2, lw_okq q := List.forall_mem_cons.mpr ⟨lw_p16, List.forall_mem_cons.mpr ⟨lw_p17, List.forall_mem_cons.mpr ⟨lw_p18, List.forall_mem_cons.mpr ⟨lw_p19, List.forall_mem_cons.mpr ⟨lw_p20, List.forall_mem_cons.mpr ⟨lw_p21, List.forall_mem_cons.mpr ⟨lw_p22, List.forall_mem_cons.mpr ⟨lw_p23, List.forall_mem_cons.mpr ⟨lw_p24, List.forall_mem_cons.mpr ⟨lw_p25, List.forall_mem_cons.mpr ⟨lw_p26, List.forall_mem_cons.mpr ⟨lw_p27, List.forall_mem_cons.mpr ⟨lw_p28, List.forall_mem_cons.mpr ⟨lw_p29, List.forall_mem_cons.mpr ⟨lw_p30, List.forall_mem_cons.mpr ⟨lw_p31, fun _ h => absurd h List.not_mem_nil⟩⟩⟩⟩⟩⟩⟩⟩⟩⟩⟩⟩⟩⟩⟩⟩
theorem lw_p32 : lw_okq (⟨"TheAngelsWantMoreModel", "byTreaty", "(IIII)I"⟩, 15) := ⟨⟨by decide +kernel, by decide +kernel⟩, List.mem_of_getElem? (i := 648) (by decide +kernel), List.mem_of_getElem? (i := 898) (by decide +kernel), List.mem_of_getElem? (i := 899) (by decide +kernel)⟩
theorem lw_p33 : lw_okq (⟨"TheAngelsWantMoreModel", "firstWrong", "(II)I"⟩, 15) := ⟨⟨by decide +kernel, by decide +kernel⟩, List.mem_of_getElem? (i := 648) (by decide +kernel), List.mem_of_getElem? (i := 919) (by decide +kernel), List.mem_of_getElem? (i := 920) (by decide +kernel)⟩
theorem lw_p34 : lw_okq (⟨"TheAngelsWantMoreModel", "drawn", "(I)I"⟩, 15) := ⟨⟨by decide +kernel, by decide +kernel⟩, List.mem_of_getElem? (i := 648) (by decide +kernel), List.mem_of_getElem? (i := 935) (by decide +kernel), List.mem_of_getElem? (i := 936) (by decide +kernel)⟩
def lw_privs_3 : List (MethodName × Nat) := [(⟨"TheAngelsWantMoreModel", "byTreaty", "(IIII)I"⟩, 15), (⟨"TheAngelsWantMoreModel", "firstWrong", "(II)I"⟩, 15), (⟨"TheAngelsWantMoreModel", "drawn", "(I)I"⟩, 15)]
theorem lw_r3 : ∀ q ∈ lw_privs_3, lw_okq q := List.forall_mem_cons.mpr ⟨lw_p32, List.forall_mem_cons.mpr ⟨lw_p33, List.forall_mem_cons.mpr ⟨lw_p34, fun _ h => absurd h List.not_mem_nil⟩⟩⟩
def lw_privs : List (MethodName × Nat) := lw_privs_1 ++ (lw_privs_2 ++ (lw_privs_3))
def lw_tbl : List Cond := k2_sels lw_privs ++ tables_1
theorem lw_privs_ok : ∀ q ∈ lw_privs, lw_okq q := by
  show ∀ q ∈ lw_privs_1 ++ (lw_privs_2 ++ (lw_privs_3)), lw_okq q
  exact List.forall_mem_append.mpr ⟨lw_r1, List.forall_mem_append.mpr ⟨lw_r2, lw_r3⟩⟩

def RX0 : String := "TheAngelsWantMore$Cask"
def TX0 : u_T := fun k => match k with
  | 0 => ("TheAngelsWantMore$Cask", "kind", "I", false)
  | 1 => ("TheAngelsWantMore$Cask", "size", "I", false)
  | 2 => ("TheAngelsWantMore$Cask", "amount", "I", false)
  | 3 => ("TheAngelsWantMore$Cask", "strength", "I", false)
  | 4 => ("TheAngelsWantMore$Cask", "figure", "I", false)
  | _ => ("TheAngelsWantMore$Cask", "taken", "I", false)
def tyX0 : Nat → FieldType := fun k => match k with
  | 0 => .int
  | 1 => .int
  | 2 => .int
  | 3 => .int
  | 4 => .int
  | _ => .int
theorem nmX0 : ∀ a, a < 6 → ∀ b, b < 6 → a ≠ b → (TX0 a).2.1 ≠ (TX0 b).2.1 := by decide +kernel
theorem tyX0_ok : ∀ k, k < 6 → parseFieldDescriptor (TX0 k).2.2.1 = some (tyX0 k) := by decide +kernel
abbrev cX0_init : ByteArray := prog_2_method_1_code
def yX0_init : MethodName := ⟨RX0, "<init>", "()V"⟩
abbrev cX0_become : ByteArray := prog_2_method_2_code
def yX0_become : MethodName := ⟨RX0, "become", "(LTheAngelsWantMore$Cask;)V"⟩
abbrev cX0_angelsPart : ByteArray := prog_2_method_3_code
def yX0_angelsPart : MethodName := ⟨RX0, "angelsPart", "(II)I"⟩
abbrev cX0_strengthIn : ByteArray := prog_2_method_4_code
def yX0_strengthIn : MethodName := ⟨RX0, "strengthIn", "(I)I"⟩
abbrev cX0_sentBackIn : ByteArray := prog_2_method_5_code
def yX0_sentBackIn : MethodName := ⟨RX0, "sentBackIn", "(I)I"⟩
abbrev cX0_goOn : ByteArray := prog_2_method_6_code
def yX0_goOn : MethodName := ⟨RX0, "goOn", "(II)V"⟩
abbrev cX0_isHalfTheirs : ByteArray := prog_2_method_7_code
def yX0_isHalfTheirs : MethodName := ⟨RX0, "isHalfTheirs", "()Z"⟩
abbrev cX0_worth : ByteArray := prog_2_method_8_code
def yX0_worth : MethodName := ⟨RX0, "worth", "()I"⟩
def RX1 : String := "TheAngelsWantMore$Letters"
def TX1 : u_T := fun k => match k with
  | 0 => ("TheAngelsWantMore$Letters", "signs", "[I", true)
  | _ => ("TheAngelsWantMore$Letters", "length", "I", false)
def tyX1 : Nat → FieldType := fun k => match k with
  | 0 => .array .int
  | _ => .int
theorem nmX1 : ∀ a, a < 2 → ∀ b, b < 2 → a ≠ b → (TX1 a).2.1 ≠ (TX1 b).2.1 := by decide +kernel
theorem tyX1_ok : ∀ k, k < 2 → parseFieldDescriptor (TX1 k).2.2.1 = some (tyX1 k) := by decide +kernel
abbrev cX1_init : ByteArray := prog_3_method_1_code
def yX1_init : MethodName := ⟨RX1, "<init>", "()V"⟩
abbrev cX1_isFull : ByteArray := prog_3_method_2_code
def yX1_isFull : MethodName := ⟨RX1, "isFull", "()Z"⟩
abbrev cX1_add : ByteArray := prog_3_method_3_code
def yX1_add : MethodName := ⟨RX1, "add", "(I)I"⟩
abbrev cX1_forget : ByteArray := prog_3_method_4_code
def yX1_forget : MethodName := ⟨RX1, "forget", "()V"⟩
abbrev cX1_at : ByteArray := prog_3_method_5_code
def yX1_at : MethodName := ⟨RX1, "at", "(I)I"⟩
abbrev cX1_kind : ByteArray := prog_3_method_6_code
def yX1_kind : MethodName := ⟨RX1, "kind", "(I)I"⟩
abbrev cX1_number : ByteArray := prog_3_method_7_code
def yX1_number : MethodName := ⟨RX1, "number", "(II)I"⟩
abbrev cX1_firstWrong : ByteArray := prog_3_method_8_code
def yX1_firstWrong : MethodName := ⟨RX1, "firstWrong", "()I"⟩
abbrev cX1_fits : ByteArray := prog_3_method_9_code
def yX1_fits : MethodName := ⟨RX1, "fits", "(IC)Z"⟩
abbrev cX1_shapeOf : ByteArray := prog_3_method_10_code
def yX1_shapeOf : MethodName := ⟨RX1, "shapeOf", "(I)Ljava/lang/String;"⟩
def RX2 : String := "TheAngelsWantMore$Town"
def TX2 : u_T := fun k => match k with
  | 0 => ("TheAngelsWantMore$Town", "casks", "[LTheAngelsWantMore$Cask;", true)
  | 1 => ("TheAngelsWantMore$Town", "nobody", "LTheAngelsWantMore$Cask;", true)
  | 2 => ("TheAngelsWantMore$Town", "count", "I", false)
  | 3 => ("TheAngelsWantMore$Town", "rate", "I", false)
  | 4 => ("TheAngelsWantMore$Town", "lent", "I", false)
  | 5 => ("TheAngelsWantMore$Town", "excise", "I", false)
  | _ => ("TheAngelsWantMore$Town", "year", "I", false)
def tyX2 : Nat → FieldType := fun k => match k with
  | 0 => .array (.object "TheAngelsWantMore$Cask")
  | 1 => .object "TheAngelsWantMore$Cask"
  | 2 => .int
  | 3 => .int
  | 4 => .int
  | 5 => .int
  | _ => .int
theorem nmX2 : ∀ a, a < 7 → ∀ b, b < 7 → a ≠ b → (TX2 a).2.1 ≠ (TX2 b).2.1 := by decide +kernel
theorem tyX2_ok : ∀ k, k < 7 → parseFieldDescriptor (TX2 k).2.2.1 = some (tyX2 k) := by decide +kernel
abbrev cX2_init : ByteArray := prog_4_method_1_code
def yX2_init : MethodName := ⟨RX2, "<init>", "()V"⟩
abbrev cX2_at : ByteArray := prog_4_method_2_code
def yX2_at : MethodName := ⟨RX2, "at", "(I)LTheAngelsWantMore$Cask;"⟩
abbrev cX2_become : ByteArray := prog_4_method_3_code
def yX2_become : MethodName := ⟨RX2, "become", "(LTheAngelsWantMore$Town;)V"⟩
abbrev cX2_caskFault : ByteArray := prog_4_method_4_code
def yX2_caskFault : MethodName := ⟨RX2, "caskFault", "(I)I"⟩
abbrev cX2_addCask : ByteArray := prog_4_method_5_code
def yX2_addCask : MethodName := ⟨RX2, "addCask", "(IIIII)I"⟩
abbrev cX2_chosen : ByteArray := prog_4_method_6_code
def yX2_chosen : MethodName := ⟨RX2, "chosen", "(I)I"⟩
abbrev cX2_choose : ByteArray := prog_4_method_7_code
def yX2_choose : MethodName := ⟨RX2, "choose", "(II)I"⟩
abbrev cX2_pourFault : ByteArray := prog_4_method_8_code
def yX2_pourFault : MethodName := ⟨RX2, "pourFault", "(III)I"⟩
abbrev cX2_pouredStrength : ByteArray := prog_4_method_9_code
def yX2_pouredStrength : MethodName := ⟨RX2, "pouredStrength", "(III)I"⟩
abbrev cX2_pourOver : ByteArray := prog_4_method_10_code
def yX2_pourOver : MethodName := ⟨RX2, "pourOver", "(III)I"⟩
abbrev cX2_blended : ByteArray := prog_4_method_11_code
def yX2_blended : MethodName := ⟨RX2, "blended", "(II)I"⟩
abbrev cX2_rateBy : ByteArray := prog_4_method_12_code
def yX2_rateBy : MethodName := ⟨RX2, "rateBy", "(Z)I"⟩
abbrev cX2_goOn : ByteArray := prog_4_method_13_code
def yX2_goOn : MethodName := ⟨RX2, "goOn", "(I)V"⟩
abbrev cX2_liveOn : ByteArray := prog_4_method_14_code
def yX2_liveOn : MethodName := ⟨RX2, "liveOn", "(I)I"⟩
abbrev cX2_allAmounts : ByteArray := prog_4_method_15_code
def yX2_allAmounts : MethodName := ⟨RX2, "allAmounts", "()I"⟩
abbrev cX2_allTaken : ByteArray := prog_4_method_16_code
def yX2_allTaken : MethodName := ⟨RX2, "allTaken", "()I"⟩
abbrev cX2_fullest : ByteArray := prog_4_method_17_code
def yX2_fullest : MethodName := ⟨RX2, "fullest", "()I"⟩
abbrev cX2_dutyOf : ByteArray := prog_4_method_18_code
def yX2_dutyOf : MethodName := ⟨RX2, "dutyOf", "(I)I"⟩
abbrev cX2_dutyOfAll : ByteArray := prog_4_method_19_code
def yX2_dutyOfAll : MethodName := ⟨RX2, "dutyOfAll", "()I"⟩
def RX3 : String := "TheAngelsWantMore"
def TX3 : u_T := fun k => match k with
  | 0 => ("TheAngelsWantMore", "now", "LTheAngelsWantMore$Town;", true)
  | 1 => ("TheAngelsWantMore", "mind", "LTheAngelsWantMore$Town;", true)
  | 2 => ("TheAngelsWantMore", "kept", "LTheAngelsWantMore$Town;", true)
  | 3 => ("TheAngelsWantMore", "imaged", "Z", false)
  | 4 => ("TheAngelsWantMore", "letters", "LTheAngelsWantMore$Letters;", true)
  | 5 => ("TheAngelsWantMore", "told", "[I", true)
  | 6 => ("TheAngelsWantMore", "toldCount", "I", false)
  | _ => ("TheAngelsWantMore", "refusals", "[I", true)
def tyX3 : Nat → FieldType := fun k => match k with
  | 0 => .object "TheAngelsWantMore$Town"
  | 1 => .object "TheAngelsWantMore$Town"
  | 2 => .object "TheAngelsWantMore$Town"
  | 3 => .boolean
  | 4 => .object "TheAngelsWantMore$Letters"
  | 5 => .array .int
  | 6 => .int
  | _ => .array .int
theorem nmX3 : ∀ a, a < 8 → ∀ b, b < 8 → a ≠ b → (TX3 a).2.1 ≠ (TX3 b).2.1 := by decide +kernel
theorem tyX3_ok : ∀ k, k < 8 → parseFieldDescriptor (TX3 k).2.2.1 = some (tyX3 k) := by decide +kernel
abbrev cX3_init : ByteArray := prog_1_method_1_code
def yX3_init : MethodName := ⟨RX3, "<init>", "()V"⟩
abbrev cX3_letter : ByteArray := prog_1_method_2_code
def yX3_letter : MethodName := ⟨RX3, "letter", "(I)I"⟩
abbrev cX3_town : ByteArray := prog_1_method_3_code
def yX3_town : MethodName := ⟨RX3, "town", "()I"⟩
abbrev cX3_cask : ByteArray := prog_1_method_4_code
def yX3_cask : MethodName := ⟨RX3, "cask", "(II)I"⟩
abbrev cX3_set : ByteArray := prog_1_method_5_code
def yX3_set : MethodName := ⟨RX3, "set", "(II)I"⟩
abbrev cX3_fill : ByteArray := prog_1_method_6_code
def yX3_fill : MethodName := ⟨RX3, "fill", "(II)I"⟩
abbrev cX3_takes : ByteArray := prog_1_method_7_code
def yX3_takes : MethodName := ⟨RX3, "takes", "(III)I"⟩
abbrev cX3_pour : ByteArray := prog_1_method_8_code
def yX3_pour : MethodName := ⟨RX3, "pour", "(III)I"⟩
abbrev cX3_years : ByteArray := prog_1_method_9_code
def yX3_years : MethodName := ⟨RX3, "years", "(I)I"⟩
abbrev cX3_behind : ByteArray := prog_1_method_10_code
def yX3_behind : MethodName := ⟨RX3, "behind", "(III)I"⟩
abbrev cX3_allBehind : ByteArray := prog_1_method_11_code
def yX3_allBehind : MethodName := ⟨RX3, "allBehind", "(II)I"⟩
abbrev cX3_theirs : ByteArray := prog_1_method_12_code
def yX3_theirs : MethodName := ⟨RX3, "theirs", "(III)J"⟩
abbrev cX3_excise : ByteArray := prog_1_method_13_code
def yX3_excise : MethodName := ⟨RX3, "excise", "(I)I"⟩
abbrev cX3_exciseIn : ByteArray := prog_1_method_14_code
def yX3_exciseIn : MethodName := ⟨RX3, "exciseIn", "(I)I"⟩
abbrev cX3_low : ByteArray := prog_1_method_15_code
def yX3_low : MethodName := ⟨RX3, "low", "(II)I"⟩
abbrev cX3_turns : ByteArray := prog_1_method_16_code
def yX3_turns : MethodName := ⟨RX3, "turns", "()I"⟩
abbrev cX3_hum : ByteArray := prog_1_method_17_code
def yX3_hum : MethodName := ⟨RX3, "hum", "(I)I"⟩
abbrev cX3_pourFor : ByteArray := prog_1_method_18_code
def yX3_pourFor : MethodName := ⟨RX3, "pourFor", "(II)I"⟩
abbrev cX3_blend : ByteArray := prog_1_method_19_code
def yX3_blend : MethodName := ⟨RX3, "blend", "(I)I"⟩
abbrev cX3_spread : ByteArray := prog_1_method_20_code
def yX3_spread : MethodName := ⟨RX3, "spread", "()I"⟩
abbrev cX3_layDown : ByteArray := prog_1_method_21_code
def yX3_layDown : MethodName := ⟨RX3, "layDown", "(I)I"⟩
abbrev cX3_sell : ByteArray := prog_1_method_22_code
def yX3_sell : MethodName := ⟨RX3, "sell", "(I)I"⟩
abbrev cX3_treaty : ByteArray := prog_1_method_23_code
def yX3_treaty : MethodName := ⟨RX3, "treaty", "(I)I"⟩
abbrev cX3_bestSet : ByteArray := prog_1_method_24_code
def yX3_bestSet : MethodName := ⟨RX3, "bestSet", "(II)I"⟩
abbrev cX3_iron : ByteArray := prog_1_method_25_code
def yX3_iron : MethodName := ⟨RX3, "iron", "(I)I"⟩
abbrev cX3_row : ByteArray := prog_1_method_26_code
def yX3_row : MethodName := ⟨RX3, "row", "(I)I"⟩
abbrev cX3_which : ByteArray := prog_1_method_27_code
def yX3_which : MethodName := ⟨RX3, "which", "(II)I"⟩
abbrev cX3_judge : ByteArray := prog_1_method_28_code
def yX3_judge : MethodName := ⟨RX3, "judge", "(I)I"⟩
abbrev cX3_chance : ByteArray := prog_1_method_29_code
def yX3_chance : MethodName := ⟨RX3, "chance", "(IIIII)J"⟩
abbrev cX3_lots : ByteArray := prog_1_method_30_code
def yX3_lots : MethodName := ⟨RX3, "lots", "(III)I"⟩
abbrev cX3_image : ByteArray := prog_1_method_31_code
def yX3_image : MethodName := ⟨RX3, "image", "()I"⟩
abbrev cX3_on : ByteArray := prog_1_method_32_code
def yX3_on : MethodName := ⟨RX3, "on", "()I"⟩
abbrev cX3_count : ByteArray := prog_1_method_33_code
def yX3_count : MethodName := ⟨RX3, "count", "(I)I"⟩
abbrev cX3_refuse : ByteArray := prog_1_method_34_code
def yX3_refuse : MethodName := ⟨RX3, "refuse", "(I)I"⟩
abbrev cX3_refuseLong : ByteArray := prog_1_method_35_code
def yX3_refuseLong : MethodName := ⟨RX3, "refuseLong", "(I)J"⟩
abbrev cX3_refused : ByteArray := prog_1_method_36_code
def yX3_refused : MethodName := ⟨RX3, "refused", "(I)I"⟩
abbrev cX3_firstOf : ByteArray := prog_1_method_37_code
def yX3_firstOf : MethodName := ⟨RX3, "firstOf", "(III)I"⟩
abbrev cX3_rangeFault : ByteArray := prog_1_method_38_code
def yX3_rangeFault : MethodName := ⟨RX3, "rangeFault", "(III)I"⟩
abbrev cX3_whatFault : ByteArray := prog_1_method_39_code
def yX3_whatFault : MethodName := ⟨RX3, "whatFault", "(II)I"⟩
abbrev cX3_yearsFault : ByteArray := prog_1_method_40_code
def yX3_yearsFault : MethodName := ⟨RX3, "yearsFault", "(I)I"⟩
abbrev cX3_caskOrAllFault : ByteArray := prog_1_method_41_code
def yX3_caskOrAllFault : MethodName := ⟨RX3, "caskOrAllFault", "(I)I"⟩
abbrev cX3_chanceFault : ByteArray := prog_1_method_42_code
def yX3_chanceFault : MethodName := ⟨RX3, "chanceFault", "(III)I"⟩
abbrev cX3_leastChoice : ByteArray := prog_1_method_43_code
def yX3_leastChoice : MethodName := ⟨RX3, "leastChoice", "(I)I"⟩
abbrev cX3_mostChoice : ByteArray := prog_1_method_44_code
def yX3_mostChoice : MethodName := ⟨RX3, "mostChoice", "(I)I"⟩
abbrev cX3_readLetters : ByteArray := prog_1_method_45_code
def yX3_readLetters : MethodName := ⟨RX3, "readLetters", "()I"⟩
abbrev cX3_statementFault : ByteArray := prog_1_method_46_code
def yX3_statementFault : MethodName := ⟨RX3, "statementFault", "(I)I"⟩
abbrev cX3_caskComes : ByteArray := prog_1_method_47_code
def yX3_caskComes : MethodName := ⟨RX3, "caskComes", "(I)I"⟩
abbrev cX3_pourComes : ByteArray := prog_1_method_48_code
def yX3_pourComes : MethodName := ⟨RX3, "pourComes", "(I)I"⟩
abbrev cX3_thinkOn : ByteArray := prog_1_method_49_code
def yX3_thinkOn : MethodName := ⟨RX3, "thinkOn", "(I)V"⟩
abbrev cX3_keepsLess : ByteArray := prog_1_method_50_code
def yX3_keepsLess : MethodName := ⟨RX3, "keepsLess", "(II)Z"⟩
abbrev cX3_thinkTreaty : ByteArray := prog_1_method_51_code
def yX3_thinkTreaty : MethodName := ⟨RX3, "thinkTreaty", "(III)V"⟩
abbrev cX3_bothKeep : ByteArray := prog_1_method_52_code
def yX3_bothKeep : MethodName := ⟨RX3, "bothKeep", "(III)Z"⟩
abbrev cX3_firstNotSo : ByteArray := prog_1_method_53_code
def yX3_firstNotSo : MethodName := ⟨RX3, "firstNotSo", "(I)I"⟩
abbrev cX3_kindsByRow : ByteArray := prog_1_method_54_code
def yX3_kindsByRow : MethodName := ⟨RX3, "kindsByRow", "(I)I"⟩
abbrev cX3_ratesByRow : ByteArray := prog_1_method_55_code
def yX3_ratesByRow : MethodName := ⟨RX3, "ratesByRow", "(I)I"⟩
abbrev cX3_amountByLents : ByteArray := prog_1_method_56_code
def yX3_amountByLents : MethodName := ⟨RX3, "amountByLents", "(III)I"⟩
abbrev cX3_nextSeed : ByteArray := prog_1_method_57_code
def yX3_nextSeed : MethodName := ⟨RX3, "nextSeed", "(I)I"⟩
abbrev cX3_drawn : ByteArray := prog_1_method_58_code
def yX3_drawn : MethodName := ⟨RX3, "drawn", "(II)I"⟩
abbrev cX3_power : ByteArray := prog_1_method_59_code
def yX3_power : MethodName := ⟨RX3, "power", "(JI)J"⟩
abbrev cX3_partOf : ByteArray := prog_1_method_60_code
def yX3_partOf : MethodName := ⟨RX3, "partOf", "(JJI)J"⟩
abbrev cX3_commonDivisor : ByteArray := prog_1_method_61_code
def yX3_commonDivisor : MethodName := ⟨RX3, "commonDivisor", "(JJ)J"⟩
def RX4 : String := "TheAngelsWantMoreModel"
def TX4 : u_T := fun k => match k with
  | 0 => ("TheAngelsWantMoreModel", "s", "[I", true)
  | 1 => ("TheAngelsWantMoreModel", "m", "[I", true)
  | 2 => ("TheAngelsWantMoreModel", "image", "[I", true)
  | 3 => ("TheAngelsWantMoreModel", "was", "[I", true)
  | 4 => ("TheAngelsWantMoreModel", "hasImage", "Z", false)
  | 5 => ("TheAngelsWantMoreModel", "letters", "[I", true)
  | 6 => ("TheAngelsWantMoreModel", "row", "[I", true)
  | 7 => ("TheAngelsWantMoreModel", "refused", "[I", true)
  | 8 => ("TheAngelsWantMoreModel", "letterMany", "I", false)
  | 9 => ("TheAngelsWantMoreModel", "rowMany", "I", false)
  | 10 => ("TheAngelsWantMoreModel", "takenThen", "I", false)
  | 11 => ("TheAngelsWantMoreModel", "backThen", "I", false)
  | 12 => ("TheAngelsWantMoreModel", "place", "I", false)
  | 13 => ("TheAngelsWantMoreModel", "numbers", "[I", true)
  | _ => ("TheAngelsWantMoreModel", "seed", "I", false)
def tyX4 : Nat → FieldType := fun k => match k with
  | 0 => .array .int
  | 1 => .array .int
  | 2 => .array .int
  | 3 => .array .int
  | 4 => .boolean
  | 5 => .array .int
  | 6 => .array .int
  | 7 => .array .int
  | 8 => .int
  | 9 => .int
  | 10 => .int
  | 11 => .int
  | 12 => .int
  | 13 => .array .int
  | _ => .int
theorem nmX4 : ∀ a, a < 15 → ∀ b, b < 15 → a ≠ b → (TX4 a).2.1 ≠ (TX4 b).2.1 := by decide +kernel
theorem tyX4_ok : ∀ k, k < 15 → parseFieldDescriptor (TX4 k).2.2.1 = some (tyX4 k) := by decide +kernel
abbrev cX4_init : ByteArray := prog_6_method_1_code
def yX4_init : MethodName := ⟨RX4, "<init>", "()V"⟩
abbrev cX4_isIn : ByteArray := prog_6_method_2_code
def yX4_isIn : MethodName := ⟨RX4, "isIn", "(III)Z"⟩
abbrev cX4_least : ByteArray := prog_6_method_3_code
def yX4_least : MethodName := ⟨RX4, "least", "(II)I"⟩
abbrev cX4_size : ByteArray := prog_6_method_4_code
def yX4_size : MethodName := ⟨RX4, "size", "(I)I"⟩
abbrev cX4_lays : ByteArray := prog_6_method_5_code
def yX4_lays : MethodName := ⟨RX4, "lays", "([I[I)V"⟩
abbrev cX4_no : ByteArray := prog_6_method_6_code
def yX4_no : MethodName := ⟨RX4, "no", "(I)I"⟩
abbrev cX4_noWide : ByteArray := prog_6_method_7_code
def yX4_noWide : MethodName := ⟨RX4, "noWide", "(I)J"⟩
abbrev cX4_isCask : ByteArray := prog_6_method_8_code
def yX4_isCask : MethodName := ⟨RX4, "isCask", "(I)Z"⟩
abbrev cX4_at : ByteArray := prog_6_method_9_code
def yX4_at : MethodName := ⟨RX4, "at", "(II)I"⟩
abbrev cX4_takesOf : ByteArray := prog_6_method_10_code
def yX4_takesOf : MethodName := ⟨RX4, "takesOf", "([IIII)I"⟩
abbrev cX4_strengthOf : ByteArray := prog_6_method_11_code
def yX4_strengthOf : MethodName := ⟨RX4, "strengthOf", "([III)I"⟩
abbrev cX4_backOf : ByteArray := prog_6_method_12_code
def yX4_backOf : MethodName := ⟨RX4, "backOf", "([II)I"⟩
abbrev cX4_yearBy : ByteArray := prog_6_method_13_code
def yX4_yearBy : MethodName := ⟨RX4, "yearBy", "([IZ)V"⟩
abbrev cX4_year : ByteArray := prog_6_method_14_code
def yX4_year : MethodName := ⟨RX4, "year", "([I)V"⟩
abbrev cX4_yearsOn : ByteArray := prog_6_method_15_code
def yX4_yearsOn : MethodName := ⟨RX4, "yearsOn", "([II)V"⟩
abbrev cX4_inMind : ByteArray := prog_6_method_16_code
def yX4_inMind : MethodName := ⟨RX4, "inMind", "(I)V"⟩
abbrev cX4_sumOf : ByteArray := prog_6_method_17_code
def yX4_sumOf : MethodName := ⟨RX4, "sumOf", "([II)I"⟩
abbrev cX4_letter : ByteArray := prog_6_method_18_code
def yX4_letter : MethodName := ⟨RX4, "letter", "(I)I"⟩
abbrev cX4_here : ByteArray := prog_6_method_19_code
def yX4_here : MethodName := ⟨RX4, "here", "()I"⟩
abbrev cX4_readsNumber : ByteArray := prog_6_method_20_code
def yX4_readsNumber : MethodName := ⟨RX4, "readsNumber", "(II)Z"⟩
abbrev cX4_kindOf : ByteArray := prog_6_method_21_code
def yX4_kindOf : MethodName := ⟨RX4, "kindOf", "(I)I"⟩
abbrev cX4_readsKind : ByteArray := prog_6_method_22_code
def yX4_readsKind : MethodName := ⟨RX4, "readsKind", "()Z"⟩
abbrev cX4_readsStatement : ByteArray := prog_6_method_23_code
def yX4_readsStatement : MethodName := ⟨RX4, "readsStatement", "()Z"⟩
abbrev cX4_canPour : ByteArray := prog_6_method_24_code
def yX4_canPour : MethodName := ⟨RX4, "canPour", "(III)Z"⟩
abbrev cX4_mixed : ByteArray := prog_6_method_25_code
def yX4_mixed : MethodName := ⟨RX4, "mixed", "(III)I"⟩
abbrev cX4_pours : ByteArray := prog_6_method_26_code
def yX4_pours : MethodName := ⟨RX4, "pours", "(III)V"⟩
abbrev cX4_isDone : ByteArray := prog_6_method_27_code
def yX4_isDone : MethodName := ⟨RX4, "isDone", "(I)Z"⟩
abbrev cX4_town : ByteArray := prog_6_method_28_code
def yX4_town : MethodName := ⟨RX4, "town", "()I"⟩
abbrev cX4_cask : ByteArray := prog_6_method_29_code
def yX4_cask : MethodName := ⟨RX4, "cask", "(II)I"⟩
abbrev cX4_set : ByteArray := prog_6_method_30_code
def yX4_set : MethodName := ⟨RX4, "set", "(II)I"⟩
abbrev cX4_fill : ByteArray := prog_6_method_31_code
def yX4_fill : MethodName := ⟨RX4, "fill", "(II)I"⟩
abbrev cX4_takes : ByteArray := prog_6_method_32_code
def yX4_takes : MethodName := ⟨RX4, "takes", "(III)I"⟩
abbrev cX4_pour : ByteArray := prog_6_method_33_code
def yX4_pour : MethodName := ⟨RX4, "pour", "(III)I"⟩
abbrev cX4_years : ByteArray := prog_6_method_34_code
def yX4_years : MethodName := ⟨RX4, "years", "(I)I"⟩
abbrev cX4_wrongYears : ByteArray := prog_6_method_35_code
def yX4_wrongYears : MethodName := ⟨RX4, "wrongYears", "(I)I"⟩
abbrev cX4_behind : ByteArray := prog_6_method_36_code
def yX4_behind : MethodName := ⟨RX4, "behind", "(III)I"⟩
abbrev cX4_allBehind : ByteArray := prog_6_method_37_code
def yX4_allBehind : MethodName := ⟨RX4, "allBehind", "(II)I"⟩
abbrev cX4_gcd : ByteArray := prog_6_method_38_code
def yX4_gcd : MethodName := ⟨RX4, "gcd", "(JJ)J"⟩
abbrev cX4_partOf : ByteArray := prog_6_method_39_code
def yX4_partOf : MethodName := ⟨RX4, "partOf", "(JJI)J"⟩
abbrev cX4_theirs : ByteArray := prog_6_method_40_code
def yX4_theirs : MethodName := ⟨RX4, "theirs", "(III)J"⟩
abbrev cX4_exciseOf : ByteArray := prog_6_method_41_code
def yX4_exciseOf : MethodName := ⟨RX4, "exciseOf", "([II)I"⟩
abbrev cX4_exciseAll : ByteArray := prog_6_method_42_code
def yX4_exciseAll : MethodName := ⟨RX4, "exciseAll", "([I)I"⟩
abbrev cX4_excise : ByteArray := prog_6_method_43_code
def yX4_excise : MethodName := ⟨RX4, "excise", "(I)I"⟩
abbrev cX4_exciseIn : ByteArray := prog_6_method_44_code
def yX4_exciseIn : MethodName := ⟨RX4, "exciseIn", "(I)I"⟩
abbrev cX4_low : ByteArray := prog_6_method_45_code
def yX4_low : MethodName := ⟨RX4, "low", "(II)I"⟩
abbrev cX4_turns : ByteArray := prog_6_method_46_code
def yX4_turns : MethodName := ⟨RX4, "turns", "()I"⟩
abbrev cX4_hum : ByteArray := prog_6_method_47_code
def yX4_hum : MethodName := ⟨RX4, "hum", "(I)I"⟩
abbrev cX4_pourFor : ByteArray := prog_6_method_48_code
def yX4_pourFor : MethodName := ⟨RX4, "pourFor", "(II)I"⟩
abbrev cX4_blend : ByteArray := prog_6_method_49_code
def yX4_blend : MethodName := ⟨RX4, "blend", "(I)I"⟩
abbrev cX4_spread : ByteArray := prog_6_method_50_code
def yX4_spread : MethodName := ⟨RX4, "spread", "()I"⟩
abbrev cX4_worthOf : ByteArray := prog_6_method_51_code
def yX4_worthOf : MethodName := ⟨RX4, "worthOf", "([II)I"⟩
abbrev cX4_layDown : ByteArray := prog_6_method_52_code
def yX4_layDown : MethodName := ⟨RX4, "layDown", "(I)I"⟩
abbrev cX4_sell : ByteArray := prog_6_method_53_code
def yX4_sell : MethodName := ⟨RX4, "sell", "(I)I"⟩
abbrev cX4_byTreaty : ByteArray := prog_6_method_54_code
def yX4_byTreaty : MethodName := ⟨RX4, "byTreaty", "(IIII)I"⟩
abbrev cX4_treaty : ByteArray := prog_6_method_55_code
def yX4_treaty : MethodName := ⟨RX4, "treaty", "(I)I"⟩
abbrev cX4_bestSet : ByteArray := prog_6_method_56_code
def yX4_bestSet : MethodName := ⟨RX4, "bestSet", "(II)I"⟩
abbrev cX4_iron : ByteArray := prog_6_method_57_code
def yX4_iron : MethodName := ⟨RX4, "iron", "(I)I"⟩
abbrev cX4_row : ByteArray := prog_6_method_58_code
def yX4_row : MethodName := ⟨RX4, "row", "(I)I"⟩
abbrev cX4_firstWrong : ByteArray := prog_6_method_59_code
def yX4_firstWrong : MethodName := ⟨RX4, "firstWrong", "(II)I"⟩
abbrev cX4_which : ByteArray := prog_6_method_60_code
def yX4_which : MethodName := ⟨RX4, "which", "(II)I"⟩
abbrev cX4_judge : ByteArray := prog_6_method_61_code
def yX4_judge : MethodName := ⟨RX4, "judge", "(I)I"⟩
abbrev cX4_chance : ByteArray := prog_6_method_62_code
def yX4_chance : MethodName := ⟨RX4, "chance", "(IIIII)J"⟩
abbrev cX4_drawn : ByteArray := prog_6_method_63_code
def yX4_drawn : MethodName := ⟨RX4, "drawn", "(I)I"⟩
abbrev cX4_lots : ByteArray := prog_6_method_64_code
def yX4_lots : MethodName := ⟨RX4, "lots", "(III)I"⟩
abbrev cX4_image : ByteArray := prog_6_method_65_code
def yX4_image : MethodName := ⟨RX4, "image", "()I"⟩
abbrev cX4_on : ByteArray := prog_6_method_66_code
def yX4_on : MethodName := ⟨RX4, "on", "()I"⟩
abbrev cX4_count : ByteArray := prog_6_method_67_code
def yX4_count : MethodName := ⟨RX4, "count", "(I)I"⟩
def RJ11 : String := "java/lang/Character"
abbrev cJ11_isValidCodePoint_9a6ad : ByteArray := prog_7_method_11_code
def yJ11_isValidCodePoint_9a6ad : MethodName := ⟨RJ11, "isValidCodePoint", "(I)Z"⟩
abbrev cJ11_highSurrogate_5068e : ByteArray := prog_7_method_28_code
def yJ11_highSurrogate_5068e : MethodName := ⟨RJ11, "highSurrogate", "(I)C"⟩
abbrev cJ11_lowSurrogate_5068e : ByteArray := prog_7_method_29_code
def yJ11_lowSurrogate_5068e : MethodName := ⟨RJ11, "lowSurrogate", "(I)C"⟩
def RJ6 : String := "java/lang/Integer"
abbrev cJ6_bitCount_0f7a4 : ByteArray := prog_8_method_49_code
def yJ6_bitCount_0f7a4 : MethodName := ⟨RJ6, "bitCount", "(I)I"⟩
def RJ9 : String := "java/lang/Math"
abbrev cJ9_abs_0f7a4 : ByteArray := prog_9_method_59_code
def yJ9_abs_0f7a4 : MethodName := ⟨RJ9, "abs", "(I)I"⟩
abbrev cJ9_max_7cf53 : ByteArray := prog_9_method_65_code
def yJ9_max_7cf53 : MethodName := ⟨RJ9, "max", "(II)I"⟩
abbrev cJ9_min_7cf53 : ByteArray := prog_9_method_69_code
def yJ9_min_7cf53 : MethodName := ⟨RJ9, "min", "(II)I"⟩
def RJ0 : String := "java/lang/String"
abbrev cJ0_length_8abf5 : ByteArray := prog_10_method_54_code
def yJ0_length_8abf5 : MethodName := ⟨RJ0, "length", "()I"⟩
abbrev cJ0_charAt_5068e : ByteArray := prog_10_method_56_code
def yJ0_charAt_5068e : MethodName := ⟨RJ0, "charAt", "(I)C"⟩
abbrev cJ0_indexOf_0f7a4 : ByteArray := prog_10_method_79_code
def yJ0_indexOf_0f7a4 : MethodName := ⟨RJ0, "indexOf", "(I)I"⟩
abbrev cJ0_indexOf_7cf53 : ByteArray := prog_10_method_80_code
def yJ0_indexOf_7cf53 : MethodName := ⟨RJ0, "indexOf", "(II)I"⟩
abbrev cJ0_coder_7d493 : ByteArray := prog_10_method_152_code
def yJ0_coder_7d493 : MethodName := ⟨RJ0, "coder", "()B"⟩
abbrev cJ0_isLatin1_aae02 : ByteArray := prog_10_method_154_code
def yJ0_isLatin1_aae02 : MethodName := ⟨RJ0, "isLatin1", "()Z"⟩
abbrev cJ0_checkIndex_df160 : ByteArray := prog_10_method_155_code
def yJ0_checkIndex_df160 : MethodName := ⟨RJ0, "checkIndex", "(II)V"⟩
abbrev cJ0_checkBoundsBeginEnd_23922 : ByteArray := prog_10_method_158_code
def yJ0_checkBoundsBeginEnd_23922 : MethodName := ⟨RJ0, "checkBoundsBeginEnd", "(III)V"⟩
def RJ1 : String := "java/lang/StringLatin1"
abbrev cJ1_charAt_3b067 : ByteArray := prog_11_method_2_code
def yJ1_charAt_3b067 : MethodName := ⟨RJ1, "charAt", "([BI)C"⟩
abbrev cJ1_canEncode_9a6ad : ByteArray := prog_11_method_4_code
def yJ1_canEncode_9a6ad : MethodName := ⟨RJ1, "canEncode", "(I)Z"⟩
abbrev cJ1_indexOf_4cfef : ByteArray := prog_11_method_22_code
def yJ1_indexOf_4cfef : MethodName := ⟨RJ1, "indexOf", "([BIII)I"⟩
abbrev cJ1_indexOfChar_4cfef : ByteArray := prog_11_method_23_code
def yJ1_indexOfChar_4cfef : MethodName := ⟨RJ1, "indexOfChar", "([BIII)I"⟩
def RJ2 : String := "java/lang/StringUTF16"
abbrev cJ2_getChar_3b067 : ByteArray := prog_12_method_5_code
def yJ2_getChar_3b067 : MethodName := ⟨RJ2, "getChar", "([BI)C"⟩
abbrev cJ2_length_9d52b : ByteArray := prog_12_method_6_code
def yJ2_length_9d52b : MethodName := ⟨RJ2, "length", "([B)I"⟩
abbrev cJ2_indexOf_4cfef : ByteArray := prog_12_method_40_code
def yJ2_indexOf_4cfef : MethodName := ⟨RJ2, "indexOf", "([BIII)I"⟩
abbrev cJ2_indexOfChar_4cfef : ByteArray := prog_12_method_47_code
def yJ2_indexOfChar_4cfef : MethodName := ⟨RJ2, "indexOfChar", "([BIII)I"⟩
abbrev cJ2_indexOfCharUnsafe_4cfef : ByteArray := prog_12_method_48_code
def yJ2_indexOfCharUnsafe_4cfef : MethodName := ⟨RJ2, "indexOfCharUnsafe", "([BIII)I"⟩
abbrev cJ2_indexOfSupplementary_4cfef : ByteArray := prog_12_method_49_code
def yJ2_indexOfSupplementary_4cfef : MethodName := ⟨RJ2, "indexOfSupplementary", "([BIII)I"⟩
abbrev cJ2_charAt_3b067 : ByteArray := prog_12_method_83_code
def yJ2_charAt_3b067 : MethodName := ⟨RJ2, "charAt", "([BI)C"⟩
abbrev cJ2_checkIndex_2214a : ByteArray := prog_12_method_91_code
def yJ2_checkIndex_2214a : MethodName := ⟨RJ2, "checkIndex", "(I[B)V"⟩
abbrev cJ2_checkBoundsBeginEnd_d044e : ByteArray := prog_12_method_93_code
def yJ2_checkBoundsBeginEnd_d044e : MethodName := ⟨RJ2, "checkBoundsBeginEnd", "(II[B)V"⟩
def RJ3 : String := "jdk/internal/util/Preconditions"
abbrev cJ3_checkIndex_8e157 : ByteArray := prog_13_method_11_code
def yJ3_checkIndex_8e157 : MethodName := ⟨RJ3, "checkIndex", "(IILjava/util/function/BiFunction;)I"⟩
abbrev cJ3_checkFromToIndex_8c36e : ByteArray := prog_13_method_12_code
def yJ3_checkFromToIndex_8c36e : MethodName := ⟨RJ3, "checkFromToIndex", "(IIILjava/util/function/BiFunction;)I"⟩
def RL : String := "TheAngelsWantMoreLaw"
abbrev cL_law : ByteArray := code
def yL_law : MethodName := ⟨RL, "law", "([I)Z"⟩
abbrev vwCl : List vw_C := [(RX0, TX0, 6), (RX1, TX1, 2), (RX2, TX2, 7), (RX3, TX3, 8), (RX4, TX4, 15)]
theorem ti1 : ∀ w ∈ tables_1_1, w ∈ lw_tbl := fun w h => List.mem_append_right _ (show w ∈ tables_1_1 ++ (tables_1_2 ++ (tables_1_3 ++ tables_1_4)) from List.mem_append_left _ h)
theorem tm1 (k : Nat) {w : Jvm.Cond} (h : tables_1_1[k]? = some w) : w ∈ lw_tbl := ti1 _ (List.mem_of_getElem? h)
theorem ti2 : ∀ w ∈ tables_1_2, w ∈ lw_tbl := fun w h => List.mem_append_right _ (show w ∈ tables_1_1 ++ (tables_1_2 ++ (tables_1_3 ++ tables_1_4)) from List.mem_append_right _ (List.mem_append_left _ h))
theorem tm2 (k : Nat) {w : Jvm.Cond} (h : tables_1_2[k]? = some w) : w ∈ lw_tbl := ti2 _ (List.mem_of_getElem? h)
theorem ti3 : ∀ w ∈ tables_1_3, w ∈ lw_tbl := fun w h => List.mem_append_right _ (show w ∈ tables_1_1 ++ (tables_1_2 ++ (tables_1_3 ++ tables_1_4)) from List.mem_append_right _ (List.mem_append_right _ (List.mem_append_left _ h)))
theorem tm3 (k : Nat) {w : Jvm.Cond} (h : tables_1_3[k]? = some w) : w ∈ lw_tbl := ti3 _ (List.mem_of_getElem? h)
theorem ti4 : ∀ w ∈ tables_1_4, w ∈ lw_tbl := fun w h => List.mem_append_right _ (show w ∈ tables_1_1 ++ (tables_1_2 ++ (tables_1_3 ++ tables_1_4)) from List.mem_append_right _ (List.mem_append_right _ (List.mem_append_right _ h)))
theorem tm4 (k : Nat) {w : Jvm.Cond} (h : tables_1_4[k]? = some w) : w ∈ lw_tbl := ti4 _ (List.mem_of_getElem? h)
theorem ps1 (k : Nat) {q : MethodName × Nat} (h : lw_privs_1[k]? = some q) : Jvm.Cond.selects q.1.cls q.1 q.1 ∈ lw_tbl := List.mem_append_left _ (List.mem_map.mpr ⟨q, (show q ∈ lw_privs_1 ++ (lw_privs_2 ++ (lw_privs_3)) from (fun (h : q ∈ lw_privs_1) => List.mem_append_left _ h) (List.mem_of_getElem? h)), rfl⟩)
theorem ps2 (k : Nat) {q : MethodName × Nat} (h : lw_privs_2[k]? = some q) : Jvm.Cond.selects q.1.cls q.1 q.1 ∈ lw_tbl := List.mem_append_left _ (List.mem_map.mpr ⟨q, (show q ∈ lw_privs_1 ++ (lw_privs_2 ++ (lw_privs_3)) from (fun (h : q ∈ lw_privs_2) => List.mem_append_right _ (List.mem_append_left _ h)) (List.mem_of_getElem? h)), rfl⟩)
theorem ps3 (k : Nat) {q : MethodName × Nat} (h : lw_privs_3[k]? = some q) : Jvm.Cond.selects q.1.cls q.1 q.1 ∈ lw_tbl := List.mem_append_left _ (List.mem_map.mpr ⟨q, (show q ∈ lw_privs_1 ++ (lw_privs_2 ++ (lw_privs_3)) from (fun (h : q ∈ lw_privs_3) => List.mem_append_right _ (List.mem_append_right _ (h))) (List.mem_of_getElem? h)), rfl⟩)
set_option maxRecDepth 100000 in
theorem inX0 : ∀ w ∈ u_ws RX0 TX0 6, w ∈ lw_tbl := (show ∀ w ∈ [u_lay RX0 TX0 0, u_lay RX0 TX0 1, u_lay RX0 TX0 2, u_lay RX0 TX0 3, u_lay RX0 TX0 4, u_lay RX0 TX0 5], w ∈ lw_tbl from List.forall_mem_cons.mpr ⟨(tm1 52 rfl), List.forall_mem_cons.mpr ⟨(tm1 54 rfl), List.forall_mem_cons.mpr ⟨(tm1 56 rfl), List.forall_mem_cons.mpr ⟨(tm1 58 rfl), List.forall_mem_cons.mpr ⟨(tm1 60 rfl), List.forall_mem_cons.mpr ⟨(tm1 62 rfl), fun _ h => absurd h List.not_mem_nil⟩⟩⟩⟩⟩⟩)
set_option maxRecDepth 100000 in
theorem inX1 : ∀ w ∈ u_ws RX1 TX1 2, w ∈ lw_tbl := (show ∀ w ∈ [u_lay RX1 TX1 0, u_lay RX1 TX1 1], w ∈ lw_tbl from List.forall_mem_cons.mpr ⟨(tm1 101 rfl), List.forall_mem_cons.mpr ⟨(tm1 103 rfl), fun _ h => absurd h List.not_mem_nil⟩⟩)
set_option maxRecDepth 100000 in
theorem inX2 : ∀ w ∈ u_ws RX2 TX2 7, w ∈ lw_tbl := (show ∀ w ∈ [u_lay RX2 TX2 0, u_lay RX2 TX2 1, u_lay RX2 TX2 2, u_lay RX2 TX2 3, u_lay RX2 TX2 4, u_lay RX2 TX2 5, u_lay RX2 TX2 6], w ∈ lw_tbl from List.forall_mem_cons.mpr ⟨(tm1 77 rfl), List.forall_mem_cons.mpr ⟨(tm1 79 rfl), List.forall_mem_cons.mpr ⟨(tm1 81 rfl), List.forall_mem_cons.mpr ⟨(tm1 83 rfl), List.forall_mem_cons.mpr ⟨(tm1 85 rfl), List.forall_mem_cons.mpr ⟨(tm1 87 rfl), List.forall_mem_cons.mpr ⟨(tm1 89 rfl), fun _ h => absurd h List.not_mem_nil⟩⟩⟩⟩⟩⟩⟩)
set_option maxRecDepth 100000 in
theorem inX3 : ∀ w ∈ u_ws RX3 TX3 8, w ∈ lw_tbl := (show ∀ w ∈ [u_lay RX3 TX3 0, u_lay RX3 TX3 1, u_lay RX3 TX3 2, u_lay RX3 TX3 3, u_lay RX3 TX3 4, u_lay RX3 TX3 5, u_lay RX3 TX3 6, u_lay RX3 TX3 7], w ∈ lw_tbl from List.forall_mem_cons.mpr ⟨(tm1 115 rfl), List.forall_mem_cons.mpr ⟨(tm1 117 rfl), List.forall_mem_cons.mpr ⟨(tm1 119 rfl), List.forall_mem_cons.mpr ⟨(tm1 121 rfl), List.forall_mem_cons.mpr ⟨(tm1 123 rfl), List.forall_mem_cons.mpr ⟨(tm1 125 rfl), List.forall_mem_cons.mpr ⟨(tm1 127 rfl), List.forall_mem_cons.mpr ⟨(tm1 129 rfl), fun _ h => absurd h List.not_mem_nil⟩⟩⟩⟩⟩⟩⟩⟩)
set_option maxRecDepth 100000 in
theorem inX4 : ∀ w ∈ u_ws RX4 TX4 15, w ∈ lw_tbl := (show ∀ w ∈ [u_lay RX4 TX4 0, u_lay RX4 TX4 1, u_lay RX4 TX4 2, u_lay RX4 TX4 3, u_lay RX4 TX4 4, u_lay RX4 TX4 5, u_lay RX4 TX4 6, u_lay RX4 TX4 7, u_lay RX4 TX4 8, u_lay RX4 TX4 9, u_lay RX4 TX4 10, u_lay RX4 TX4 11, u_lay RX4 TX4 12, u_lay RX4 TX4 13, u_lay RX4 TX4 14], w ∈ lw_tbl from List.forall_mem_cons.mpr ⟨(tm3 188 rfl), List.forall_mem_cons.mpr ⟨(tm3 190 rfl), List.forall_mem_cons.mpr ⟨(tm3 192 rfl), List.forall_mem_cons.mpr ⟨(tm3 194 rfl), List.forall_mem_cons.mpr ⟨(tm3 196 rfl), List.forall_mem_cons.mpr ⟨(tm3 198 rfl), List.forall_mem_cons.mpr ⟨(tm3 200 rfl), List.forall_mem_cons.mpr ⟨(tm3 202 rfl), List.forall_mem_cons.mpr ⟨(tm3 204 rfl), List.forall_mem_cons.mpr ⟨(tm3 206 rfl), List.forall_mem_cons.mpr ⟨(tm3 208 rfl), List.forall_mem_cons.mpr ⟨(tm3 210 rfl), List.forall_mem_cons.mpr ⟨(tm3 212 rfl), List.forall_mem_cons.mpr ⟨(tm3 214 rfl), List.forall_mem_cons.mpr ⟨(tm3 216 rfl), fun _ h => absurd h List.not_mem_nil⟩⟩⟩⟩⟩⟩⟩⟩⟩⟩⟩⟩⟩⟩⟩)
/-- the words that every method carries -/
def BW : List Jvm.Cond := lw_tbl.filter goodWord
theorem bw {w : Jvm.Cond} (h : w ∈ lw_tbl) (g : goodWord w = true) : w ∈ BW := List.mem_filter.mpr ⟨h, g⟩
end
section
/-! THE SMALL MACHINE: objects by numbers, their ints in one table; what a method's code does there (ab_step, ab_loop, ab_run). Part 11 shows that the machine of the Statement does the same. -/
abbrev Mm : Type := Nat → Nat → Int32
abbrev Lo : Type := List (Option Value)
abbrev Rz : Type := Option Value × Mm
abbrev S5 : Type := Nat × Lo × List Value × Mm
abbrev Cf : Type := Nat → List Value → Mm → Option Rz
def mset (mem : Mm) (o k : Nat) (v : Int32) : Mm := fun i j => if i = o then (if j = k then v else mem i j) else mem i j
/-- kinds of the objects: 0 Cask, 1 Letters, 2 Town, 3 the class, 4 the reference, 5 an int array, 6 a Town's array of Casks, 7 a String constant, 8 its bytes, 9 the script -/
def kdL : List Nat := [3, 2, 6, 0, 0, 0, 0, 0, 0, 0, 0, 2, 6, 0, 0, 0, 0, 0, 0, 0, 0, 2, 6, 0, 0, 0, 0, 0, 0, 0, 0, 1, 5, 5, 5, 4, 5, 5, 5, 5, 5, 5, 5, 5]
def kd (o : Nat) : Nat := if o < 44 then kdL.getD o 99 else if o < 50 then 99 else if o < 58 then 7 else if o < 60 then 99 else if o < 68 then 8 else if o = 90 then 9 else 99
def lnL : List Nat := [0, 0, 0, 0, 0, 0, 0, 0, 0, 0, 0, 0, 0, 0, 0, 0, 0, 0, 0, 0, 0, 0, 0, 0, 0, 0, 0, 0, 0, 0, 0, 0, 96, 12, 7, 0, 47, 47, 47, 47, 96, 12, 7, 5]
def ln (o : Nat) : Nat := lnL.getD o 0
/-- fields that hold an object, never written behind the constructors -/
def rfT : Nat → Nat → Nat → Option Nat
  | 1, 0, o => some (o + 1)
  | 2, 0, o => some (o + 1)
  | 2, 1, o => some (o + 9)
  | 3, 0, _ => some 1
  | 3, 1, _ => some 11
  | 3, 2, _ => some 21
  | 3, 4, _ => some 31
  | 3, 5, _ => some 33
  | 3, 7, _ => some 34
  | 4, 0, _ => some 36
  | 4, 1, _ => some 37
  | 4, 2, _ => some 38
  | 4, 3, _ => some 39
  | 4, 5, _ => some 40
  | 4, 6, _ => some 41
  | 4, 7, _ => some 42
  | 4, 13, _ => some 43
  | _, _, _ => none
def fv (ci k o : Nat) (mem : Mm) : Value := match rfT ci k o with
  | some j => .ref j
  | none => .int (mem o k)
def nfT : Nat → Nat
  | 0 => 6
  | 1 => 2
  | 2 => 7
  | 3 => 8
  | 4 => 15
  | _ => 0
def is2 : Option Value → Bool
  | some v => v.category == 2
  | none => false
def aset : Lo → Nat → Value → Lo
  | [], _, _ => []
  | _ :: t, 0, v => some v :: (if v.category = 2 then (match t with | [] => [] | _ :: t2 => none :: t2) else t)
  | a :: t, i + 1, v => (if i = 0 ∧ is2 a = true then none else a) :: aset t i v
def aget (ls : Lo) (i : Nat) : Option Value := match ls[i]? with
  | some (some v) => some v
  | _ => none
/-- the locals with which a method begins -/
def aent : Nat → List Value → Lo
  | n, [] => List.replicate n none
  | n, v :: vs => if v.category = 2 then some v :: none :: aent (n - 2) vs else some v :: aent (n - 1) vs
def awd (vs : List Value) : Nat := (vs.map fun v => v.category).sum
abbrev MD : Type := MethodName × ByteArray × Nat × Option FieldType × Nat × Nat × Bool
abbrev MD.y (d : MD) : MethodName := d.1
abbrev MD.c (d : MD) : ByteArray := d.2.1
abbrev MD.ml (d : MD) : Nat := d.2.2.1
abbrev MD.rt (d : MD) : Option FieldType := d.2.2.2.1
abbrev MD.own (d : MD) : Nat := d.2.2.2.2.1
abbrev MD.na (d : MD) : Nat := d.2.2.2.2.2.1
abbrev MD.st (d : MD) : Bool := d.2.2.2.2.2.2
def lk2 {α : Type} (t : List (Nat × Nat × α)) (a b : Nat) : Option α := match t.find? (fun e => e.1 == a && e.2.1 == b) with
  | some e => some e.2.2
  | none => none
theorem lk2_mem {α : Type} {t : List (Nat × Nat × α)} {a b : Nat} {x : α} (h : lk2 t a b = some x) : (a, b, x) ∈ t := by
  unfold lk2 at h
  split at h
  next e he =>
    have h1 := List.mem_of_find?_eq_some he
    have h2 := List.find?_some he
    simp only [Bool.and_eq_true, beq_iff_eq] at h2
    cases h
    obtain ⟨h3, h4⟩ := h2
    subst h3; subst h4
    exact h1
  next => cases h
/-- how many bytes an instruction must take (as the rows say) -/
def wlen : Instr → Nat → Nat
  | .bipush _, _ => 2
  | .sipush _, _ => 3
  | .iload _, _ => 2
  | .lload _, _ => 2
  | .aload _, _ => 2
  | .istore _, _ => 2
  | .lstore _, _ => 2
  | .astore _, _ => 2
  | .iinc _ _, _ => 3
  | .ifCond _ _, _ => 3
  | .if_icmp _ _, _ => 3
  | .ifnonnull _, _ => 3
  | .goto _, _ => 3
  | .getfield _, _ => 3
  | .putfield _, _ => 3
  | .getstatic _, _ => 3
  | .invokevirtual _, _ => 3
  | .invokestatic _, _ => 3
  | .ldc _, _ => 2
  | .ldc_w _, _ => 3
  | .ldc2_w _, _ => 3
  | .lookupswitch _ _, n => n
  | .tableswitch _ _ _ _, n => n
  | _, _ => 1
def acnd : ClassFile.Cond → Int32 → Int32 → Bool
  | .eq, x, y => decide (x = y)
  | .ne, x, y => decide (¬ x = y)
  | .lt, x, y => decide (x < y)
  | .ge, x, y => decide (y ≤ x)
  | .gt, x, y => decide (y < x)
  | .le, x, y => decide (x ≤ y)
def aret : Option FieldType → List Value → Option (Option Value)
  | some .int, [.int v] => some (some (.int v))
  | some .boolean, [.int v] => if v = 0 ∨ v = 1 then some (some (.int v)) else none
  | some .byte, [.int v] => if v.toInt8.toInt32 = v then some (some (.int v)) else none
  | some .char, [.int v] => if v.toUInt32.toUInt16.toUInt32.toInt32 = v then some (some (.int v)) else none
  | _, _ => none
/-- where a jump goes -/
def ajmp (pc : Nat) (off : Int) : Option Nat := if 0 ≤ (pc : Int) + off then some ((pc : Int) + off).toNat else none
abbrev anx (pc : Nat) (ls : Lo) (st : List Value) (mem : Mm) : Option (Rz ⊕ S5) := some (.inr (pc, ls, st, mem))
abbrev ajm (pc : Nat) (off : Int) (ls : Lo) (st : List Value) (mem : Mm) : Option (Rz ⊕ S5) := match ajmp pc off with
  | some t => anx t ls st mem
  | none => none
/-- index i within n -/
abbrev vin (i : Int32) (n : Nat) : Prop := ¬ (i < 0 ∨ n ≤ i.toNatClampNeg)
end
section
def md_J9_abs_0f7a4 : MD := (yJ9_abs_0f7a4, cJ9_abs_0f7a4, 1, (some .int), 19, 1, true)
def md_J9_max_7cf53 : MD := (yJ9_max_7cf53, cJ9_max_7cf53, 2, (some .int), 19, 2, true)
def md_J9_min_7cf53 : MD := (yJ9_min_7cf53, cJ9_min_7cf53, 2, (some .int), 19, 2, true)
def md_J6_bitCount_0f7a4 : MD := (yJ6_bitCount_0f7a4, cJ6_bitCount_0f7a4, 1, (some .int), 16, 1, true)
def md_J0_length_8abf5 : MD := (yJ0_length_8abf5, cJ0_length_8abf5, 1, (some .int), 10, 0, false)
def md_J0_charAt_5068e : MD := (yJ0_charAt_5068e, cJ0_charAt_5068e, 2, (some .char), 10, 1, false)
def md_J0_indexOf_0f7a4 : MD := (yJ0_indexOf_0f7a4, cJ0_indexOf_0f7a4, 2, (some .int), 10, 1, false)
def md_J0_indexOf_7cf53 : MD := (yJ0_indexOf_7cf53, cJ0_indexOf_7cf53, 3, (some .int), 10, 2, false)
def md_J0_coder_7d493 : MD := (yJ0_coder_7d493, cJ0_coder_7d493, 1, (some .byte), 10, 0, false)
def md_J0_isLatin1_aae02 : MD := (yJ0_isLatin1_aae02, cJ0_isLatin1_aae02, 1, (some .boolean), 10, 0, false)
def md_J0_checkIndex_df160 : MD := (yJ0_checkIndex_df160, cJ0_checkIndex_df160, 2, none, 10, 2, true)
def md_J1_charAt_3b067 : MD := (yJ1_charAt_3b067, cJ1_charAt_3b067, 2, (some .char), 11, 2, true)
def md_J1_canEncode_9a6ad : MD := (yJ1_canEncode_9a6ad, cJ1_canEncode_9a6ad, 1, (some .boolean), 11, 1, true)
def md_J1_indexOf_4cfef : MD := (yJ1_indexOf_4cfef, cJ1_indexOf_4cfef, 4, (some .int), 11, 4, true)
def md_J1_indexOfChar_4cfef : MD := (yJ1_indexOfChar_4cfef, cJ1_indexOfChar_4cfef, 6, (some .int), 11, 4, true)
def md_J3_checkIndex_8e157 : MD := (yJ3_checkIndex_8e157, cJ3_checkIndex_8e157, 3, (some .int), 13, 3, true)
def md_X0_become : MD := (yX0_become, cX0_become, 2, none, 0, 1, false)
def md_X0_angelsPart : MD := (yX0_angelsPart, cX0_angelsPart, 4, (some .int), 0, 2, false)
def md_X0_strengthIn : MD := (yX0_strengthIn, cX0_strengthIn, 2, (some .int), 0, 1, false)
def md_X0_sentBackIn : MD := (yX0_sentBackIn, cX0_sentBackIn, 2, (some .int), 0, 1, false)
def md_X0_goOn : MD := (yX0_goOn, cX0_goOn, 5, none, 0, 2, false)
def md_X0_isHalfTheirs : MD := (yX0_isHalfTheirs, cX0_isHalfTheirs, 1, (some .boolean), 0, 0, false)
def md_X0_worth : MD := (yX0_worth, cX0_worth, 1, (some .int), 0, 0, false)
def md_X1_isFull : MD := (yX1_isFull, cX1_isFull, 1, (some .boolean), 1, 0, false)
def md_X1_add : MD := (yX1_add, cX1_add, 2, (some .int), 1, 1, false)
def md_X1_forget : MD := (yX1_forget, cX1_forget, 1, none, 1, 0, false)
def md_X1_at : MD := (yX1_at, cX1_at, 2, (some .int), 1, 1, false)
def md_X1_kind : MD := (yX1_kind, cX1_kind, 3, (some .int), 1, 1, false)
def md_X1_number : MD := (yX1_number, cX1_number, 5, (some .int), 1, 2, false)
def md_X1_firstWrong : MD := (yX1_firstWrong, cX1_firstWrong, 4, (some .int), 1, 0, false)
def md_X1_fits : MD := (yX1_fits, cX1_fits, 4, (some .boolean), 1, 2, false)
def md_X1_shapeOf : MD := (yX1_shapeOf, cX1_shapeOf, 1, (some (.object "java/lang/String")), 1, 1, true)
def md_X2_at : MD := (yX2_at, cX2_at, 3, (some (.object "TheAngelsWantMore$Cask")), 2, 1, false)
def md_X2_become : MD := (yX2_become, cX2_become, 3, none, 2, 1, false)
def md_X2_caskFault : MD := (yX2_caskFault, cX2_caskFault, 2, (some .int), 2, 1, false)
def md_X2_addCask : MD := (yX2_addCask, cX2_addCask, 8, (some .int), 2, 5, false)
def md_X2_chosen : MD := (yX2_chosen, cX2_chosen, 2, (some .int), 2, 1, false)
def md_X2_choose : MD := (yX2_choose, cX2_choose, 4, (some .int), 2, 2, false)
def md_X2_pourFault : MD := (yX2_pourFault, cX2_pourFault, 6, (some .int), 2, 3, false)
def md_X2_pouredStrength : MD := (yX2_pouredStrength, cX2_pouredStrength, 6, (some .int), 2, 3, false)
def md_X2_pourOver : MD := (yX2_pourOver, cX2_pourOver, 5, (some .int), 2, 3, false)
def md_X2_blended : MD := (yX2_blended, cX2_blended, 4, (some .int), 2, 2, false)
def md_X2_rateBy : MD := (yX2_rateBy, cX2_rateBy, 2, (some .int), 2, 1, false)
def md_X2_goOn : MD := (yX2_goOn, cX2_goOn, 5, none, 2, 1, false)
def md_X2_liveOn : MD := (yX2_liveOn, cX2_liveOn, 3, (some .int), 2, 1, false)
def md_X2_allAmounts : MD := (yX2_allAmounts, cX2_allAmounts, 3, (some .int), 2, 0, false)
def md_X2_allTaken : MD := (yX2_allTaken, cX2_allTaken, 3, (some .int), 2, 0, false)
def md_X2_fullest : MD := (yX2_fullest, cX2_fullest, 3, (some .int), 2, 0, false)
def md_X2_dutyOf : MD := (yX2_dutyOf, cX2_dutyOf, 2, (some .int), 2, 1, false)
def md_X2_dutyOfAll : MD := (yX2_dutyOfAll, cX2_dutyOfAll, 3, (some .int), 2, 0, false)
def md_X3_letter : MD := (yX3_letter, cX3_letter, 3, (some .int), 3, 1, false)
def md_X3_town : MD := (yX3_town, cX3_town, 2, (some .int), 3, 0, false)
def md_X3_cask : MD := (yX3_cask, cX3_cask, 5, (some .int), 3, 2, false)
def md_X3_set : MD := (yX3_set, cX3_set, 5, (some .int), 3, 2, false)
def md_X3_fill : MD := (yX3_fill, cX3_fill, 6, (some .int), 3, 2, false)
def md_X3_takes : MD := (yX3_takes, cX3_takes, 5, (some .int), 3, 3, false)
def md_X3_pour : MD := (yX3_pour, cX3_pour, 5, (some .int), 3, 3, false)
def md_X3_years : MD := (yX3_years, cX3_years, 3, (some .int), 3, 1, false)
def md_X3_behind : MD := (yX3_behind, cX3_behind, 6, (some .int), 3, 3, false)
def md_X3_allBehind : MD := (yX3_allBehind, cX3_allBehind, 4, (some .int), 3, 2, false)
def md_X3_theirs : MD := (yX3_theirs, cX3_theirs, 9, (some .long), 3, 3, false)
def md_X3_excise : MD := (yX3_excise, cX3_excise, 3, (some .int), 3, 1, false)
def md_X3_exciseIn : MD := (yX3_exciseIn, cX3_exciseIn, 5, (some .int), 3, 1, false)
def md_X3_low : MD := (yX3_low, cX3_low, 5, (some .int), 3, 2, false)
def md_X3_turns : MD := (yX3_turns, cX3_turns, 3, (some .int), 3, 0, false)
def md_X3_hum : MD := (yX3_hum, cX3_hum, 4, (some .int), 3, 1, false)
def md_X3_pourFor : MD := (yX3_pourFor, cX3_pourFor, 6, (some .int), 3, 2, false)
def md_X3_blend : MD := (yX3_blend, cX3_blend, 8, (some .int), 3, 1, false)
def md_X3_spread : MD := (yX3_spread, cX3_spread, 5, (some .int), 3, 0, false)
def md_X3_layDown : MD := (yX3_layDown, cX3_layDown, 6, (some .int), 3, 1, false)
def md_X3_sell : MD := (yX3_sell, cX3_sell, 5, (some .int), 3, 1, false)
def md_X3_treaty : MD := (yX3_treaty, cX3_treaty, 5, (some .int), 3, 1, false)
def md_X3_bestSet : MD := (yX3_bestSet, cX3_bestSet, 7, (some .int), 3, 2, false)
def md_X3_iron : MD := (yX3_iron, cX3_iron, 6, (some .int), 3, 1, false)
def md_X3_row : MD := (yX3_row, cX3_row, 3, (some .int), 3, 1, false)
def md_X3_which : MD := (yX3_which, cX3_which, 4, (some .int), 3, 2, false)
def md_X3_judge : MD := (yX3_judge, cX3_judge, 4, (some .int), 3, 1, false)
def md_X3_chance : MD := (yX3_chance, cX3_chance, 10, (some .long), 3, 5, false)
def md_X3_lots : MD := (yX3_lots, cX3_lots, 8, (some .int), 3, 3, false)
def md_X3_image : MD := (yX3_image, cX3_image, 1, (some .int), 3, 0, false)
def md_X3_on : MD := (yX3_on, cX3_on, 1, (some .int), 3, 0, false)
def md_X3_count : MD := (yX3_count, cX3_count, 2, (some .int), 3, 1, false)
def md_X3_refuse : MD := (yX3_refuse, cX3_refuse, 3, (some .int), 3, 1, false)
def md_X3_refuseLong : MD := (yX3_refuseLong, cX3_refuseLong, 2, (some .long), 3, 1, false)
def md_X3_refused : MD := (yX3_refused, cX3_refused, 2, (some .int), 3, 1, false)
def md_X3_firstOf : MD := (yX3_firstOf, cX3_firstOf, 3, (some .int), 3, 3, true)
def md_X3_rangeFault : MD := (yX3_rangeFault, cX3_rangeFault, 3, (some .int), 3, 3, true)
def md_X3_whatFault : MD := (yX3_whatFault, cX3_whatFault, 2, (some .int), 3, 2, true)
def md_X3_yearsFault : MD := (yX3_yearsFault, cX3_yearsFault, 1, (some .int), 3, 1, true)
def md_X3_caskOrAllFault : MD := (yX3_caskOrAllFault, cX3_caskOrAllFault, 2, (some .int), 3, 1, false)
def md_X3_chanceFault : MD := (yX3_chanceFault, cX3_chanceFault, 3, (some .int), 3, 3, true)
def md_X3_leastChoice : MD := (yX3_leastChoice, cX3_leastChoice, 1, (some .int), 3, 1, true)
def md_X3_mostChoice : MD := (yX3_mostChoice, cX3_mostChoice, 1, (some .int), 3, 1, true)
def md_X3_readLetters : MD := (yX3_readLetters, cX3_readLetters, 5, (some .int), 3, 0, false)
def md_X3_statementFault : MD := (yX3_statementFault, cX3_statementFault, 3, (some .int), 3, 1, false)
def md_X3_caskComes : MD := (yX3_caskComes, cX3_caskComes, 2, (some .int), 3, 1, false)
def md_X3_pourComes : MD := (yX3_pourComes, cX3_pourComes, 2, (some .int), 3, 1, false)
def md_X3_thinkOn : MD := (yX3_thinkOn, cX3_thinkOn, 2, none, 3, 1, false)
def md_X3_keepsLess : MD := (yX3_keepsLess, cX3_keepsLess, 7, (some .boolean), 3, 2, false)
def md_X3_thinkTreaty : MD := (yX3_thinkTreaty, cX3_thinkTreaty, 4, none, 3, 3, false)
def md_X3_bothKeep : MD := (yX3_bothKeep, cX3_bothKeep, 6, (some .boolean), 3, 3, false)
def md_X3_firstNotSo : MD := (yX3_firstNotSo, cX3_firstNotSo, 3, (some .int), 3, 1, false)
def md_X3_kindsByRow : MD := (yX3_kindsByRow, cX3_kindsByRow, 4, (some .int), 3, 1, false)
def md_X3_ratesByRow : MD := (yX3_ratesByRow, cX3_ratesByRow, 4, (some .int), 3, 1, false)
def md_X3_amountByLents : MD := (yX3_amountByLents, cX3_amountByLents, 6, (some .int), 3, 3, false)
def md_X3_nextSeed : MD := (yX3_nextSeed, cX3_nextSeed, 1, (some .int), 3, 1, true)
def md_X3_drawn : MD := (yX3_drawn, cX3_drawn, 2, (some .int), 3, 2, true)
def md_X3_power : MD := (yX3_power, cX3_power, 6, (some .long), 3, 2, true)
def md_X3_partOf : MD := (yX3_partOf, cX3_partOf, 7, (some .long), 3, 3, true)
def md_X3_commonDivisor : MD := (yX3_commonDivisor, cX3_commonDivisor, 11, (some .long), 3, 2, true)
def md_X4_isIn : MD := (yX4_isIn, cX4_isIn, 3, (some .boolean), 4, 3, true)
def md_X4_least : MD := (yX4_least, cX4_least, 2, (some .int), 4, 2, true)
def md_X4_size : MD := (yX4_size, cX4_size, 1, (some .int), 4, 1, true)
def md_X4_lays : MD := (yX4_lays, cX4_lays, 3, none, 4, 2, true)
def md_X4_no : MD := (yX4_no, cX4_no, 2, (some .int), 4, 1, false)
def md_X4_noWide : MD := (yX4_noWide, cX4_noWide, 2, (some .long), 4, 1, false)
def md_X4_isCask : MD := (yX4_isCask, cX4_isCask, 2, (some .boolean), 4, 1, false)
def md_X4_at : MD := (yX4_at, cX4_at, 2, (some .int), 4, 2, true)
def md_X4_takesOf : MD := (yX4_takesOf, cX4_takesOf, 5, (some .int), 4, 4, true)
def md_X4_strengthOf : MD := (yX4_strengthOf, cX4_strengthOf, 4, (some .int), 4, 3, true)
def md_X4_backOf : MD := (yX4_backOf, cX4_backOf, 3, (some .int), 4, 2, true)
def md_X4_yearBy : MD := (yX4_yearBy, cX4_yearBy, 7, none, 4, 2, false)
def md_X4_year : MD := (yX4_year, cX4_year, 2, none, 4, 1, false)
def md_X4_yearsOn : MD := (yX4_yearsOn, cX4_yearsOn, 4, none, 4, 2, false)
def md_X4_inMind : MD := (yX4_inMind, cX4_inMind, 2, none, 4, 1, false)
def md_X4_sumOf : MD := (yX4_sumOf, cX4_sumOf, 4, (some .int), 4, 2, true)
def md_X4_letter : MD := (yX4_letter, cX4_letter, 2, (some .int), 4, 1, false)
def md_X4_here : MD := (yX4_here, cX4_here, 1, (some .int), 4, 0, false)
def md_X4_readsNumber : MD := (yX4_readsNumber, cX4_readsNumber, 4, (some .boolean), 4, 2, false)
def md_X4_kindOf : MD := (yX4_kindOf, cX4_kindOf, 1, (some .int), 4, 1, true)
def md_X4_readsKind : MD := (yX4_readsKind, cX4_readsKind, 1, (some .boolean), 4, 0, false)
def md_X4_readsStatement : MD := (yX4_readsStatement, cX4_readsStatement, 3, (some .boolean), 4, 0, false)
def md_X4_canPour : MD := (yX4_canPour, cX4_canPour, 4, (some .boolean), 4, 3, false)
def md_X4_mixed : MD := (yX4_mixed, cX4_mixed, 4, (some .int), 4, 3, false)
def md_X4_pours : MD := (yX4_pours, cX4_pours, 4, none, 4, 3, false)
def md_X4_isDone : MD := (yX4_isDone, cX4_isDone, 5, (some .boolean), 4, 1, false)
def md_X4_town : MD := (yX4_town, cX4_town, 6, (some .int), 4, 0, false)
def md_X4_cask : MD := (yX4_cask, cX4_cask, 3, (some .int), 4, 2, false)
def md_X4_set : MD := (yX4_set, cX4_set, 4, (some .int), 4, 2, false)
def md_X4_fill : MD := (yX4_fill, cX4_fill, 4, (some .int), 4, 2, false)
def md_X4_takes : MD := (yX4_takes, cX4_takes, 4, (some .int), 4, 3, false)
def md_X4_pour : MD := (yX4_pour, cX4_pour, 4, (some .int), 4, 3, false)
def md_X4_years : MD := (yX4_years, cX4_years, 2, (some .int), 4, 1, false)
def md_X4_wrongYears : MD := (yX4_wrongYears, cX4_wrongYears, 1, (some .int), 4, 1, true)
def md_X4_behind : MD := (yX4_behind, cX4_behind, 5, (some .int), 4, 3, false)
def md_X4_allBehind : MD := (yX4_allBehind, cX4_allBehind, 6, (some .int), 4, 2, false)
def md_X4_gcd : MD := (yX4_gcd, cX4_gcd, 10, (some .long), 4, 2, true)
def md_X4_partOf : MD := (yX4_partOf, cX4_partOf, 5, (some .long), 4, 3, true)
def md_X4_theirs : MD := (yX4_theirs, cX4_theirs, 7, (some .long), 4, 3, false)
def md_X4_exciseOf : MD := (yX4_exciseOf, cX4_exciseOf, 2, (some .int), 4, 2, true)
def md_X4_exciseAll : MD := (yX4_exciseAll, cX4_exciseAll, 3, (some .int), 4, 1, true)
def md_X4_excise : MD := (yX4_excise, cX4_excise, 2, (some .int), 4, 1, false)
def md_X4_exciseIn : MD := (yX4_exciseIn, cX4_exciseIn, 5, (some .int), 4, 1, false)
def md_X4_low : MD := (yX4_low, cX4_low, 4, (some .int), 4, 2, false)
def md_X4_turns : MD := (yX4_turns, cX4_turns, 2, (some .int), 4, 0, false)
def md_X4_hum : MD := (yX4_hum, cX4_hum, 3, (some .int), 4, 1, false)
def md_X4_pourFor : MD := (yX4_pourFor, cX4_pourFor, 5, (some .int), 4, 2, false)
def md_X4_blend : MD := (yX4_blend, cX4_blend, 8, (some .int), 4, 1, false)
def md_X4_spread : MD := (yX4_spread, cX4_spread, 5, (some .int), 4, 0, false)
def md_X4_worthOf : MD := (yX4_worthOf, cX4_worthOf, 2, (some .int), 4, 2, true)
def md_X4_layDown : MD := (yX4_layDown, cX4_layDown, 5, (some .int), 4, 1, false)
def md_X4_sell : MD := (yX4_sell, cX4_sell, 6, (some .int), 4, 1, false)
def md_X4_byTreaty : MD := (yX4_byTreaty, cX4_byTreaty, 5, (some .int), 4, 4, false)
def md_X4_treaty : MD := (yX4_treaty, cX4_treaty, 7, (some .int), 4, 1, false)
def md_X4_bestSet : MD := (yX4_bestSet, cX4_bestSet, 14, (some .int), 4, 2, false)
def md_X4_iron : MD := (yX4_iron, cX4_iron, 7, (some .int), 4, 1, false)
def md_X4_row : MD := (yX4_row, cX4_row, 2, (some .int), 4, 1, false)
def md_X4_firstWrong : MD := (yX4_firstWrong, cX4_firstWrong, 4, (some .int), 4, 2, false)
def md_X4_which : MD := (yX4_which, cX4_which, 5, (some .int), 4, 2, false)
def md_X4_judge : MD := (yX4_judge, cX4_judge, 3, (some .int), 4, 1, false)
def md_X4_chance : MD := (yX4_chance, cX4_chance, 15, (some .long), 4, 5, false)
def md_X4_drawn : MD := (yX4_drawn, cX4_drawn, 2, (some .int), 4, 1, false)
def md_X4_lots : MD := (yX4_lots, cX4_lots, 6, (some .int), 4, 3, false)
def md_X4_image : MD := (yX4_image, cX4_image, 1, (some .int), 4, 0, false)
def md_X4_on : MD := (yX4_on, cX4_on, 1, (some .int), 4, 0, false)
def md_X4_count : MD := (yX4_count, cX4_count, 2, (some .int), 4, 1, false)
def mTL_0 : List MD := [md_J9_abs_0f7a4, md_J9_max_7cf53, md_J9_min_7cf53, md_J6_bitCount_0f7a4, md_J0_length_8abf5, md_J0_charAt_5068e, md_J0_indexOf_0f7a4, md_J0_indexOf_7cf53, md_J0_coder_7d493, md_J0_isLatin1_aae02, md_J0_checkIndex_df160, md_J1_charAt_3b067, md_J1_canEncode_9a6ad, md_J1_indexOf_4cfef, md_J1_indexOfChar_4cfef, md_J3_checkIndex_8e157, md_X0_become, md_X0_angelsPart, md_X0_strengthIn, md_X0_sentBackIn, md_X0_goOn, md_X0_isHalfTheirs]
def mTL_1 : List MD := [md_X0_worth, md_X1_isFull, md_X1_add, md_X1_forget, md_X1_at, md_X1_kind, md_X1_number, md_X1_firstWrong, md_X1_fits, md_X1_shapeOf, md_X2_at, md_X2_become, md_X2_caskFault, md_X2_addCask, md_X2_chosen, md_X2_choose, md_X2_pourFault, md_X2_pouredStrength, md_X2_pourOver, md_X2_blended, md_X2_rateBy, md_X2_goOn]
def mTL_2 : List MD := [md_X2_liveOn, md_X2_allAmounts, md_X2_allTaken, md_X2_fullest, md_X2_dutyOf, md_X2_dutyOfAll, md_X3_letter, md_X3_town, md_X3_cask, md_X3_set, md_X3_fill, md_X3_takes, md_X3_pour, md_X3_years, md_X3_behind, md_X3_allBehind, md_X3_theirs, md_X3_excise, md_X3_exciseIn, md_X3_low, md_X3_turns, md_X3_hum]
def mTL_3 : List MD := [md_X3_pourFor, md_X3_blend, md_X3_spread, md_X3_layDown, md_X3_sell, md_X3_treaty, md_X3_bestSet, md_X3_iron, md_X3_row, md_X3_which, md_X3_judge, md_X3_chance, md_X3_lots, md_X3_image, md_X3_on, md_X3_count, md_X3_refuse, md_X3_refuseLong, md_X3_refused, md_X3_firstOf, md_X3_rangeFault, md_X3_whatFault]
def mTL_4 : List MD := [md_X3_yearsFault, md_X3_caskOrAllFault, md_X3_chanceFault, md_X3_leastChoice, md_X3_mostChoice, md_X3_readLetters, md_X3_statementFault, md_X3_caskComes, md_X3_pourComes, md_X3_thinkOn, md_X3_keepsLess, md_X3_thinkTreaty, md_X3_bothKeep, md_X3_firstNotSo, md_X3_kindsByRow, md_X3_ratesByRow, md_X3_amountByLents, md_X3_nextSeed, md_X3_drawn, md_X3_power, md_X3_partOf, md_X3_commonDivisor]
def mTL_5 : List MD := [md_X4_isIn, md_X4_least, md_X4_size, md_X4_lays, md_X4_no, md_X4_noWide, md_X4_isCask, md_X4_at, md_X4_takesOf, md_X4_strengthOf, md_X4_backOf, md_X4_yearBy, md_X4_year, md_X4_yearsOn, md_X4_inMind, md_X4_sumOf, md_X4_letter, md_X4_here, md_X4_readsNumber, md_X4_kindOf, md_X4_readsKind, md_X4_readsStatement]
def mTL_6 : List MD := [md_X4_canPour, md_X4_mixed, md_X4_pours, md_X4_isDone, md_X4_town, md_X4_cask, md_X4_set, md_X4_fill, md_X4_takes, md_X4_pour, md_X4_years, md_X4_wrongYears, md_X4_behind, md_X4_allBehind, md_X4_gcd, md_X4_partOf, md_X4_theirs, md_X4_exciseOf, md_X4_exciseAll, md_X4_excise, md_X4_exciseIn, md_X4_low]
def mTL_7 : List MD := [md_X4_turns, md_X4_hum, md_X4_pourFor, md_X4_blend, md_X4_spread, md_X4_worthOf, md_X4_layDown, md_X4_sell, md_X4_byTreaty, md_X4_treaty, md_X4_bestSet, md_X4_iron, md_X4_row, md_X4_firstWrong, md_X4_which, md_X4_judge, md_X4_chance, md_X4_drawn, md_X4_lots, md_X4_image, md_X4_on, md_X4_count]
def mTL : List MD := mTL_0 ++ (mTL_1 ++ (mTL_2 ++ (mTL_3 ++ (mTL_4 ++ (mTL_5 ++ (mTL_6 ++ (mTL_7)))))))
def cn : Nat → String
  | 0 => RX0
  | 1 => RX1
  | 2 => RX2
  | 3 => RX3
  | 4 => RX4
  | 5 => RL
  | 10 => RJ0
  | 11 => RJ1
  | 13 => RJ3
  | 16 => RJ6
  | 19 => RJ9
  | _ => ""
def TT : Nat → u_T
  | 0 => TX0
  | 1 => TX1
  | 2 => TX2
  | 3 => TX3
  | _ => TX4
def FdP (d : MD) : Prop := (Jvm.Cond.code d.y d.c d.ml d.rt ∈ lw_tbl ∧ Jvm.Cond.initialized d.y.cls ∈ lw_tbl) ∧ (d.y.cls = cn d.own ∧ (d.own = 19 ∨ plainName d.y.cls = true) ∧ (d.y.cls ≠ "java/lang/invoke/MethodHandle" ∧ d.y.cls ≠ "java/lang/invoke/VarHandle" ∧ (parseMethodDescriptor d.y.desc).map (fun x => x.parameters.length) = some d.na)) ∧ ((d.st = true ∧ Jvm.Cond.static d.y ∈ lw_tbl) ∨ (d.st = false ∧ Jvm.Cond.instanceMethod d.y ∈ lw_tbl ∧ Jvm.Cond.selects d.y.cls d.y d.y ∈ lw_tbl)) ∧ d.ml ≤ 15
set_option maxRecDepth 100000 in
theorem fd_J9_abs_0f7a4 : FdP md_J9_abs_0f7a4 := ⟨⟨(tm3 49 rfl), (tm1 10 rfl)⟩, ⟨rfl, Or.inl rfl, by decide +kernel, by decide +kernel, by decide +kernel⟩, Or.inl ⟨rfl, (tm3 48 rfl)⟩, by decide⟩
set_option maxRecDepth 100000 in
theorem fd_J9_max_7cf53 : FdP md_J9_max_7cf53 := ⟨⟨(tm2 11 rfl), (tm1 10 rfl)⟩, ⟨rfl, Or.inl rfl, by decide +kernel, by decide +kernel, by decide +kernel⟩, Or.inl ⟨rfl, (tm2 10 rfl)⟩, by decide⟩
set_option maxRecDepth 100000 in
theorem fd_J9_min_7cf53 : FdP md_J9_min_7cf53 := ⟨⟨(tm2 14 rfl), (tm1 10 rfl)⟩, ⟨rfl, Or.inl rfl, by decide +kernel, by decide +kernel, by decide +kernel⟩, Or.inl ⟨rfl, (tm2 13 rfl)⟩, by decide⟩
set_option maxRecDepth 100000 in
theorem fd_J6_bitCount_0f7a4 : FdP md_J6_bitCount_0f7a4 := ⟨⟨(tm3 131 rfl), (tm1 12 rfl)⟩, ⟨rfl, Or.inr (by decide +kernel), by decide +kernel, by decide +kernel, by decide +kernel⟩, Or.inl ⟨rfl, (tm3 130 rfl)⟩, by decide⟩
set_option maxRecDepth 100000 in
theorem fd_J0_length_8abf5 : FdP md_J0_length_8abf5 := ⟨⟨(tm1 167 rfl), (tm1 6 rfl)⟩, ⟨rfl, Or.inr (by decide +kernel), by decide +kernel, by decide +kernel, by decide +kernel⟩, Or.inr ⟨rfl, (tm1 165 rfl), (tm1 166 rfl)⟩, by decide⟩
set_option maxRecDepth 100000 in
theorem fd_J0_charAt_5068e : FdP md_J0_charAt_5068e := ⟨⟨(tm1 190 rfl), (tm1 6 rfl)⟩, ⟨rfl, Or.inr (by decide +kernel), by decide +kernel, by decide +kernel, by decide +kernel⟩, Or.inr ⟨rfl, (tm1 188 rfl), (tm1 189 rfl)⟩, by decide⟩
set_option maxRecDepth 100000 in
theorem fd_J0_indexOf_0f7a4 : FdP md_J0_indexOf_0f7a4 := ⟨⟨(tm1 237 rfl), (tm1 6 rfl)⟩, ⟨rfl, Or.inr (by decide +kernel), by decide +kernel, by decide +kernel, by decide +kernel⟩, Or.inr ⟨rfl, (tm1 235 rfl), (tm1 236 rfl)⟩, by decide⟩
set_option maxRecDepth 100000 in
theorem fd_J0_indexOf_7cf53 : FdP md_J0_indexOf_7cf53 := ⟨⟨(tm2 1 rfl), (tm1 6 rfl)⟩, ⟨rfl, Or.inr (by decide +kernel), by decide +kernel, by decide +kernel, by decide +kernel⟩, Or.inr ⟨rfl, (tm1 239 rfl), (tm2 0 rfl)⟩, by decide⟩
set_option maxRecDepth 100000 in
theorem fd_J0_coder_7d493 : FdP md_J0_coder_7d493 := ⟨⟨(tm1 171 rfl), (tm1 6 rfl)⟩, ⟨rfl, Or.inr (by decide +kernel), by decide +kernel, by decide +kernel, by decide +kernel⟩, Or.inr ⟨rfl, (tm1 169 rfl), (tm1 170 rfl)⟩, by decide⟩
set_option maxRecDepth 100000 in
theorem fd_J0_isLatin1_aae02 : FdP md_J0_isLatin1_aae02 := ⟨⟨(tm1 194 rfl), (tm1 6 rfl)⟩, ⟨rfl, Or.inr (by decide +kernel), by decide +kernel, by decide +kernel, by decide +kernel⟩, Or.inr ⟨rfl, (tm1 192 rfl), (tm1 193 rfl)⟩, by decide⟩
set_option maxRecDepth 100000 in
theorem fd_J0_checkIndex_df160 : FdP md_J0_checkIndex_df160 := ⟨⟨(tm1 200 rfl), (tm1 6 rfl)⟩, ⟨rfl, Or.inr (by decide +kernel), by decide +kernel, by decide +kernel, by decide +kernel⟩, Or.inl ⟨rfl, (tm1 199 rfl)⟩, by decide⟩
set_option maxRecDepth 100000 in
theorem fd_J1_charAt_3b067 : FdP md_J1_charAt_3b067 := ⟨⟨(tm1 197 rfl), (tm1 7 rfl)⟩, ⟨rfl, Or.inr (by decide +kernel), by decide +kernel, by decide +kernel, by decide +kernel⟩, Or.inl ⟨rfl, (tm1 196 rfl)⟩, by decide⟩
set_option maxRecDepth 100000 in
theorem fd_J1_canEncode_9a6ad : FdP md_J1_canEncode_9a6ad := ⟨⟨(tm2 8 rfl), (tm1 7 rfl)⟩, ⟨rfl, Or.inr (by decide +kernel), by decide +kernel, by decide +kernel, by decide +kernel⟩, Or.inl ⟨rfl, (tm2 7 rfl)⟩, by decide⟩
set_option maxRecDepth 100000 in
theorem fd_J1_indexOf_4cfef : FdP md_J1_indexOf_4cfef := ⟨⟨(tm2 5 rfl), (tm1 7 rfl)⟩, ⟨rfl, Or.inr (by decide +kernel), by decide +kernel, by decide +kernel, by decide +kernel⟩, Or.inl ⟨rfl, (tm2 4 rfl)⟩, by decide⟩
set_option maxRecDepth 100000 in
theorem fd_J1_indexOfChar_4cfef : FdP md_J1_indexOfChar_4cfef := ⟨⟨(tm2 17 rfl), (tm1 7 rfl)⟩, ⟨rfl, Or.inr (by decide +kernel), by decide +kernel, by decide +kernel, by decide +kernel⟩, Or.inl ⟨rfl, (tm2 16 rfl)⟩, by decide⟩
set_option maxRecDepth 100000 in
theorem fd_J3_checkIndex_8e157 : FdP md_J3_checkIndex_8e157 := ⟨⟨(tm1 205 rfl), (tm1 8 rfl)⟩, ⟨rfl, Or.inr (by decide +kernel), by decide +kernel, by decide +kernel, by decide +kernel⟩, Or.inl ⟨rfl, (tm1 204 rfl)⟩, by decide⟩
set_option maxRecDepth 100000 in
theorem fd_X0_become : FdP md_X0_become := ⟨⟨(tm2 64 rfl), (tm1 3 rfl)⟩, ⟨rfl, Or.inr (by decide +kernel), by decide +kernel, by decide +kernel, by decide +kernel⟩, Or.inr ⟨rfl, (tm2 62 rfl), (tm2 63 rfl)⟩, by decide⟩
set_option maxRecDepth 100000 in
theorem fd_X0_angelsPart : FdP md_X0_angelsPart := ⟨⟨(tm2 140 rfl), (tm1 3 rfl)⟩, ⟨rfl, Or.inr (by decide +kernel), by decide +kernel, by decide +kernel, by decide +kernel⟩, Or.inr ⟨rfl, (tm2 138 rfl), (tm2 139 rfl)⟩, by decide⟩
set_option maxRecDepth 100000 in
theorem fd_X0_strengthIn : FdP md_X0_strengthIn := ⟨⟨(tm2 145 rfl), (tm1 3 rfl)⟩, ⟨rfl, Or.inr (by decide +kernel), by decide +kernel, by decide +kernel, by decide +kernel⟩, Or.inr ⟨rfl, (tm2 143 rfl), (tm2 144 rfl)⟩, by decide⟩
set_option maxRecDepth 100000 in
theorem fd_X0_sentBackIn : FdP md_X0_sentBackIn := ⟨⟨(tm2 150 rfl), (tm1 3 rfl)⟩, ⟨rfl, Or.inr (by decide +kernel), by decide +kernel, by decide +kernel, by decide +kernel⟩, Or.inr ⟨rfl, (tm2 148 rfl), (tm2 149 rfl)⟩, by decide⟩
set_option maxRecDepth 100000 in
theorem fd_X0_goOn : FdP md_X0_goOn := ⟨⟨(tm2 136 rfl), (tm1 3 rfl)⟩, ⟨rfl, Or.inr (by decide +kernel), by decide +kernel, by decide +kernel, by decide +kernel⟩, Or.inr ⟨rfl, (tm2 134 rfl), (tm2 135 rfl)⟩, by decide⟩
set_option maxRecDepth 100000 in
theorem fd_X0_isHalfTheirs : FdP md_X0_isHalfTheirs := ⟨⟨(tm3 28 rfl), (tm1 3 rfl)⟩, ⟨rfl, Or.inr (by decide +kernel), by decide +kernel, by decide +kernel, by decide +kernel⟩, Or.inr ⟨rfl, (tm3 26 rfl), (tm3 27 rfl)⟩, by decide⟩
set_option maxRecDepth 100000 in
theorem fd_X0_worth : FdP md_X0_worth := ⟨⟨(tm3 46 rfl), (tm1 3 rfl)⟩, ⟨rfl, Or.inr (by decide +kernel), by decide +kernel, by decide +kernel, by decide +kernel⟩, Or.inr ⟨rfl, (tm3 44 rfl), (tm3 45 rfl)⟩, by decide⟩
set_option maxRecDepth 100000 in
theorem fd_X1_isFull : FdP md_X1_isFull := ⟨⟨(tm1 142 rfl), (tm1 4 rfl)⟩, ⟨rfl, Or.inr (by decide +kernel), by decide +kernel, by decide +kernel, by decide +kernel⟩, Or.inr ⟨rfl, (tm1 140 rfl), (tm1 141 rfl)⟩, by decide⟩
set_option maxRecDepth 100000 in
theorem fd_X1_add : FdP md_X1_add := ⟨⟨(tm1 146 rfl), (tm1 4 rfl)⟩, ⟨rfl, Or.inr (by decide +kernel), by decide +kernel, by decide +kernel, by decide +kernel⟩, Or.inr ⟨rfl, (tm1 144 rfl), (tm1 145 rfl)⟩, by decide⟩
set_option maxRecDepth 100000 in
theorem fd_X1_forget : FdP md_X1_forget := ⟨⟨(tm2 154 rfl), (tm1 4 rfl)⟩, ⟨rfl, Or.inr (by decide +kernel), by decide +kernel, by decide +kernel, by decide +kernel⟩, Or.inr ⟨rfl, (tm2 152 rfl), (tm2 153 rfl)⟩, by decide⟩
set_option maxRecDepth 100000 in
theorem fd_X1_at : FdP md_X1_at := ⟨⟨(tm1 177 rfl), (tm1 4 rfl)⟩, ⟨rfl, Or.inr (by decide +kernel), by decide +kernel, by decide +kernel, by decide +kernel⟩, Or.inr ⟨rfl, (tm1 175 rfl), (tm1 176 rfl)⟩, by decide⟩
set_option maxRecDepth 100000 in
theorem fd_X1_kind : FdP md_X1_kind := ⟨⟨(tm1 232 rfl), (tm1 4 rfl)⟩, ⟨rfl, Or.inr (by decide +kernel), by decide +kernel, by decide +kernel, by decide +kernel⟩, Or.inr ⟨rfl, (tm1 230 rfl), (tm1 231 rfl)⟩, by decide⟩
set_option maxRecDepth 100000 in
theorem fd_X1_number : FdP md_X1_number := ⟨⟨(tm2 78 rfl), (tm1 4 rfl)⟩, ⟨rfl, Or.inr (by decide +kernel), by decide +kernel, by decide +kernel, by decide +kernel⟩, Or.inr ⟨rfl, (tm2 76 rfl), (tm2 77 rfl)⟩, by decide⟩
set_option maxRecDepth 100000 in
theorem fd_X1_firstWrong : FdP md_X1_firstWrong := ⟨⟨(tm1 162 rfl), (tm1 4 rfl)⟩, ⟨rfl, Or.inr (by decide +kernel), by decide +kernel, by decide +kernel, by decide +kernel⟩, Or.inr ⟨rfl, (tm1 160 rfl), (tm1 161 rfl)⟩, by decide⟩
set_option maxRecDepth 100000 in
theorem fd_X1_fits : FdP md_X1_fits := ⟨⟨(tm1 228 rfl), (tm1 4 rfl)⟩, ⟨rfl, Or.inr (by decide +kernel), by decide +kernel, by decide +kernel, by decide +kernel⟩, Or.inr ⟨rfl, (tm1 227 rfl), (ps1 2 (q := (_, _)) rfl)⟩, by decide⟩
set_option maxRecDepth 100000 in
theorem fd_X1_shapeOf : FdP md_X1_shapeOf := ⟨⟨(tm1 180 rfl), (tm1 4 rfl)⟩, ⟨rfl, Or.inr (by decide +kernel), by decide +kernel, by decide +kernel, by decide +kernel⟩, Or.inl ⟨rfl, (tm1 179 rfl)⟩, by decide⟩
set_option maxRecDepth 100000 in
theorem fd_X2_at : FdP md_X2_at := ⟨⟨(tm2 60 rfl), (tm1 2 rfl)⟩, ⟨rfl, Or.inr (by decide +kernel), by decide +kernel, by decide +kernel, by decide +kernel⟩, Or.inr ⟨rfl, (tm2 58 rfl), (tm2 59 rfl)⟩, by decide⟩
set_option maxRecDepth 100000 in
theorem fd_X2_become : FdP md_X2_become := ⟨⟨(tm2 56 rfl), (tm1 2 rfl)⟩, ⟨rfl, Or.inr (by decide +kernel), by decide +kernel, by decide +kernel, by decide +kernel⟩, Or.inr ⟨rfl, (tm2 54 rfl), (tm2 55 rfl)⟩, by decide⟩
set_option maxRecDepth 100000 in
theorem fd_X2_caskFault : FdP md_X2_caskFault := ⟨⟨(tm2 115 rfl), (tm1 2 rfl)⟩, ⟨rfl, Or.inr (by decide +kernel), by decide +kernel, by decide +kernel, by decide +kernel⟩, Or.inr ⟨rfl, (tm2 113 rfl), (tm2 114 rfl)⟩, by decide⟩
set_option maxRecDepth 100000 in
theorem fd_X2_addCask : FdP md_X2_addCask := ⟨⟨(tm2 82 rfl), (tm1 2 rfl)⟩, ⟨rfl, Or.inr (by decide +kernel), by decide +kernel, by decide +kernel, by decide +kernel⟩, Or.inr ⟨rfl, (tm2 80 rfl), (tm2 81 rfl)⟩, by decide⟩
set_option maxRecDepth 100000 in
theorem fd_X2_chosen : FdP md_X2_chosen := ⟨⟨(tm2 171 rfl), (tm1 2 rfl)⟩, ⟨rfl, Or.inr (by decide +kernel), by decide +kernel, by decide +kernel, by decide +kernel⟩, Or.inr ⟨rfl, (tm2 169 rfl), (tm2 170 rfl)⟩, by decide⟩
set_option maxRecDepth 100000 in
theorem fd_X2_choose : FdP md_X2_choose := ⟨⟨(tm2 90 rfl), (tm1 2 rfl)⟩, ⟨rfl, Or.inr (by decide +kernel), by decide +kernel, by decide +kernel, by decide +kernel⟩, Or.inr ⟨rfl, (tm2 88 rfl), (tm2 89 rfl)⟩, by decide⟩
set_option maxRecDepth 100000 in
theorem fd_X2_pourFault : FdP md_X2_pourFault := ⟨⟨(tm2 111 rfl), (tm1 2 rfl)⟩, ⟨rfl, Or.inr (by decide +kernel), by decide +kernel, by decide +kernel, by decide +kernel⟩, Or.inr ⟨rfl, (tm2 109 rfl), (tm2 110 rfl)⟩, by decide⟩
set_option maxRecDepth 100000 in
theorem fd_X2_pouredStrength : FdP md_X2_pouredStrength := ⟨⟨(tm2 119 rfl), (tm1 2 rfl)⟩, ⟨rfl, Or.inr (by decide +kernel), by decide +kernel, by decide +kernel, by decide +kernel⟩, Or.inr ⟨rfl, (tm2 117 rfl), (tm2 118 rfl)⟩, by decide⟩
set_option maxRecDepth 100000 in
theorem fd_X2_pourOver : FdP md_X2_pourOver := ⟨⟨(tm2 107 rfl), (tm1 2 rfl)⟩, ⟨rfl, Or.inr (by decide +kernel), by decide +kernel, by decide +kernel, by decide +kernel⟩, Or.inr ⟨rfl, (tm2 105 rfl), (tm2 106 rfl)⟩, by decide⟩
set_option maxRecDepth 100000 in
theorem fd_X2_blended : FdP md_X2_blended := ⟨⟨(tm3 42 rfl), (tm1 2 rfl)⟩, ⟨rfl, Or.inr (by decide +kernel), by decide +kernel, by decide +kernel, by decide +kernel⟩, Or.inr ⟨rfl, (tm3 40 rfl), (tm3 41 rfl)⟩, by decide⟩
set_option maxRecDepth 100000 in
theorem fd_X2_rateBy : FdP md_X2_rateBy := ⟨⟨(tm2 131 rfl), (tm1 2 rfl)⟩, ⟨rfl, Or.inr (by decide +kernel), by decide +kernel, by decide +kernel, by decide +kernel⟩, Or.inr ⟨rfl, (tm2 129 rfl), (tm2 130 rfl)⟩, by decide⟩
set_option maxRecDepth 100000 in
theorem fd_X2_goOn : FdP md_X2_goOn := ⟨⟨(tm2 127 rfl), (tm1 2 rfl)⟩, ⟨rfl, Or.inr (by decide +kernel), by decide +kernel, by decide +kernel, by decide +kernel⟩, Or.inr ⟨rfl, (tm2 125 rfl), (tm2 126 rfl)⟩, by decide⟩
set_option maxRecDepth 100000 in
theorem fd_X2_liveOn : FdP md_X2_liveOn := ⟨⟨(tm2 123 rfl), (tm1 2 rfl)⟩, ⟨rfl, Or.inr (by decide +kernel), by decide +kernel, by decide +kernel, by decide +kernel⟩, Or.inr ⟨rfl, (tm2 121 rfl), (tm2 122 rfl)⟩, by decide⟩
set_option maxRecDepth 100000 in
theorem fd_X2_allAmounts : FdP md_X2_allAmounts := ⟨⟨(tm2 208 rfl), (tm1 2 rfl)⟩, ⟨rfl, Or.inr (by decide +kernel), by decide +kernel, by decide +kernel, by decide +kernel⟩, Or.inr ⟨rfl, (tm2 206 rfl), (tm2 207 rfl)⟩, by decide⟩
set_option maxRecDepth 100000 in
theorem fd_X2_allTaken : FdP md_X2_allTaken := ⟨⟨(tm2 212 rfl), (tm1 2 rfl)⟩, ⟨rfl, Or.inr (by decide +kernel), by decide +kernel, by decide +kernel, by decide +kernel⟩, Or.inr ⟨rfl, (tm2 210 rfl), (tm2 211 rfl)⟩, by decide⟩
set_option maxRecDepth 100000 in
theorem fd_X2_fullest : FdP md_X2_fullest := ⟨⟨(tm2 216 rfl), (tm1 2 rfl)⟩, ⟨rfl, Or.inr (by decide +kernel), by decide +kernel, by decide +kernel, by decide +kernel⟩, Or.inr ⟨rfl, (tm2 214 rfl), (tm2 215 rfl)⟩, by decide⟩
set_option maxRecDepth 100000 in
theorem fd_X2_dutyOf : FdP md_X2_dutyOf := ⟨⟨(tm3 7 rfl), (tm1 2 rfl)⟩, ⟨rfl, Or.inr (by decide +kernel), by decide +kernel, by decide +kernel, by decide +kernel⟩, Or.inr ⟨rfl, (tm3 5 rfl), (tm3 6 rfl)⟩, by decide⟩
set_option maxRecDepth 100000 in
theorem fd_X2_dutyOfAll : FdP md_X2_dutyOfAll := ⟨⟨(tm3 3 rfl), (tm1 2 rfl)⟩, ⟨rfl, Or.inr (by decide +kernel), by decide +kernel, by decide +kernel, by decide +kernel⟩, Or.inr ⟨rfl, (tm3 1 rfl), (tm3 2 rfl)⟩, by decide⟩
set_option maxRecDepth 100000 in
theorem fd_X3_letter : FdP md_X3_letter := ⟨⟨(tm1 135 rfl), (tm1 1 rfl)⟩, ⟨rfl, Or.inr (by decide +kernel), by decide +kernel, by decide +kernel, by decide +kernel⟩, Or.inr ⟨rfl, (tm1 133 rfl), (tm1 134 rfl)⟩, by decide⟩
set_option maxRecDepth 100000 in
theorem fd_X3_town : FdP md_X3_town := ⟨⟨(tm1 154 rfl), (tm1 1 rfl)⟩, ⟨rfl, Or.inr (by decide +kernel), by decide +kernel, by decide +kernel, by decide +kernel⟩, Or.inr ⟨rfl, (tm1 152 rfl), (tm1 153 rfl)⟩, by decide⟩
set_option maxRecDepth 100000 in
theorem fd_X3_cask : FdP md_X3_cask := ⟨⟨(tm2 159 rfl), (tm1 1 rfl)⟩, ⟨rfl, Or.inr (by decide +kernel), by decide +kernel, by decide +kernel, by decide +kernel⟩, Or.inr ⟨rfl, (tm2 157 rfl), (tm2 158 rfl)⟩, by decide⟩
set_option maxRecDepth 100000 in
theorem fd_X3_set : FdP md_X3_set := ⟨⟨(tm2 167 rfl), (tm1 1 rfl)⟩, ⟨rfl, Or.inr (by decide +kernel), by decide +kernel, by decide +kernel, by decide +kernel⟩, Or.inr ⟨rfl, (tm2 165 rfl), (tm2 166 rfl)⟩, by decide⟩
set_option maxRecDepth 100000 in
theorem fd_X3_fill : FdP md_X3_fill := ⟨⟨(tm2 175 rfl), (tm1 1 rfl)⟩, ⟨rfl, Or.inr (by decide +kernel), by decide +kernel, by decide +kernel, by decide +kernel⟩, Or.inr ⟨rfl, (tm2 173 rfl), (tm2 174 rfl)⟩, by decide⟩
set_option maxRecDepth 100000 in
theorem fd_X3_takes : FdP md_X3_takes := ⟨⟨(tm2 179 rfl), (tm1 1 rfl)⟩, ⟨rfl, Or.inr (by decide +kernel), by decide +kernel, by decide +kernel, by decide +kernel⟩, Or.inr ⟨rfl, (tm2 177 rfl), (tm2 178 rfl)⟩, by decide⟩
set_option maxRecDepth 100000 in
theorem fd_X3_pour : FdP md_X3_pour := ⟨⟨(tm2 184 rfl), (tm1 1 rfl)⟩, ⟨rfl, Or.inr (by decide +kernel), by decide +kernel, by decide +kernel, by decide +kernel⟩, Or.inr ⟨rfl, (tm2 182 rfl), (tm2 183 rfl)⟩, by decide⟩
set_option maxRecDepth 100000 in
theorem fd_X3_years : FdP md_X3_years := ⟨⟨(tm2 188 rfl), (tm1 1 rfl)⟩, ⟨rfl, Or.inr (by decide +kernel), by decide +kernel, by decide +kernel, by decide +kernel⟩, Or.inr ⟨rfl, (tm2 186 rfl), (tm2 187 rfl)⟩, by decide⟩
set_option maxRecDepth 100000 in
theorem fd_X3_behind : FdP md_X3_behind := ⟨⟨(tm2 192 rfl), (tm1 1 rfl)⟩, ⟨rfl, Or.inr (by decide +kernel), by decide +kernel, by decide +kernel, by decide +kernel⟩, Or.inr ⟨rfl, (tm2 190 rfl), (tm2 191 rfl)⟩, by decide⟩
set_option maxRecDepth 100000 in
theorem fd_X3_allBehind : FdP md_X3_allBehind := ⟨⟨(tm2 204 rfl), (tm1 1 rfl)⟩, ⟨rfl, Or.inr (by decide +kernel), by decide +kernel, by decide +kernel, by decide +kernel⟩, Or.inr ⟨rfl, (tm2 202 rfl), (tm2 203 rfl)⟩, by decide⟩
set_option maxRecDepth 100000 in
theorem fd_X3_theirs : FdP md_X3_theirs := ⟨⟨(tm2 220 rfl), (tm1 1 rfl)⟩, ⟨rfl, Or.inr (by decide +kernel), by decide +kernel, by decide +kernel, by decide +kernel⟩, Or.inr ⟨rfl, (tm2 218 rfl), (tm2 219 rfl)⟩, by decide⟩
set_option maxRecDepth 100000 in
theorem fd_X3_excise : FdP md_X3_excise := ⟨⟨(tm2 239 rfl), (tm1 1 rfl)⟩, ⟨rfl, Or.inr (by decide +kernel), by decide +kernel, by decide +kernel, by decide +kernel⟩, Or.inr ⟨rfl, (tm2 237 rfl), (tm2 238 rfl)⟩, by decide⟩
set_option maxRecDepth 100000 in
theorem fd_X3_exciseIn : FdP md_X3_exciseIn := ⟨⟨(tm3 12 rfl), (tm1 1 rfl)⟩, ⟨rfl, Or.inr (by decide +kernel), by decide +kernel, by decide +kernel, by decide +kernel⟩, Or.inr ⟨rfl, (tm3 10 rfl), (tm3 11 rfl)⟩, by decide⟩
set_option maxRecDepth 100000 in
theorem fd_X3_low : FdP md_X3_low := ⟨⟨(tm3 16 rfl), (tm1 1 rfl)⟩, ⟨rfl, Or.inr (by decide +kernel), by decide +kernel, by decide +kernel, by decide +kernel⟩, Or.inr ⟨rfl, (tm3 14 rfl), (tm3 15 rfl)⟩, by decide⟩
set_option maxRecDepth 100000 in
theorem fd_X3_turns : FdP md_X3_turns := ⟨⟨(tm3 20 rfl), (tm1 1 rfl)⟩, ⟨rfl, Or.inr (by decide +kernel), by decide +kernel, by decide +kernel, by decide +kernel⟩, Or.inr ⟨rfl, (tm3 18 rfl), (tm3 19 rfl)⟩, by decide⟩
set_option maxRecDepth 100000 in
theorem fd_X3_hum : FdP md_X3_hum := ⟨⟨(tm3 24 rfl), (tm1 1 rfl)⟩, ⟨rfl, Or.inr (by decide +kernel), by decide +kernel, by decide +kernel, by decide +kernel⟩, Or.inr ⟨rfl, (tm3 22 rfl), (tm3 23 rfl)⟩, by decide⟩
set_option maxRecDepth 100000 in
theorem fd_X3_pourFor : FdP md_X3_pourFor := ⟨⟨(tm3 32 rfl), (tm1 1 rfl)⟩, ⟨rfl, Or.inr (by decide +kernel), by decide +kernel, by decide +kernel, by decide +kernel⟩, Or.inr ⟨rfl, (tm3 30 rfl), (tm3 31 rfl)⟩, by decide⟩
set_option maxRecDepth 100000 in
theorem fd_X3_blend : FdP md_X3_blend := ⟨⟨(tm3 38 rfl), (tm1 1 rfl)⟩, ⟨rfl, Or.inr (by decide +kernel), by decide +kernel, by decide +kernel, by decide +kernel⟩, Or.inr ⟨rfl, (tm3 36 rfl), (tm3 37 rfl)⟩, by decide⟩
set_option maxRecDepth 100000 in
theorem fd_X3_spread : FdP md_X3_spread := ⟨⟨(tm3 53 rfl), (tm1 1 rfl)⟩, ⟨rfl, Or.inr (by decide +kernel), by decide +kernel, by decide +kernel, by decide +kernel⟩, Or.inr ⟨rfl, (tm3 51 rfl), (tm3 52 rfl)⟩, by decide⟩
set_option maxRecDepth 100000 in
theorem fd_X3_layDown : FdP md_X3_layDown := ⟨⟨(tm3 59 rfl), (tm1 1 rfl)⟩, ⟨rfl, Or.inr (by decide +kernel), by decide +kernel, by decide +kernel, by decide +kernel⟩, Or.inr ⟨rfl, (tm3 57 rfl), (tm3 58 rfl)⟩, by decide⟩
set_option maxRecDepth 100000 in
theorem fd_X3_sell : FdP md_X3_sell := ⟨⟨(tm3 64 rfl), (tm1 1 rfl)⟩, ⟨rfl, Or.inr (by decide +kernel), by decide +kernel, by decide +kernel, by decide +kernel⟩, Or.inr ⟨rfl, (tm3 62 rfl), (tm3 63 rfl)⟩, by decide⟩
set_option maxRecDepth 100000 in
theorem fd_X3_treaty : FdP md_X3_treaty := ⟨⟨(tm3 72 rfl), (tm1 1 rfl)⟩, ⟨rfl, Or.inr (by decide +kernel), by decide +kernel, by decide +kernel, by decide +kernel⟩, Or.inr ⟨rfl, (tm3 70 rfl), (tm3 71 rfl)⟩, by decide⟩
set_option maxRecDepth 100000 in
theorem fd_X3_bestSet : FdP md_X3_bestSet := ⟨⟨(tm3 84 rfl), (tm1 1 rfl)⟩, ⟨rfl, Or.inr (by decide +kernel), by decide +kernel, by decide +kernel, by decide +kernel⟩, Or.inr ⟨rfl, (tm3 82 rfl), (tm3 83 rfl)⟩, by decide⟩
set_option maxRecDepth 100000 in
theorem fd_X3_iron : FdP md_X3_iron := ⟨⟨(tm3 90 rfl), (tm1 1 rfl)⟩, ⟨rfl, Or.inr (by decide +kernel), by decide +kernel, by decide +kernel, by decide +kernel⟩, Or.inr ⟨rfl, (tm3 88 rfl), (tm3 89 rfl)⟩, by decide⟩
set_option maxRecDepth 100000 in
theorem fd_X3_row : FdP md_X3_row := ⟨⟨(tm3 94 rfl), (tm1 1 rfl)⟩, ⟨rfl, Or.inr (by decide +kernel), by decide +kernel, by decide +kernel, by decide +kernel⟩, Or.inr ⟨rfl, (tm3 92 rfl), (tm3 93 rfl)⟩, by decide⟩
set_option maxRecDepth 100000 in
theorem fd_X3_which : FdP md_X3_which := ⟨⟨(tm3 98 rfl), (tm1 1 rfl)⟩, ⟨rfl, Or.inr (by decide +kernel), by decide +kernel, by decide +kernel, by decide +kernel⟩, Or.inr ⟨rfl, (tm3 96 rfl), (tm3 97 rfl)⟩, by decide⟩
set_option maxRecDepth 100000 in
theorem fd_X3_judge : FdP md_X3_judge := ⟨⟨(tm3 114 rfl), (tm1 1 rfl)⟩, ⟨rfl, Or.inr (by decide +kernel), by decide +kernel, by decide +kernel, by decide +kernel⟩, Or.inr ⟨rfl, (tm3 112 rfl), (tm3 113 rfl)⟩, by decide⟩
set_option maxRecDepth 100000 in
theorem fd_X3_chance : FdP md_X3_chance := ⟨⟨(tm3 118 rfl), (tm1 1 rfl)⟩, ⟨rfl, Or.inr (by decide +kernel), by decide +kernel, by decide +kernel, by decide +kernel⟩, Or.inr ⟨rfl, (tm3 116 rfl), (tm3 117 rfl)⟩, by decide⟩
set_option maxRecDepth 100000 in
theorem fd_X3_lots : FdP md_X3_lots := ⟨⟨(tm3 141 rfl), (tm1 1 rfl)⟩, ⟨rfl, Or.inr (by decide +kernel), by decide +kernel, by decide +kernel, by decide +kernel⟩, Or.inr ⟨rfl, (tm3 139 rfl), (tm3 140 rfl)⟩, by decide⟩
set_option maxRecDepth 100000 in
theorem fd_X3_image : FdP md_X3_image := ⟨⟨(tm3 154 rfl), (tm1 1 rfl)⟩, ⟨rfl, Or.inr (by decide +kernel), by decide +kernel, by decide +kernel, by decide +kernel⟩, Or.inr ⟨rfl, (tm3 152 rfl), (tm3 153 rfl)⟩, by decide⟩
set_option maxRecDepth 100000 in
theorem fd_X3_on : FdP md_X3_on := ⟨⟨(tm3 158 rfl), (tm1 1 rfl)⟩, ⟨rfl, Or.inr (by decide +kernel), by decide +kernel, by decide +kernel, by decide +kernel⟩, Or.inr ⟨rfl, (tm3 156 rfl), (tm3 157 rfl)⟩, by decide⟩
set_option maxRecDepth 100000 in
theorem fd_X3_count : FdP md_X3_count := ⟨⟨(tm3 162 rfl), (tm1 1 rfl)⟩, ⟨rfl, Or.inr (by decide +kernel), by decide +kernel, by decide +kernel, by decide +kernel⟩, Or.inr ⟨rfl, (tm3 160 rfl), (tm3 161 rfl)⟩, by decide⟩
set_option maxRecDepth 100000 in
theorem fd_X3_refuse : FdP md_X3_refuse := ⟨⟨(tm1 150 rfl), (tm1 1 rfl)⟩, ⟨rfl, Or.inr (by decide +kernel), by decide +kernel, by decide +kernel, by decide +kernel⟩, Or.inr ⟨rfl, (tm1 149 rfl), (ps1 0 (q := (_, _)) rfl)⟩, by decide⟩
set_option maxRecDepth 100000 in
theorem fd_X3_refuseLong : FdP md_X3_refuseLong := ⟨⟨(tm2 228 rfl), (tm1 1 rfl)⟩, ⟨rfl, Or.inr (by decide +kernel), by decide +kernel, by decide +kernel, by decide +kernel⟩, Or.inr ⟨rfl, (tm2 227 rfl), (ps1 8 (q := (_, _)) rfl)⟩, by decide⟩
set_option maxRecDepth 100000 in
theorem fd_X3_refused : FdP md_X3_refused := ⟨⟨(tm3 166 rfl), (tm1 1 rfl)⟩, ⟨rfl, Or.inr (by decide +kernel), by decide +kernel, by decide +kernel, by decide +kernel⟩, Or.inr ⟨rfl, (tm3 165 rfl), (ps2 0 (q := (_, _)) rfl)⟩, by decide⟩
set_option maxRecDepth 100000 in
theorem fd_X3_firstOf : FdP md_X3_firstOf := ⟨⟨(tm2 86 rfl), (tm1 1 rfl)⟩, ⟨rfl, Or.inr (by decide +kernel), by decide +kernel, by decide +kernel, by decide +kernel⟩, Or.inl ⟨rfl, (tm2 85 rfl)⟩, by decide⟩
set_option maxRecDepth 100000 in
theorem fd_X3_rangeFault : FdP md_X3_rangeFault := ⟨⟨(tm1 138 rfl), (tm1 1 rfl)⟩, ⟨rfl, Or.inr (by decide +kernel), by decide +kernel, by decide +kernel, by decide +kernel⟩, Or.inl ⟨rfl, (tm1 137 rfl)⟩, by decide⟩
set_option maxRecDepth 100000 in
theorem fd_X3_whatFault : FdP md_X3_whatFault := ⟨⟨(tm2 93 rfl), (tm1 1 rfl)⟩, ⟨rfl, Or.inr (by decide +kernel), by decide +kernel, by decide +kernel, by decide +kernel⟩, Or.inl ⟨rfl, (tm2 92 rfl)⟩, by decide⟩
set_option maxRecDepth 100000 in
theorem fd_X3_yearsFault : FdP md_X3_yearsFault := ⟨⟨(tm2 195 rfl), (tm1 1 rfl)⟩, ⟨rfl, Or.inr (by decide +kernel), by decide +kernel, by decide +kernel, by decide +kernel⟩, Or.inl ⟨rfl, (tm2 194 rfl)⟩, by decide⟩
set_option maxRecDepth 100000 in
theorem fd_X3_caskOrAllFault : FdP md_X3_caskOrAllFault := ⟨⟨(tm2 224 rfl), (tm1 1 rfl)⟩, ⟨rfl, Or.inr (by decide +kernel), by decide +kernel, by decide +kernel, by decide +kernel⟩, Or.inr ⟨rfl, (tm2 223 rfl), (ps1 7 (q := (_, _)) rfl)⟩, by decide⟩
set_option maxRecDepth 100000 in
theorem fd_X3_chanceFault : FdP md_X3_chanceFault := ⟨⟨(tm3 121 rfl), (tm1 1 rfl)⟩, ⟨rfl, Or.inr (by decide +kernel), by decide +kernel, by decide +kernel, by decide +kernel⟩, Or.inl ⟨rfl, (tm3 120 rfl)⟩, by decide⟩
set_option maxRecDepth 100000 in
theorem fd_X3_leastChoice : FdP md_X3_leastChoice := ⟨⟨(tm2 96 rfl), (tm1 1 rfl)⟩, ⟨rfl, Or.inr (by decide +kernel), by decide +kernel, by decide +kernel, by decide +kernel⟩, Or.inl ⟨rfl, (tm2 95 rfl)⟩, by decide⟩
set_option maxRecDepth 100000 in
theorem fd_X3_mostChoice : FdP md_X3_mostChoice := ⟨⟨(tm2 99 rfl), (tm1 1 rfl)⟩, ⟨rfl, Or.inr (by decide +kernel), by decide +kernel, by decide +kernel, by decide +kernel⟩, Or.inl ⟨rfl, (tm2 98 rfl)⟩, by decide⟩
set_option maxRecDepth 100000 in
theorem fd_X3_readLetters : FdP md_X3_readLetters := ⟨⟨(tm1 158 rfl), (tm1 1 rfl)⟩, ⟨rfl, Or.inr (by decide +kernel), by decide +kernel, by decide +kernel, by decide +kernel⟩, Or.inr ⟨rfl, (tm1 157 rfl), (ps1 1 (q := (_, _)) rfl)⟩, by decide⟩
set_option maxRecDepth 100000 in
theorem fd_X3_statementFault : FdP md_X3_statementFault := ⟨⟨(tm2 69 rfl), (tm1 1 rfl)⟩, ⟨rfl, Or.inr (by decide +kernel), by decide +kernel, by decide +kernel, by decide +kernel⟩, Or.inr ⟨rfl, (tm2 68 rfl), (ps1 3 (q := (_, _)) rfl)⟩, by decide⟩
set_option maxRecDepth 100000 in
theorem fd_X3_caskComes : FdP md_X3_caskComes := ⟨⟨(tm2 73 rfl), (tm1 1 rfl)⟩, ⟨rfl, Or.inr (by decide +kernel), by decide +kernel, by decide +kernel, by decide +kernel⟩, Or.inr ⟨rfl, (tm2 72 rfl), (ps1 4 (q := (_, _)) rfl)⟩, by decide⟩
set_option maxRecDepth 100000 in
theorem fd_X3_pourComes : FdP md_X3_pourComes := ⟨⟨(tm2 103 rfl), (tm1 1 rfl)⟩, ⟨rfl, Or.inr (by decide +kernel), by decide +kernel, by decide +kernel, by decide +kernel⟩, Or.inr ⟨rfl, (tm2 102 rfl), (ps1 5 (q := (_, _)) rfl)⟩, by decide⟩
set_option maxRecDepth 100000 in
theorem fd_X3_thinkOn : FdP md_X3_thinkOn := ⟨⟨(tm2 199 rfl), (tm1 1 rfl)⟩, ⟨rfl, Or.inr (by decide +kernel), by decide +kernel, by decide +kernel, by decide +kernel⟩, Or.inr ⟨rfl, (tm2 198 rfl), (ps1 6 (q := (_, _)) rfl)⟩, by decide⟩
set_option maxRecDepth 100000 in
theorem fd_X3_keepsLess : FdP md_X3_keepsLess := ⟨⟨(tm3 68 rfl), (tm1 1 rfl)⟩, ⟨rfl, Or.inr (by decide +kernel), by decide +kernel, by decide +kernel, by decide +kernel⟩, Or.inr ⟨rfl, (tm3 67 rfl), (ps1 9 (q := (_, _)) rfl)⟩, by decide⟩
set_option maxRecDepth 100000 in
theorem fd_X3_thinkTreaty : FdP md_X3_thinkTreaty := ⟨⟨(tm3 80 rfl), (tm1 1 rfl)⟩, ⟨rfl, Or.inr (by decide +kernel), by decide +kernel, by decide +kernel, by decide +kernel⟩, Or.inr ⟨rfl, (tm3 79 rfl), (ps1 11 (q := (_, _)) rfl)⟩, by decide⟩
set_option maxRecDepth 100000 in
theorem fd_X3_bothKeep : FdP md_X3_bothKeep := ⟨⟨(tm3 76 rfl), (tm1 1 rfl)⟩, ⟨rfl, Or.inr (by decide +kernel), by decide +kernel, by decide +kernel, by decide +kernel⟩, Or.inr ⟨rfl, (tm3 75 rfl), (ps1 10 (q := (_, _)) rfl)⟩, by decide⟩
set_option maxRecDepth 100000 in
theorem fd_X3_firstNotSo : FdP md_X3_firstNotSo := ⟨⟨(tm3 106 rfl), (tm1 1 rfl)⟩, ⟨rfl, Or.inr (by decide +kernel), by decide +kernel, by decide +kernel, by decide +kernel⟩, Or.inr ⟨rfl, (tm3 105 rfl), (ps1 13 (q := (_, _)) rfl)⟩, by decide⟩
set_option maxRecDepth 100000 in
theorem fd_X3_kindsByRow : FdP md_X3_kindsByRow := ⟨⟨(tm3 102 rfl), (tm1 1 rfl)⟩, ⟨rfl, Or.inr (by decide +kernel), by decide +kernel, by decide +kernel, by decide +kernel⟩, Or.inr ⟨rfl, (tm3 101 rfl), (ps1 12 (q := (_, _)) rfl)⟩, by decide⟩
set_option maxRecDepth 100000 in
theorem fd_X3_ratesByRow : FdP md_X3_ratesByRow := ⟨⟨(tm3 110 rfl), (tm1 1 rfl)⟩, ⟨rfl, Or.inr (by decide +kernel), by decide +kernel, by decide +kernel, by decide +kernel⟩, Or.inr ⟨rfl, (tm3 109 rfl), (ps1 14 (q := (_, _)) rfl)⟩, by decide⟩
set_option maxRecDepth 100000 in
theorem fd_X3_amountByLents : FdP md_X3_amountByLents := ⟨⟨(tm3 125 rfl), (tm1 1 rfl)⟩, ⟨rfl, Or.inr (by decide +kernel), by decide +kernel, by decide +kernel, by decide +kernel⟩, Or.inr ⟨rfl, (tm3 124 rfl), (ps1 15 (q := (_, _)) rfl)⟩, by decide⟩
set_option maxRecDepth 100000 in
theorem fd_X3_nextSeed : FdP md_X3_nextSeed := ⟨⟨(tm3 144 rfl), (tm1 1 rfl)⟩, ⟨rfl, Or.inr (by decide +kernel), by decide +kernel, by decide +kernel, by decide +kernel⟩, Or.inl ⟨rfl, (tm3 143 rfl)⟩, by decide⟩
set_option maxRecDepth 100000 in
theorem fd_X3_drawn : FdP md_X3_drawn := ⟨⟨(tm3 149 rfl), (tm1 1 rfl)⟩, ⟨rfl, Or.inr (by decide +kernel), by decide +kernel, by decide +kernel, by decide +kernel⟩, Or.inl ⟨rfl, (tm3 148 rfl)⟩, by decide⟩
set_option maxRecDepth 100000 in
theorem fd_X3_power : FdP md_X3_power := ⟨⟨(tm3 137 rfl), (tm1 1 rfl)⟩, ⟨rfl, Or.inr (by decide +kernel), by decide +kernel, by decide +kernel, by decide +kernel⟩, Or.inl ⟨rfl, (tm3 136 rfl)⟩, by decide⟩
set_option maxRecDepth 100000 in
theorem fd_X3_partOf : FdP md_X3_partOf := ⟨⟨(tm2 232 rfl), (tm1 1 rfl)⟩, ⟨rfl, Or.inr (by decide +kernel), by decide +kernel, by decide +kernel, by decide +kernel⟩, Or.inl ⟨rfl, (tm2 231 rfl)⟩, by decide⟩
set_option maxRecDepth 100000 in
theorem fd_X3_commonDivisor : FdP md_X3_commonDivisor := ⟨⟨(tm2 235 rfl), (tm1 1 rfl)⟩, ⟨rfl, Or.inr (by decide +kernel), by decide +kernel, by decide +kernel, by decide +kernel⟩, Or.inl ⟨rfl, (tm2 234 rfl)⟩, by decide⟩
set_option maxRecDepth 100000 in
theorem fd_X4_isIn : FdP md_X4_isIn := ⟨⟨(tm4 12 rfl), (tm1 5 rfl)⟩, ⟨rfl, Or.inr (by decide +kernel), by decide +kernel, by decide +kernel, by decide +kernel⟩, Or.inl ⟨rfl, (tm4 11 rfl)⟩, by decide⟩
set_option maxRecDepth 100000 in
theorem fd_X4_least : FdP md_X4_least := ⟨⟨(tm4 53 rfl), (tm1 5 rfl)⟩, ⟨rfl, Or.inr (by decide +kernel), by decide +kernel, by decide +kernel, by decide +kernel⟩, Or.inl ⟨rfl, (tm4 52 rfl)⟩, by decide⟩
set_option maxRecDepth 100000 in
theorem fd_X4_size : FdP md_X4_size := ⟨⟨(tm4 157 rfl), (tm1 5 rfl)⟩, ⟨rfl, Or.inr (by decide +kernel), by decide +kernel, by decide +kernel, by decide +kernel⟩, Or.inl ⟨rfl, (tm4 156 rfl)⟩, by decide⟩
set_option maxRecDepth 100000 in
theorem fd_X4_lays : FdP md_X4_lays := ⟨⟨(tm4 15 rfl), (tm1 5 rfl)⟩, ⟨rfl, Or.inr (by decide +kernel), by decide +kernel, by decide +kernel, by decide +kernel⟩, Or.inl ⟨rfl, (tm4 14 rfl)⟩, by decide⟩
set_option maxRecDepth 100000 in
theorem fd_X4_no : FdP md_X4_no := ⟨⟨(tm3 226 rfl), (tm1 5 rfl)⟩, ⟨rfl, Or.inr (by decide +kernel), by decide +kernel, by decide +kernel, by decide +kernel⟩, Or.inr ⟨rfl, (tm3 225 rfl), (ps2 1 (q := (_, _)) rfl)⟩, by decide⟩
set_option maxRecDepth 100000 in
theorem fd_X4_noWide : FdP md_X4_noWide := ⟨⟨(tm4 112 rfl), (tm1 5 rfl)⟩, ⟨rfl, Or.inr (by decide +kernel), by decide +kernel, by decide +kernel, by decide +kernel⟩, Or.inr ⟨rfl, (tm4 111 rfl), (ps2 15 (q := (_, _)) rfl)⟩, by decide⟩
set_option maxRecDepth 100000 in
theorem fd_X4_isCask : FdP md_X4_isCask := ⟨⟨(tm4 26 rfl), (tm1 5 rfl)⟩, ⟨rfl, Or.inr (by decide +kernel), by decide +kernel, by decide +kernel, by decide +kernel⟩, Or.inr ⟨rfl, (tm4 25 rfl), (ps2 7 (q := (_, _)) rfl)⟩, by decide⟩
set_option maxRecDepth 100000 in
theorem fd_X4_at : FdP md_X4_at := ⟨⟨(tm4 22 rfl), (tm1 5 rfl)⟩, ⟨rfl, Or.inr (by decide +kernel), by decide +kernel, by decide +kernel, by decide +kernel⟩, Or.inl ⟨rfl, (tm4 21 rfl)⟩, by decide⟩
set_option maxRecDepth 100000 in
theorem fd_X4_takesOf : FdP md_X4_takesOf := ⟨⟨(tm4 56 rfl), (tm1 5 rfl)⟩, ⟨rfl, Or.inr (by decide +kernel), by decide +kernel, by decide +kernel, by decide +kernel⟩, Or.inl ⟨rfl, (tm4 55 rfl)⟩, by decide⟩
set_option maxRecDepth 100000 in
theorem fd_X4_strengthOf : FdP md_X4_strengthOf := ⟨⟨(tm4 59 rfl), (tm1 5 rfl)⟩, ⟨rfl, Or.inr (by decide +kernel), by decide +kernel, by decide +kernel, by decide +kernel⟩, Or.inl ⟨rfl, (tm4 58 rfl)⟩, by decide⟩
set_option maxRecDepth 100000 in
theorem fd_X4_backOf : FdP md_X4_backOf := ⟨⟨(tm4 62 rfl), (tm1 5 rfl)⟩, ⟨rfl, Or.inr (by decide +kernel), by decide +kernel, by decide +kernel, by decide +kernel⟩, Or.inl ⟨rfl, (tm4 61 rfl)⟩, by decide⟩
set_option maxRecDepth 100000 in
theorem fd_X4_yearBy : FdP md_X4_yearBy := ⟨⟨(tm4 50 rfl), (tm1 5 rfl)⟩, ⟨rfl, Or.inr (by decide +kernel), by decide +kernel, by decide +kernel, by decide +kernel⟩, Or.inr ⟨rfl, (tm4 49 rfl), (ps2 13 (q := (_, _)) rfl)⟩, by decide⟩
set_option maxRecDepth 100000 in
theorem fd_X4_year : FdP md_X4_year := ⟨⟨(tm4 46 rfl), (tm1 5 rfl)⟩, ⟨rfl, Or.inr (by decide +kernel), by decide +kernel, by decide +kernel, by decide +kernel⟩, Or.inr ⟨rfl, (tm4 45 rfl), (ps2 12 (q := (_, _)) rfl)⟩, by decide⟩
set_option maxRecDepth 100000 in
theorem fd_X4_yearsOn : FdP md_X4_yearsOn := ⟨⟨(tm4 42 rfl), (tm1 5 rfl)⟩, ⟨rfl, Or.inr (by decide +kernel), by decide +kernel, by decide +kernel, by decide +kernel⟩, Or.inr ⟨rfl, (tm4 41 rfl), (ps2 11 (q := (_, _)) rfl)⟩, by decide⟩
set_option maxRecDepth 100000 in
theorem fd_X4_inMind : FdP md_X4_inMind := ⟨⟨(tm4 97 rfl), (tm1 5 rfl)⟩, ⟨rfl, Or.inr (by decide +kernel), by decide +kernel, by decide +kernel, by decide +kernel⟩, Or.inr ⟨rfl, (tm4 96 rfl), (ps2 14 (q := (_, _)) rfl)⟩, by decide⟩
set_option maxRecDepth 100000 in
theorem fd_X4_sumOf : FdP md_X4_sumOf := ⟨⟨(tm4 104 rfl), (tm1 5 rfl)⟩, ⟨rfl, Or.inr (by decide +kernel), by decide +kernel, by decide +kernel, by decide +kernel⟩, Or.inl ⟨rfl, (tm4 103 rfl)⟩, by decide⟩
set_option maxRecDepth 100000 in
theorem fd_X4_letter : FdP md_X4_letter := ⟨⟨(tm3 222 rfl), (tm1 5 rfl)⟩, ⟨rfl, Or.inr (by decide +kernel), by decide +kernel, by decide +kernel, by decide +kernel⟩, Or.inr ⟨rfl, (tm3 220 rfl), (tm3 221 rfl)⟩, by decide⟩
set_option maxRecDepth 100000 in
theorem fd_X4_here : FdP md_X4_here := ⟨⟨(tm3 238 rfl), (tm1 5 rfl)⟩, ⟨rfl, Or.inr (by decide +kernel), by decide +kernel, by decide +kernel, by decide +kernel⟩, Or.inr ⟨rfl, (tm3 237 rfl), (ps2 3 (q := (_, _)) rfl)⟩, by decide⟩
set_option maxRecDepth 100000 in
theorem fd_X4_readsNumber : FdP md_X4_readsNumber := ⟨⟨(tm4 9 rfl), (tm1 5 rfl)⟩, ⟨rfl, Or.inr (by decide +kernel), by decide +kernel, by decide +kernel, by decide +kernel⟩, Or.inr ⟨rfl, (tm4 8 rfl), (ps2 5 (q := (_, _)) rfl)⟩, by decide⟩
set_option maxRecDepth 100000 in
theorem fd_X4_kindOf : FdP md_X4_kindOf := ⟨⟨(tm4 5 rfl), (tm1 5 rfl)⟩, ⟨rfl, Or.inr (by decide +kernel), by decide +kernel, by decide +kernel, by decide +kernel⟩, Or.inl ⟨rfl, (tm4 4 rfl)⟩, by decide⟩
set_option maxRecDepth 100000 in
theorem fd_X4_readsKind : FdP md_X4_readsKind := ⟨⟨(tm4 2 rfl), (tm1 5 rfl)⟩, ⟨rfl, Or.inr (by decide +kernel), by decide +kernel, by decide +kernel, by decide +kernel⟩, Or.inr ⟨rfl, (tm4 1 rfl), (ps2 4 (q := (_, _)) rfl)⟩, by decide⟩
set_option maxRecDepth 100000 in
theorem fd_X4_readsStatement : FdP md_X4_readsStatement := ⟨⟨(tm3 234 rfl), (tm1 5 rfl)⟩, ⟨rfl, Or.inr (by decide +kernel), by decide +kernel, by decide +kernel, by decide +kernel⟩, Or.inr ⟨rfl, (tm3 233 rfl), (ps2 2 (q := (_, _)) rfl)⟩, by decide⟩
set_option maxRecDepth 100000 in
theorem fd_X4_canPour : FdP md_X4_canPour := ⟨⟨(tm4 30 rfl), (tm1 5 rfl)⟩, ⟨rfl, Or.inr (by decide +kernel), by decide +kernel, by decide +kernel, by decide +kernel⟩, Or.inr ⟨rfl, (tm4 29 rfl), (ps2 8 (q := (_, _)) rfl)⟩, by decide⟩
set_option maxRecDepth 100000 in
theorem fd_X4_mixed : FdP md_X4_mixed := ⟨⟨(tm4 38 rfl), (tm1 5 rfl)⟩, ⟨rfl, Or.inr (by decide +kernel), by decide +kernel, by decide +kernel, by decide +kernel⟩, Or.inr ⟨rfl, (tm4 37 rfl), (ps2 10 (q := (_, _)) rfl)⟩, by decide⟩
set_option maxRecDepth 100000 in
theorem fd_X4_pours : FdP md_X4_pours := ⟨⟨(tm4 34 rfl), (tm1 5 rfl)⟩, ⟨rfl, Or.inr (by decide +kernel), by decide +kernel, by decide +kernel, by decide +kernel⟩, Or.inr ⟨rfl, (tm4 33 rfl), (ps2 9 (q := (_, _)) rfl)⟩, by decide⟩
set_option maxRecDepth 100000 in
theorem fd_X4_isDone : FdP md_X4_isDone := ⟨⟨(tm4 19 rfl), (tm1 5 rfl)⟩, ⟨rfl, Or.inr (by decide +kernel), by decide +kernel, by decide +kernel, by decide +kernel⟩, Or.inr ⟨rfl, (tm4 18 rfl), (ps2 6 (q := (_, _)) rfl)⟩, by decide⟩
set_option maxRecDepth 100000 in
theorem fd_X4_town : FdP md_X4_town := ⟨⟨(tm3 230 rfl), (tm1 5 rfl)⟩, ⟨rfl, Or.inr (by decide +kernel), by decide +kernel, by decide +kernel, by decide +kernel⟩, Or.inr ⟨rfl, (tm3 228 rfl), (tm3 229 rfl)⟩, by decide⟩
set_option maxRecDepth 100000 in
theorem fd_X4_cask : FdP md_X4_cask := ⟨⟨(tm4 66 rfl), (tm1 5 rfl)⟩, ⟨rfl, Or.inr (by decide +kernel), by decide +kernel, by decide +kernel, by decide +kernel⟩, Or.inr ⟨rfl, (tm4 64 rfl), (tm4 65 rfl)⟩, by decide⟩
set_option maxRecDepth 100000 in
theorem fd_X4_set : FdP md_X4_set := ⟨⟨(tm4 70 rfl), (tm1 5 rfl)⟩, ⟨rfl, Or.inr (by decide +kernel), by decide +kernel, by decide +kernel, by decide +kernel⟩, Or.inr ⟨rfl, (tm4 68 rfl), (tm4 69 rfl)⟩, by decide⟩
set_option maxRecDepth 100000 in
theorem fd_X4_fill : FdP md_X4_fill := ⟨⟨(tm4 74 rfl), (tm1 5 rfl)⟩, ⟨rfl, Or.inr (by decide +kernel), by decide +kernel, by decide +kernel, by decide +kernel⟩, Or.inr ⟨rfl, (tm4 72 rfl), (tm4 73 rfl)⟩, by decide⟩
set_option maxRecDepth 100000 in
theorem fd_X4_takes : FdP md_X4_takes := ⟨⟨(tm4 78 rfl), (tm1 5 rfl)⟩, ⟨rfl, Or.inr (by decide +kernel), by decide +kernel, by decide +kernel, by decide +kernel⟩, Or.inr ⟨rfl, (tm4 76 rfl), (tm4 77 rfl)⟩, by decide⟩
set_option maxRecDepth 100000 in
theorem fd_X4_pour : FdP md_X4_pour := ⟨⟨(tm4 82 rfl), (tm1 5 rfl)⟩, ⟨rfl, Or.inr (by decide +kernel), by decide +kernel, by decide +kernel, by decide +kernel⟩, Or.inr ⟨rfl, (tm4 80 rfl), (tm4 81 rfl)⟩, by decide⟩
set_option maxRecDepth 100000 in
theorem fd_X4_years : FdP md_X4_years := ⟨⟨(tm4 86 rfl), (tm1 5 rfl)⟩, ⟨rfl, Or.inr (by decide +kernel), by decide +kernel, by decide +kernel, by decide +kernel⟩, Or.inr ⟨rfl, (tm4 84 rfl), (tm4 85 rfl)⟩, by decide⟩
set_option maxRecDepth 100000 in
theorem fd_X4_wrongYears : FdP md_X4_wrongYears := ⟨⟨(tm4 93 rfl), (tm1 5 rfl)⟩, ⟨rfl, Or.inr (by decide +kernel), by decide +kernel, by decide +kernel, by decide +kernel⟩, Or.inl ⟨rfl, (tm4 92 rfl)⟩, by decide⟩
set_option maxRecDepth 100000 in
theorem fd_X4_behind : FdP md_X4_behind := ⟨⟨(tm4 90 rfl), (tm1 5 rfl)⟩, ⟨rfl, Or.inr (by decide +kernel), by decide +kernel, by decide +kernel, by decide +kernel⟩, Or.inr ⟨rfl, (tm4 88 rfl), (tm4 89 rfl)⟩, by decide⟩
set_option maxRecDepth 100000 in
theorem fd_X4_allBehind : FdP md_X4_allBehind := ⟨⟨(tm4 101 rfl), (tm1 5 rfl)⟩, ⟨rfl, Or.inr (by decide +kernel), by decide +kernel, by decide +kernel, by decide +kernel⟩, Or.inr ⟨rfl, (tm4 99 rfl), (tm4 100 rfl)⟩, by decide⟩
set_option maxRecDepth 100000 in
theorem fd_X4_gcd : FdP md_X4_gcd := ⟨⟨(tm4 119 rfl), (tm1 5 rfl)⟩, ⟨rfl, Or.inr (by decide +kernel), by decide +kernel, by decide +kernel, by decide +kernel⟩, Or.inl ⟨rfl, (tm4 118 rfl)⟩, by decide⟩
set_option maxRecDepth 100000 in
theorem fd_X4_partOf : FdP md_X4_partOf := ⟨⟨(tm4 116 rfl), (tm1 5 rfl)⟩, ⟨rfl, Or.inr (by decide +kernel), by decide +kernel, by decide +kernel, by decide +kernel⟩, Or.inl ⟨rfl, (tm4 115 rfl)⟩, by decide⟩
set_option maxRecDepth 100000 in
theorem fd_X4_theirs : FdP md_X4_theirs := ⟨⟨(tm4 108 rfl), (tm1 5 rfl)⟩, ⟨rfl, Or.inr (by decide +kernel), by decide +kernel, by decide +kernel, by decide +kernel⟩, Or.inr ⟨rfl, (tm4 106 rfl), (tm4 107 rfl)⟩, by decide⟩
set_option maxRecDepth 100000 in
theorem fd_X4_exciseOf : FdP md_X4_exciseOf := ⟨⟨(tm4 129 rfl), (tm1 5 rfl)⟩, ⟨rfl, Or.inr (by decide +kernel), by decide +kernel, by decide +kernel, by decide +kernel⟩, Or.inl ⟨rfl, (tm4 128 rfl)⟩, by decide⟩
set_option maxRecDepth 100000 in
theorem fd_X4_exciseAll : FdP md_X4_exciseAll := ⟨⟨(tm4 126 rfl), (tm1 5 rfl)⟩, ⟨rfl, Or.inr (by decide +kernel), by decide +kernel, by decide +kernel, by decide +kernel⟩, Or.inl ⟨rfl, (tm4 125 rfl)⟩, by decide⟩
set_option maxRecDepth 100000 in
theorem fd_X4_excise : FdP md_X4_excise := ⟨⟨(tm4 123 rfl), (tm1 5 rfl)⟩, ⟨rfl, Or.inr (by decide +kernel), by decide +kernel, by decide +kernel, by decide +kernel⟩, Or.inr ⟨rfl, (tm4 121 rfl), (tm4 122 rfl)⟩, by decide⟩
set_option maxRecDepth 100000 in
theorem fd_X4_exciseIn : FdP md_X4_exciseIn := ⟨⟨(tm4 133 rfl), (tm1 5 rfl)⟩, ⟨rfl, Or.inr (by decide +kernel), by decide +kernel, by decide +kernel, by decide +kernel⟩, Or.inr ⟨rfl, (tm4 131 rfl), (tm4 132 rfl)⟩, by decide⟩
set_option maxRecDepth 100000 in
theorem fd_X4_low : FdP md_X4_low := ⟨⟨(tm4 137 rfl), (tm1 5 rfl)⟩, ⟨rfl, Or.inr (by decide +kernel), by decide +kernel, by decide +kernel, by decide +kernel⟩, Or.inr ⟨rfl, (tm4 135 rfl), (tm4 136 rfl)⟩, by decide⟩
set_option maxRecDepth 100000 in
theorem fd_X4_turns : FdP md_X4_turns := ⟨⟨(tm4 141 rfl), (tm1 5 rfl)⟩, ⟨rfl, Or.inr (by decide +kernel), by decide +kernel, by decide +kernel, by decide +kernel⟩, Or.inr ⟨rfl, (tm4 139 rfl), (tm4 140 rfl)⟩, by decide⟩
set_option maxRecDepth 100000 in
theorem fd_X4_hum : FdP md_X4_hum := ⟨⟨(tm4 145 rfl), (tm1 5 rfl)⟩, ⟨rfl, Or.inr (by decide +kernel), by decide +kernel, by decide +kernel, by decide +kernel⟩, Or.inr ⟨rfl, (tm4 143 rfl), (tm4 144 rfl)⟩, by decide⟩
set_option maxRecDepth 100000 in
theorem fd_X4_pourFor : FdP md_X4_pourFor := ⟨⟨(tm4 149 rfl), (tm1 5 rfl)⟩, ⟨rfl, Or.inr (by decide +kernel), by decide +kernel, by decide +kernel, by decide +kernel⟩, Or.inr ⟨rfl, (tm4 147 rfl), (tm4 148 rfl)⟩, by decide⟩
set_option maxRecDepth 100000 in
theorem fd_X4_blend : FdP md_X4_blend := ⟨⟨(tm4 153 rfl), (tm1 5 rfl)⟩, ⟨rfl, Or.inr (by decide +kernel), by decide +kernel, by decide +kernel, by decide +kernel⟩, Or.inr ⟨rfl, (tm4 151 rfl), (tm4 152 rfl)⟩, by decide⟩
set_option maxRecDepth 100000 in
theorem fd_X4_spread : FdP md_X4_spread := ⟨⟨(tm4 161 rfl), (tm1 5 rfl)⟩, ⟨rfl, Or.inr (by decide +kernel), by decide +kernel, by decide +kernel, by decide +kernel⟩, Or.inr ⟨rfl, (tm4 159 rfl), (tm4 160 rfl)⟩, by decide⟩
set_option maxRecDepth 100000 in
theorem fd_X4_worthOf : FdP md_X4_worthOf := ⟨⟨(tm4 168 rfl), (tm1 5 rfl)⟩, ⟨rfl, Or.inr (by decide +kernel), by decide +kernel, by decide +kernel, by decide +kernel⟩, Or.inl ⟨rfl, (tm4 167 rfl)⟩, by decide⟩
set_option maxRecDepth 100000 in
theorem fd_X4_layDown : FdP md_X4_layDown := ⟨⟨(tm4 165 rfl), (tm1 5 rfl)⟩, ⟨rfl, Or.inr (by decide +kernel), by decide +kernel, by decide +kernel, by decide +kernel⟩, Or.inr ⟨rfl, (tm4 163 rfl), (tm4 164 rfl)⟩, by decide⟩
set_option maxRecDepth 100000 in
theorem fd_X4_sell : FdP md_X4_sell := ⟨⟨(tm4 172 rfl), (tm1 5 rfl)⟩, ⟨rfl, Or.inr (by decide +kernel), by decide +kernel, by decide +kernel, by decide +kernel⟩, Or.inr ⟨rfl, (tm4 170 rfl), (tm4 171 rfl)⟩, by decide⟩
set_option maxRecDepth 100000 in
theorem fd_X4_byTreaty : FdP md_X4_byTreaty := ⟨⟨(tm4 180 rfl), (tm1 5 rfl)⟩, ⟨rfl, Or.inr (by decide +kernel), by decide +kernel, by decide +kernel, by decide +kernel⟩, Or.inr ⟨rfl, (tm4 179 rfl), (ps3 0 (q := (_, _)) rfl)⟩, by decide⟩
set_option maxRecDepth 100000 in
theorem fd_X4_treaty : FdP md_X4_treaty := ⟨⟨(tm4 176 rfl), (tm1 5 rfl)⟩, ⟨rfl, Or.inr (by decide +kernel), by decide +kernel, by decide +kernel, by decide +kernel⟩, Or.inr ⟨rfl, (tm4 174 rfl), (tm4 175 rfl)⟩, by decide⟩
set_option maxRecDepth 100000 in
theorem fd_X4_bestSet : FdP md_X4_bestSet := ⟨⟨(tm4 184 rfl), (tm1 5 rfl)⟩, ⟨rfl, Or.inr (by decide +kernel), by decide +kernel, by decide +kernel, by decide +kernel⟩, Or.inr ⟨rfl, (tm4 182 rfl), (tm4 183 rfl)⟩, by decide⟩
set_option maxRecDepth 100000 in
theorem fd_X4_iron : FdP md_X4_iron := ⟨⟨(tm4 189 rfl), (tm1 5 rfl)⟩, ⟨rfl, Or.inr (by decide +kernel), by decide +kernel, by decide +kernel, by decide +kernel⟩, Or.inr ⟨rfl, (tm4 187 rfl), (tm4 188 rfl)⟩, by decide⟩
set_option maxRecDepth 100000 in
theorem fd_X4_row : FdP md_X4_row := ⟨⟨(tm4 193 rfl), (tm1 5 rfl)⟩, ⟨rfl, Or.inr (by decide +kernel), by decide +kernel, by decide +kernel, by decide +kernel⟩, Or.inr ⟨rfl, (tm4 191 rfl), (tm4 192 rfl)⟩, by decide⟩
set_option maxRecDepth 100000 in
theorem fd_X4_firstWrong : FdP md_X4_firstWrong := ⟨⟨(tm4 201 rfl), (tm1 5 rfl)⟩, ⟨rfl, Or.inr (by decide +kernel), by decide +kernel, by decide +kernel, by decide +kernel⟩, Or.inr ⟨rfl, (tm4 200 rfl), (ps3 1 (q := (_, _)) rfl)⟩, by decide⟩
set_option maxRecDepth 100000 in
theorem fd_X4_which : FdP md_X4_which := ⟨⟨(tm4 197 rfl), (tm1 5 rfl)⟩, ⟨rfl, Or.inr (by decide +kernel), by decide +kernel, by decide +kernel, by decide +kernel⟩, Or.inr ⟨rfl, (tm4 195 rfl), (tm4 196 rfl)⟩, by decide⟩
set_option maxRecDepth 100000 in
theorem fd_X4_judge : FdP md_X4_judge := ⟨⟨(tm4 205 rfl), (tm1 5 rfl)⟩, ⟨rfl, Or.inr (by decide +kernel), by decide +kernel, by decide +kernel, by decide +kernel⟩, Or.inr ⟨rfl, (tm4 203 rfl), (tm4 204 rfl)⟩, by decide⟩
set_option maxRecDepth 100000 in
theorem fd_X4_chance : FdP md_X4_chance := ⟨⟨(tm4 209 rfl), (tm1 5 rfl)⟩, ⟨rfl, Or.inr (by decide +kernel), by decide +kernel, by decide +kernel, by decide +kernel⟩, Or.inr ⟨rfl, (tm4 207 rfl), (tm4 208 rfl)⟩, by decide⟩
set_option maxRecDepth 100000 in
theorem fd_X4_drawn : FdP md_X4_drawn := ⟨⟨(tm4 217 rfl), (tm1 5 rfl)⟩, ⟨rfl, Or.inr (by decide +kernel), by decide +kernel, by decide +kernel, by decide +kernel⟩, Or.inr ⟨rfl, (tm4 216 rfl), (ps3 2 (q := (_, _)) rfl)⟩, by decide⟩
set_option maxRecDepth 100000 in
theorem fd_X4_lots : FdP md_X4_lots := ⟨⟨(tm4 213 rfl), (tm1 5 rfl)⟩, ⟨rfl, Or.inr (by decide +kernel), by decide +kernel, by decide +kernel, by decide +kernel⟩, Or.inr ⟨rfl, (tm4 211 rfl), (tm4 212 rfl)⟩, by decide⟩
set_option maxRecDepth 100000 in
theorem fd_X4_image : FdP md_X4_image := ⟨⟨(tm4 224 rfl), (tm1 5 rfl)⟩, ⟨rfl, Or.inr (by decide +kernel), by decide +kernel, by decide +kernel, by decide +kernel⟩, Or.inr ⟨rfl, (tm4 222 rfl), (tm4 223 rfl)⟩, by decide⟩
set_option maxRecDepth 100000 in
theorem fd_X4_on : FdP md_X4_on := ⟨⟨(tm4 228 rfl), (tm1 5 rfl)⟩, ⟨rfl, Or.inr (by decide +kernel), by decide +kernel, by decide +kernel, by decide +kernel⟩, Or.inr ⟨rfl, (tm4 226 rfl), (tm4 227 rfl)⟩, by decide⟩
set_option maxRecDepth 100000 in
theorem fd_X4_count : FdP md_X4_count := ⟨⟨(tm4 232 rfl), (tm1 5 rfl)⟩, ⟨rfl, Or.inr (by decide +kernel), by decide +kernel, by decide +kernel, by decide +kernel⟩, Or.inr ⟨rfl, (tm4 230 rfl), (tm4 231 rfl)⟩, by decide⟩
theorem mok_0 : ∀ d ∈ mTL_0, FdP d := List.forall_mem_cons.mpr ⟨fd_J9_abs_0f7a4, List.forall_mem_cons.mpr ⟨fd_J9_max_7cf53, List.forall_mem_cons.mpr ⟨fd_J9_min_7cf53, List.forall_mem_cons.mpr ⟨fd_J6_bitCount_0f7a4, List.forall_mem_cons.mpr ⟨fd_J0_length_8abf5, List.forall_mem_cons.mpr ⟨fd_J0_charAt_5068e, List.forall_mem_cons.mpr ⟨fd_J0_indexOf_0f7a4, List.forall_mem_cons.mpr ⟨fd_J0_indexOf_7cf53, List.forall_mem_cons.mpr ⟨fd_J0_coder_7d493, List.forall_mem_cons.mpr ⟨fd_J0_isLatin1_aae02, List.forall_mem_cons.mpr ⟨fd_J0_checkIndex_df160, List.forall_mem_cons.mpr ⟨fd_J1_charAt_3b067, List.forall_mem_cons.mpr ⟨fd_J1_canEncode_9a6ad, List.forall_mem_cons.mpr ⟨fd_J1_indexOf_4cfef, List.forall_mem_cons.mpr ⟨fd_J1_indexOfChar_4cfef, List.forall_mem_cons.mpr ⟨fd_J3_checkIndex_8e157, List.forall_mem_cons.mpr ⟨fd_X0_become, List.forall_mem_cons.mpr ⟨fd_X0_angelsPart, List.forall_mem_cons.mpr ⟨fd_X0_strengthIn, List.forall_mem_cons.mpr ⟨fd_X0_sentBackIn, List.forall_mem_cons.mpr ⟨fd_X0_goOn, List.forall_mem_cons.mpr ⟨fd_X0_isHalfTheirs, fun _ h => absurd h List.not_mem_nil⟩⟩⟩⟩⟩⟩⟩⟩⟩⟩⟩⟩⟩⟩⟩⟩⟩⟩⟩⟩⟩⟩
theorem mok_1 : ∀ d ∈ mTL_1, FdP d := List.forall_mem_cons.mpr ⟨fd_X0_worth, List.forall_mem_cons.mpr ⟨fd_X1_isFull, List.forall_mem_cons.mpr ⟨fd_X1_add, List.forall_mem_cons.mpr ⟨fd_X1_forget, List.forall_mem_cons.mpr ⟨fd_X1_at, List.forall_mem_cons.mpr ⟨fd_X1_kind, List.forall_mem_cons.mpr ⟨fd_X1_number, List.forall_mem_cons.mpr ⟨fd_X1_firstWrong, List.forall_mem_cons.mpr ⟨fd_X1_fits, List.forall_mem_cons.mpr ⟨fd_X1_shapeOf, List.forall_mem_cons.mpr ⟨fd_X2_at, List.forall_mem_cons.mpr ⟨fd_X2_become, List.forall_mem_cons.mpr ⟨fd_X2_caskFault, List.forall_mem_cons.mpr ⟨fd_X2_addCask, List.forall_mem_cons.mpr ⟨fd_X2_chosen, List.forall_mem_cons.mpr ⟨fd_X2_choose, List.forall_mem_cons.mpr ⟨fd_X2_pourFault, List.forall_mem_cons.mpr ⟨fd_X2_pouredStrength, List.forall_mem_cons.mpr ⟨fd_X2_pourOver, List.forall_mem_cons.mpr ⟨fd_X2_blended, List.forall_mem_cons.mpr ⟨fd_X2_rateBy, List.forall_mem_cons.mpr ⟨fd_X2_goOn, fun _ h => absurd h List.not_mem_nil⟩⟩⟩⟩⟩⟩⟩⟩⟩⟩⟩⟩⟩⟩⟩⟩⟩⟩⟩⟩⟩⟩
theorem mok_2 : ∀ d ∈ mTL_2, FdP d := List.forall_mem_cons.mpr ⟨fd_X2_liveOn, List.forall_mem_cons.mpr ⟨fd_X2_allAmounts, List.forall_mem_cons.mpr ⟨fd_X2_allTaken, List.forall_mem_cons.mpr ⟨fd_X2_fullest, List.forall_mem_cons.mpr ⟨fd_X2_dutyOf, List.forall_mem_cons.mpr ⟨fd_X2_dutyOfAll, List.forall_mem_cons.mpr ⟨fd_X3_letter, List.forall_mem_cons.mpr ⟨fd_X3_town, List.forall_mem_cons.mpr ⟨fd_X3_cask, List.forall_mem_cons.mpr ⟨fd_X3_set, List.forall_mem_cons.mpr ⟨fd_X3_fill, List.forall_mem_cons.mpr ⟨fd_X3_takes, List.forall_mem_cons.mpr ⟨fd_X3_pour, List.forall_mem_cons.mpr ⟨fd_X3_years, List.forall_mem_cons.mpr ⟨fd_X3_behind, List.forall_mem_cons.mpr ⟨fd_X3_allBehind, List.forall_mem_cons.mpr ⟨fd_X3_theirs, List.forall_mem_cons.mpr ⟨fd_X3_excise, List.forall_mem_cons.mpr ⟨fd_X3_exciseIn, List.forall_mem_cons.mpr ⟨fd_X3_low, List.forall_mem_cons.mpr ⟨fd_X3_turns, List.forall_mem_cons.mpr ⟨fd_X3_hum, fun _ h => absurd h List.not_mem_nil⟩⟩⟩⟩⟩⟩⟩⟩⟩⟩⟩⟩⟩⟩⟩⟩⟩⟩⟩⟩⟩⟩
theorem mok_3 : ∀ d ∈ mTL_3, FdP d := List.forall_mem_cons.mpr ⟨fd_X3_pourFor, List.forall_mem_cons.mpr ⟨fd_X3_blend, List.forall_mem_cons.mpr ⟨fd_X3_spread, List.forall_mem_cons.mpr ⟨fd_X3_layDown, List.forall_mem_cons.mpr ⟨fd_X3_sell, List.forall_mem_cons.mpr ⟨fd_X3_treaty, List.forall_mem_cons.mpr ⟨fd_X3_bestSet, List.forall_mem_cons.mpr ⟨fd_X3_iron, List.forall_mem_cons.mpr ⟨fd_X3_row, List.forall_mem_cons.mpr ⟨fd_X3_which, List.forall_mem_cons.mpr ⟨fd_X3_judge, List.forall_mem_cons.mpr ⟨fd_X3_chance, List.forall_mem_cons.mpr ⟨fd_X3_lots, List.forall_mem_cons.mpr ⟨fd_X3_image, List.forall_mem_cons.mpr ⟨fd_X3_on, List.forall_mem_cons.mpr ⟨fd_X3_count, List.forall_mem_cons.mpr ⟨fd_X3_refuse, List.forall_mem_cons.mpr ⟨fd_X3_refuseLong, List.forall_mem_cons.mpr ⟨fd_X3_refused, List.forall_mem_cons.mpr ⟨fd_X3_firstOf, List.forall_mem_cons.mpr ⟨fd_X3_rangeFault, List.forall_mem_cons.mpr ⟨fd_X3_whatFault, fun _ h => absurd h List.not_mem_nil⟩⟩⟩⟩⟩⟩⟩⟩⟩⟩⟩⟩⟩⟩⟩⟩⟩⟩⟩⟩⟩⟩
theorem mok_4 : ∀ d ∈ mTL_4, FdP d := List.forall_mem_cons.mpr ⟨fd_X3_yearsFault, List.forall_mem_cons.mpr ⟨fd_X3_caskOrAllFault, List.forall_mem_cons.mpr ⟨fd_X3_chanceFault, List.forall_mem_cons.mpr ⟨fd_X3_leastChoice, List.forall_mem_cons.mpr ⟨fd_X3_mostChoice, List.forall_mem_cons.mpr ⟨fd_X3_readLetters, List.forall_mem_cons.mpr ⟨fd_X3_statementFault, List.forall_mem_cons.mpr ⟨fd_X3_caskComes, List.forall_mem_cons.mpr ⟨fd_X3_pourComes, List.forall_mem_cons.mpr ⟨fd_X3_thinkOn, List.forall_mem_cons.mpr ⟨fd_X3_keepsLess, List.forall_mem_cons.mpr ⟨fd_X3_thinkTreaty, List.forall_mem_cons.mpr ⟨fd_X3_bothKeep, List.forall_mem_cons.mpr ⟨fd_X3_firstNotSo, List.forall_mem_cons.mpr ⟨fd_X3_kindsByRow, List.forall_mem_cons.mpr ⟨fd_X3_ratesByRow, List.forall_mem_cons.mpr ⟨fd_X3_amountByLents, List.forall_mem_cons.mpr ⟨fd_X3_nextSeed, List.forall_mem_cons.mpr ⟨fd_X3_drawn, List.forall_mem_cons.mpr ⟨fd_X3_power, List.forall_mem_cons.mpr ⟨fd_X3_partOf, List.forall_mem_cons.mpr ⟨fd_X3_commonDivisor, fun _ h => absurd h List.not_mem_nil⟩⟩⟩⟩⟩⟩⟩⟩⟩⟩⟩⟩⟩⟩⟩⟩⟩⟩⟩⟩⟩⟩
theorem mok_5 : ∀ d ∈ mTL_5, FdP d := List.forall_mem_cons.mpr ⟨fd_X4_isIn, List.forall_mem_cons.mpr ⟨fd_X4_least, List.forall_mem_cons.mpr ⟨fd_X4_size, List.forall_mem_cons.mpr ⟨fd_X4_lays, List.forall_mem_cons.mpr ⟨fd_X4_no, List.forall_mem_cons.mpr ⟨fd_X4_noWide, List.forall_mem_cons.mpr ⟨fd_X4_isCask, List.forall_mem_cons.mpr ⟨fd_X4_at, List.forall_mem_cons.mpr ⟨fd_X4_takesOf, List.forall_mem_cons.mpr ⟨fd_X4_strengthOf, List.forall_mem_cons.mpr ⟨fd_X4_backOf, List.forall_mem_cons.mpr ⟨fd_X4_yearBy, List.forall_mem_cons.mpr ⟨fd_X4_year, List.forall_mem_cons.mpr ⟨fd_X4_yearsOn, List.forall_mem_cons.mpr ⟨fd_X4_inMind, List.forall_mem_cons.mpr ⟨fd_X4_sumOf, List.forall_mem_cons.mpr ⟨fd_X4_letter, List.forall_mem_cons.mpr ⟨fd_X4_here, List.forall_mem_cons.mpr ⟨fd_X4_readsNumber, List.forall_mem_cons.mpr ⟨fd_X4_kindOf, List.forall_mem_cons.mpr ⟨fd_X4_readsKind, List.forall_mem_cons.mpr ⟨fd_X4_readsStatement, fun _ h => absurd h List.not_mem_nil⟩⟩⟩⟩⟩⟩⟩⟩⟩⟩⟩⟩⟩⟩⟩⟩⟩⟩⟩⟩⟩⟩
theorem mok_6 : ∀ d ∈ mTL_6, FdP d := List.forall_mem_cons.mpr ⟨fd_X4_canPour, List.forall_mem_cons.mpr ⟨fd_X4_mixed, List.forall_mem_cons.mpr ⟨fd_X4_pours, List.forall_mem_cons.mpr ⟨fd_X4_isDone, List.forall_mem_cons.mpr ⟨fd_X4_town, List.forall_mem_cons.mpr ⟨fd_X4_cask, List.forall_mem_cons.mpr ⟨fd_X4_set, List.forall_mem_cons.mpr ⟨fd_X4_fill, List.forall_mem_cons.mpr ⟨fd_X4_takes, List.forall_mem_cons.mpr ⟨fd_X4_pour, List.forall_mem_cons.mpr ⟨fd_X4_years, List.forall_mem_cons.mpr ⟨fd_X4_wrongYears, List.forall_mem_cons.mpr ⟨fd_X4_behind, List.forall_mem_cons.mpr ⟨fd_X4_allBehind, List.forall_mem_cons.mpr ⟨fd_X4_gcd, List.forall_mem_cons.mpr ⟨fd_X4_partOf, List.forall_mem_cons.mpr ⟨fd_X4_theirs, List.forall_mem_cons.mpr ⟨fd_X4_exciseOf, List.forall_mem_cons.mpr ⟨fd_X4_exciseAll, List.forall_mem_cons.mpr ⟨fd_X4_excise, List.forall_mem_cons.mpr ⟨fd_X4_exciseIn, List.forall_mem_cons.mpr ⟨fd_X4_low, fun _ h => absurd h List.not_mem_nil⟩⟩⟩⟩⟩⟩⟩⟩⟩⟩⟩⟩⟩⟩⟩⟩⟩⟩⟩⟩⟩⟩
theorem mok_7 : ∀ d ∈ mTL_7, FdP d := List.forall_mem_cons.mpr ⟨fd_X4_turns, List.forall_mem_cons.mpr ⟨fd_X4_hum, List.forall_mem_cons.mpr ⟨fd_X4_pourFor, List.forall_mem_cons.mpr ⟨fd_X4_blend, List.forall_mem_cons.mpr ⟨fd_X4_spread, List.forall_mem_cons.mpr ⟨fd_X4_worthOf, List.forall_mem_cons.mpr ⟨fd_X4_layDown, List.forall_mem_cons.mpr ⟨fd_X4_sell, List.forall_mem_cons.mpr ⟨fd_X4_byTreaty, List.forall_mem_cons.mpr ⟨fd_X4_treaty, List.forall_mem_cons.mpr ⟨fd_X4_bestSet, List.forall_mem_cons.mpr ⟨fd_X4_iron, List.forall_mem_cons.mpr ⟨fd_X4_row, List.forall_mem_cons.mpr ⟨fd_X4_firstWrong, List.forall_mem_cons.mpr ⟨fd_X4_which, List.forall_mem_cons.mpr ⟨fd_X4_judge, List.forall_mem_cons.mpr ⟨fd_X4_chance, List.forall_mem_cons.mpr ⟨fd_X4_drawn, List.forall_mem_cons.mpr ⟨fd_X4_lots, List.forall_mem_cons.mpr ⟨fd_X4_image, List.forall_mem_cons.mpr ⟨fd_X4_on, List.forall_mem_cons.mpr ⟨fd_X4_count, fun _ h => absurd h List.not_mem_nil⟩⟩⟩⟩⟩⟩⟩⟩⟩⟩⟩⟩⟩⟩⟩⟩⟩⟩⟩⟩⟩⟩
theorem mok : ∀ d ∈ mTL, FdP d := List.forall_mem_append.mpr ⟨mok_0, List.forall_mem_append.mpr ⟨mok_1, List.forall_mem_append.mpr ⟨mok_2, List.forall_mem_append.mpr ⟨mok_3, List.forall_mem_append.mpr ⟨mok_4, List.forall_mem_append.mpr ⟨mok_5, List.forall_mem_append.mpr ⟨mok_6, mok_7⟩⟩⟩⟩⟩⟩⟩
theorem mt_J9_abs_0f7a4 : mTL[0]? = some md_J9_abs_0f7a4 := rfl
theorem mt_J9_max_7cf53 : mTL[1]? = some md_J9_max_7cf53 := rfl
theorem mt_J9_min_7cf53 : mTL[2]? = some md_J9_min_7cf53 := rfl
theorem mt_J6_bitCount_0f7a4 : mTL[3]? = some md_J6_bitCount_0f7a4 := rfl
theorem mt_J0_length_8abf5 : mTL[4]? = some md_J0_length_8abf5 := rfl
theorem mt_J0_charAt_5068e : mTL[5]? = some md_J0_charAt_5068e := rfl
theorem mt_J0_indexOf_0f7a4 : mTL[6]? = some md_J0_indexOf_0f7a4 := rfl
theorem mt_J0_indexOf_7cf53 : mTL[7]? = some md_J0_indexOf_7cf53 := rfl
theorem mt_J0_coder_7d493 : mTL[8]? = some md_J0_coder_7d493 := rfl
theorem mt_J0_isLatin1_aae02 : mTL[9]? = some md_J0_isLatin1_aae02 := rfl
theorem mt_J0_checkIndex_df160 : mTL[10]? = some md_J0_checkIndex_df160 := rfl
theorem mt_J1_charAt_3b067 : mTL[11]? = some md_J1_charAt_3b067 := rfl
theorem mt_J1_canEncode_9a6ad : mTL[12]? = some md_J1_canEncode_9a6ad := rfl
theorem mt_J1_indexOf_4cfef : mTL[13]? = some md_J1_indexOf_4cfef := rfl
theorem mt_J1_indexOfChar_4cfef : mTL[14]? = some md_J1_indexOfChar_4cfef := rfl
theorem mt_J3_checkIndex_8e157 : mTL[15]? = some md_J3_checkIndex_8e157 := rfl
theorem mt_X0_become : mTL[16]? = some md_X0_become := rfl
theorem mt_X0_angelsPart : mTL[17]? = some md_X0_angelsPart := rfl
theorem mt_X0_strengthIn : mTL[18]? = some md_X0_strengthIn := rfl
theorem mt_X0_sentBackIn : mTL[19]? = some md_X0_sentBackIn := rfl
theorem mt_X0_goOn : mTL[20]? = some md_X0_goOn := rfl
theorem mt_X0_isHalfTheirs : mTL[21]? = some md_X0_isHalfTheirs := rfl
theorem mt_X0_worth : mTL[22]? = some md_X0_worth := rfl
theorem mt_X1_isFull : mTL[23]? = some md_X1_isFull := rfl
theorem mt_X1_add : mTL[24]? = some md_X1_add := rfl
theorem mt_X1_forget : mTL[25]? = some md_X1_forget := rfl
theorem mt_X1_at : mTL[26]? = some md_X1_at := rfl
theorem mt_X1_kind : mTL[27]? = some md_X1_kind := rfl
theorem mt_X1_number : mTL[28]? = some md_X1_number := rfl
theorem mt_X1_firstWrong : mTL[29]? = some md_X1_firstWrong := rfl
theorem mt_X1_fits : mTL[30]? = some md_X1_fits := rfl
theorem mt_X1_shapeOf : mTL[31]? = some md_X1_shapeOf := rfl
theorem mt_X2_at : mTL[32]? = some md_X2_at := rfl
theorem mt_X2_become : mTL[33]? = some md_X2_become := rfl
theorem mt_X2_caskFault : mTL[34]? = some md_X2_caskFault := rfl
theorem mt_X2_addCask : mTL[35]? = some md_X2_addCask := rfl
theorem mt_X2_chosen : mTL[36]? = some md_X2_chosen := rfl
theorem mt_X2_choose : mTL[37]? = some md_X2_choose := rfl
theorem mt_X2_pourFault : mTL[38]? = some md_X2_pourFault := rfl
theorem mt_X2_pouredStrength : mTL[39]? = some md_X2_pouredStrength := rfl
theorem mt_X2_pourOver : mTL[40]? = some md_X2_pourOver := rfl
theorem mt_X2_blended : mTL[41]? = some md_X2_blended := rfl
theorem mt_X2_rateBy : mTL[42]? = some md_X2_rateBy := rfl
theorem mt_X2_goOn : mTL[43]? = some md_X2_goOn := rfl
theorem mt_X2_liveOn : mTL[44]? = some md_X2_liveOn := rfl
theorem mt_X2_allAmounts : mTL[45]? = some md_X2_allAmounts := rfl
theorem mt_X2_allTaken : mTL[46]? = some md_X2_allTaken := rfl
theorem mt_X2_fullest : mTL[47]? = some md_X2_fullest := rfl
theorem mt_X2_dutyOf : mTL[48]? = some md_X2_dutyOf := rfl
theorem mt_X2_dutyOfAll : mTL[49]? = some md_X2_dutyOfAll := rfl
theorem mt_X3_letter : mTL[50]? = some md_X3_letter := rfl
theorem mt_X3_town : mTL[51]? = some md_X3_town := rfl
theorem mt_X3_cask : mTL[52]? = some md_X3_cask := rfl
theorem mt_X3_set : mTL[53]? = some md_X3_set := rfl
theorem mt_X3_fill : mTL[54]? = some md_X3_fill := rfl
theorem mt_X3_takes : mTL[55]? = some md_X3_takes := rfl
theorem mt_X3_pour : mTL[56]? = some md_X3_pour := rfl
theorem mt_X3_years : mTL[57]? = some md_X3_years := rfl
theorem mt_X3_behind : mTL[58]? = some md_X3_behind := rfl
theorem mt_X3_allBehind : mTL[59]? = some md_X3_allBehind := rfl
theorem mt_X3_theirs : mTL[60]? = some md_X3_theirs := rfl
theorem mt_X3_excise : mTL[61]? = some md_X3_excise := rfl
theorem mt_X3_exciseIn : mTL[62]? = some md_X3_exciseIn := rfl
theorem mt_X3_low : mTL[63]? = some md_X3_low := rfl
theorem mt_X3_turns : mTL[64]? = some md_X3_turns := rfl
theorem mt_X3_hum : mTL[65]? = some md_X3_hum := rfl
theorem mt_X3_pourFor : mTL[66]? = some md_X3_pourFor := rfl
theorem mt_X3_blend : mTL[67]? = some md_X3_blend := rfl
theorem mt_X3_spread : mTL[68]? = some md_X3_spread := rfl
theorem mt_X3_layDown : mTL[69]? = some md_X3_layDown := rfl
theorem mt_X3_sell : mTL[70]? = some md_X3_sell := rfl
theorem mt_X3_treaty : mTL[71]? = some md_X3_treaty := rfl
theorem mt_X3_bestSet : mTL[72]? = some md_X3_bestSet := rfl
theorem mt_X3_iron : mTL[73]? = some md_X3_iron := rfl
theorem mt_X3_row : mTL[74]? = some md_X3_row := rfl
theorem mt_X3_which : mTL[75]? = some md_X3_which := rfl
theorem mt_X3_judge : mTL[76]? = some md_X3_judge := rfl
theorem mt_X3_chance : mTL[77]? = some md_X3_chance := rfl
theorem mt_X3_lots : mTL[78]? = some md_X3_lots := rfl
theorem mt_X3_image : mTL[79]? = some md_X3_image := rfl
theorem mt_X3_on : mTL[80]? = some md_X3_on := rfl
theorem mt_X3_count : mTL[81]? = some md_X3_count := rfl
theorem mt_X3_refuse : mTL[82]? = some md_X3_refuse := rfl
theorem mt_X3_refuseLong : mTL[83]? = some md_X3_refuseLong := rfl
theorem mt_X3_refused : mTL[84]? = some md_X3_refused := rfl
theorem mt_X3_firstOf : mTL[85]? = some md_X3_firstOf := rfl
theorem mt_X3_rangeFault : mTL[86]? = some md_X3_rangeFault := rfl
theorem mt_X3_whatFault : mTL[87]? = some md_X3_whatFault := rfl
theorem mt_X3_yearsFault : mTL[88]? = some md_X3_yearsFault := rfl
theorem mt_X3_caskOrAllFault : mTL[89]? = some md_X3_caskOrAllFault := rfl
theorem mt_X3_chanceFault : mTL[90]? = some md_X3_chanceFault := rfl
theorem mt_X3_leastChoice : mTL[91]? = some md_X3_leastChoice := rfl
theorem mt_X3_mostChoice : mTL[92]? = some md_X3_mostChoice := rfl
theorem mt_X3_readLetters : mTL[93]? = some md_X3_readLetters := rfl
theorem mt_X3_statementFault : mTL[94]? = some md_X3_statementFault := rfl
theorem mt_X3_caskComes : mTL[95]? = some md_X3_caskComes := rfl
theorem mt_X3_pourComes : mTL[96]? = some md_X3_pourComes := rfl
theorem mt_X3_thinkOn : mTL[97]? = some md_X3_thinkOn := rfl
theorem mt_X3_keepsLess : mTL[98]? = some md_X3_keepsLess := rfl
theorem mt_X3_thinkTreaty : mTL[99]? = some md_X3_thinkTreaty := rfl
theorem mt_X3_bothKeep : mTL[100]? = some md_X3_bothKeep := rfl
theorem mt_X3_firstNotSo : mTL[101]? = some md_X3_firstNotSo := rfl
theorem mt_X3_kindsByRow : mTL[102]? = some md_X3_kindsByRow := rfl
theorem mt_X3_ratesByRow : mTL[103]? = some md_X3_ratesByRow := rfl
theorem mt_X3_amountByLents : mTL[104]? = some md_X3_amountByLents := rfl
theorem mt_X3_nextSeed : mTL[105]? = some md_X3_nextSeed := rfl
theorem mt_X3_drawn : mTL[106]? = some md_X3_drawn := rfl
theorem mt_X3_power : mTL[107]? = some md_X3_power := rfl
theorem mt_X3_partOf : mTL[108]? = some md_X3_partOf := rfl
theorem mt_X3_commonDivisor : mTL[109]? = some md_X3_commonDivisor := rfl
theorem mt_X4_isIn : mTL[110]? = some md_X4_isIn := rfl
theorem mt_X4_least : mTL[111]? = some md_X4_least := rfl
theorem mt_X4_size : mTL[112]? = some md_X4_size := rfl
theorem mt_X4_lays : mTL[113]? = some md_X4_lays := rfl
theorem mt_X4_no : mTL[114]? = some md_X4_no := rfl
theorem mt_X4_noWide : mTL[115]? = some md_X4_noWide := rfl
theorem mt_X4_isCask : mTL[116]? = some md_X4_isCask := rfl
theorem mt_X4_at : mTL[117]? = some md_X4_at := rfl
theorem mt_X4_takesOf : mTL[118]? = some md_X4_takesOf := rfl
theorem mt_X4_strengthOf : mTL[119]? = some md_X4_strengthOf := rfl
theorem mt_X4_backOf : mTL[120]? = some md_X4_backOf := rfl
theorem mt_X4_yearBy : mTL[121]? = some md_X4_yearBy := rfl
theorem mt_X4_year : mTL[122]? = some md_X4_year := rfl
theorem mt_X4_yearsOn : mTL[123]? = some md_X4_yearsOn := rfl
theorem mt_X4_inMind : mTL[124]? = some md_X4_inMind := rfl
theorem mt_X4_sumOf : mTL[125]? = some md_X4_sumOf := rfl
theorem mt_X4_letter : mTL[126]? = some md_X4_letter := rfl
theorem mt_X4_here : mTL[127]? = some md_X4_here := rfl
theorem mt_X4_readsNumber : mTL[128]? = some md_X4_readsNumber := rfl
theorem mt_X4_kindOf : mTL[129]? = some md_X4_kindOf := rfl
theorem mt_X4_readsKind : mTL[130]? = some md_X4_readsKind := rfl
theorem mt_X4_readsStatement : mTL[131]? = some md_X4_readsStatement := rfl
theorem mt_X4_canPour : mTL[132]? = some md_X4_canPour := rfl
theorem mt_X4_mixed : mTL[133]? = some md_X4_mixed := rfl
theorem mt_X4_pours : mTL[134]? = some md_X4_pours := rfl
theorem mt_X4_isDone : mTL[135]? = some md_X4_isDone := rfl
theorem mt_X4_town : mTL[136]? = some md_X4_town := rfl
theorem mt_X4_cask : mTL[137]? = some md_X4_cask := rfl
theorem mt_X4_set : mTL[138]? = some md_X4_set := rfl
theorem mt_X4_fill : mTL[139]? = some md_X4_fill := rfl
theorem mt_X4_takes : mTL[140]? = some md_X4_takes := rfl
theorem mt_X4_pour : mTL[141]? = some md_X4_pour := rfl
theorem mt_X4_years : mTL[142]? = some md_X4_years := rfl
theorem mt_X4_wrongYears : mTL[143]? = some md_X4_wrongYears := rfl
theorem mt_X4_behind : mTL[144]? = some md_X4_behind := rfl
theorem mt_X4_allBehind : mTL[145]? = some md_X4_allBehind := rfl
theorem mt_X4_gcd : mTL[146]? = some md_X4_gcd := rfl
theorem mt_X4_partOf : mTL[147]? = some md_X4_partOf := rfl
theorem mt_X4_theirs : mTL[148]? = some md_X4_theirs := rfl
theorem mt_X4_exciseOf : mTL[149]? = some md_X4_exciseOf := rfl
theorem mt_X4_exciseAll : mTL[150]? = some md_X4_exciseAll := rfl
theorem mt_X4_excise : mTL[151]? = some md_X4_excise := rfl
theorem mt_X4_exciseIn : mTL[152]? = some md_X4_exciseIn := rfl
theorem mt_X4_low : mTL[153]? = some md_X4_low := rfl
theorem mt_X4_turns : mTL[154]? = some md_X4_turns := rfl
theorem mt_X4_hum : mTL[155]? = some md_X4_hum := rfl
theorem mt_X4_pourFor : mTL[156]? = some md_X4_pourFor := rfl
theorem mt_X4_blend : mTL[157]? = some md_X4_blend := rfl
theorem mt_X4_spread : mTL[158]? = some md_X4_spread := rfl
theorem mt_X4_worthOf : mTL[159]? = some md_X4_worthOf := rfl
theorem mt_X4_layDown : mTL[160]? = some md_X4_layDown := rfl
theorem mt_X4_sell : mTL[161]? = some md_X4_sell := rfl
theorem mt_X4_byTreaty : mTL[162]? = some md_X4_byTreaty := rfl
theorem mt_X4_treaty : mTL[163]? = some md_X4_treaty := rfl
theorem mt_X4_bestSet : mTL[164]? = some md_X4_bestSet := rfl
theorem mt_X4_iron : mTL[165]? = some md_X4_iron := rfl
theorem mt_X4_row : mTL[166]? = some md_X4_row := rfl
theorem mt_X4_firstWrong : mTL[167]? = some md_X4_firstWrong := rfl
theorem mt_X4_which : mTL[168]? = some md_X4_which := rfl
theorem mt_X4_judge : mTL[169]? = some md_X4_judge := rfl
theorem mt_X4_chance : mTL[170]? = some md_X4_chance := rfl
theorem mt_X4_drawn : mTL[171]? = some md_X4_drawn := rfl
theorem mt_X4_lots : mTL[172]? = some md_X4_lots := rfl
theorem mt_X4_image : mTL[173]? = some md_X4_image := rfl
theorem mt_X4_on : mTL[174]? = some md_X4_on := rfl
theorem mt_X4_count : mTL[175]? = some md_X4_count := rfl
def nlk : List Jvm.Cond := [.methodLinkNest RX2 46 yX3_rangeFault RX3, .methodLinkNest RX2 50 yX3_firstOf RX3, .methodLinkNest RX2 71 yX3_whatFault RX3, .methodLinkNest RX2 75 yX3_leastChoice RX3, .methodLinkNest RX2 79 yX3_mostChoice RX3]
def sTL_0 : List (Nat × Nat × Bool × Nat) := [(0, 30, false, 2), (0, 36, false, 1), (0, 39, false, 17), (0, 42, false, 18), (0, 46, false, 19), (1, 19, false, 26), (1, 25, false, 6), (1, 32, false, 4), (1, 35, false, 31), (1, 39, false, 5), (1, 43, false, 30), (1, 47, false, 27), (2, 38, false, 32), (2, 42, false, 16), (2, 46, true, 86), (2, 50, true, 85), (2, 71, true, 87), (2, 75, true, 91), (2, 79, true, 92), (2, 82, false, 34), (2, 85, false, 38), (2, 88, false, 39), (2, 91, false, 22), (2, 95, false, 2)]
def sTL_1 : List (Nat × Nat × Bool × Nat) := [(2, 100, false, 42), (2, 104, false, 20), (2, 108, false, 43), (2, 111, false, 48), (3, 44, false, 86), (3, 48, false, 23), (3, 52, false, 24), (3, 56, false, 82), (3, 59, false, 93), (3, 63, false, 25), (3, 66, false, 34), (3, 69, false, 87), (3, 73, false, 85), (3, 76, false, 32), (3, 100, false, 36), (3, 103, false, 37), (3, 106, false, 17), (3, 109, false, 40), (3, 112, false, 44), (3, 118, false, 88), (3, 121, false, 97), (3, 125, false, 45), (3, 128, false, 46), (3, 131, false, 47)]
def sTL_2 : List (Nat × Nat × Bool × Nat) := [(3, 134, false, 89), (3, 137, false, 83), (3, 141, false, 108), (3, 145, false, 49), (3, 148, false, 48), (3, 151, false, 33), (3, 155, false, 43), (3, 158, false, 21), (3, 164, false, 38), (3, 167, false, 39), (3, 170, false, 41), (3, 173, false, 0), (3, 178, false, 2), (3, 181, false, 1), (3, 184, false, 22), (3, 187, false, 98), (3, 191, false, 100), (3, 195, false, 91), (3, 198, false, 92), (3, 201, false, 102), (3, 204, false, 103), (3, 207, false, 101), (3, 210, false, 90), (3, 213, false, 104)]
def sTL_3 : List (Nat × Nat × Bool × Nat) := [(3, 216, false, 3), (3, 221, false, 107), (3, 225, false, 105), (3, 228, false, 106), (3, 243, false, 84), (3, 248, false, 29), (3, 251, false, 26), (3, 253, false, 94), (3, 256, false, 95), (3, 259, false, 28), (3, 262, false, 96), (3, 265, false, 27), (3, 267, false, 35), (3, 271, false, 99), (3, 275, false, 16), (3, 278, false, 42), (3, 282, false, 20), (3, 288, false, 109), (4, 36, false, 114), (4, 40, false, 110), (4, 44, false, 117), (4, 48, false, 111), (4, 58, false, 118), (4, 62, false, 119)]
def sTL_4 : List (Nat × Nat × Bool × Nat) := [(4, 66, false, 120), (4, 70, false, 121), (4, 74, false, 122), (4, 78, false, 113), (4, 82, false, 123), (4, 92, false, 127), (4, 96, false, 129), (4, 99, false, 130), (4, 103, false, 128), (4, 107, false, 133), (4, 111, false, 116), (4, 115, false, 132), (4, 118, false, 134), (4, 122, false, 131), (4, 125, false, 135), (4, 128, false, 143), (4, 131, false, 124), (4, 135, false, 125), (4, 138, false, 146), (4, 142, false, 115), (4, 146, false, 147), (4, 150, false, 149), (4, 153, false, 150), (4, 158, false, 112)]
def sTL_5 : List (Nat × Nat × Bool × Nat) := [(4, 161, false, 159), (4, 164, false, 162), (4, 173, false, 167), (4, 182, false, 171), (5, 13, false, 50), (5, 17, false, 126), (5, 18, false, 51), (5, 22, false, 136), (5, 23, false, 52), (5, 27, false, 137), (5, 28, false, 53), (5, 31, false, 138), (5, 32, false, 54), (5, 35, false, 139), (5, 36, false, 55), (5, 40, false, 140), (5, 41, false, 56), (5, 44, false, 141), (5, 45, false, 57), (5, 48, false, 142), (5, 49, false, 58), (5, 52, false, 144), (5, 53, false, 59), (5, 56, false, 145)]
def sTL_6 : List (Nat × Nat × Bool × Nat) := [(5, 57, false, 60), (5, 61, false, 148), (5, 62, false, 61), (5, 65, false, 151), (5, 66, false, 62), (5, 69, false, 152), (5, 70, false, 63), (5, 73, false, 153), (5, 74, false, 64), (5, 77, false, 154), (5, 78, false, 65), (5, 81, false, 155), (5, 82, false, 66), (5, 85, false, 156), (5, 86, false, 67), (5, 89, false, 157), (5, 90, false, 68), (5, 93, false, 158), (5, 94, false, 69), (5, 97, false, 160), (5, 98, false, 70), (5, 101, false, 161), (5, 102, false, 71), (5, 105, false, 163)]
def sTL_7 : List (Nat × Nat × Bool × Nat) := [(5, 106, false, 72), (5, 109, false, 164), (5, 110, false, 73), (5, 113, false, 165), (5, 114, false, 74), (5, 117, false, 166), (5, 118, false, 75), (5, 121, false, 168), (5, 122, false, 76), (5, 125, false, 169), (5, 126, false, 77), (5, 130, false, 170), (5, 131, false, 78), (5, 134, false, 172), (5, 135, false, 79), (5, 138, false, 173), (5, 139, false, 80), (5, 142, false, 174), (5, 143, false, 81), (5, 146, false, 175), (10, 335, false, 8), (10, 492, false, 9), (10, 495, false, 11), (10, 505, false, 4)]
def sTL_8 : List (Nat × Nat × Bool × Nat) := [(10, 633, false, 7), (10, 637, false, 13), (10, 1059, false, 15), (11, 9, false, 10), (11, 38, false, 2), (11, 88, false, 12), (11, 92, false, 1), (11, 95, false, 14)]
def sTL : List (Nat × Nat × Bool × Nat) := sTL_0 ++ (sTL_1 ++ (sTL_2 ++ (sTL_3 ++ (sTL_4 ++ (sTL_5 ++ (sTL_6 ++ (sTL_7 ++ (sTL_8))))))))
def SdP (e : Nat × Nat × Bool × Nat) : Prop := ∃ d : MD, mTL[e.2.2.2]? = some d ∧ ((e.2.2.1 = false ∧ Jvm.Cond.methodLink (cn e.1) e.2.1 d.y ∈ lw_tbl) ∨ (e.2.2.1 = true ∧ d.st = true ∧ Jvm.Cond.methodLinkNest (cn e.1) e.2.1 d.y RX3 ∈ nlk))
set_option maxRecDepth 100000 in
theorem sok_0 : ∀ e ∈ sTL_0, SdP e := List.forall_mem_cons.mpr ⟨⟨md_J9_min_7cf53, mt_J9_min_7cf53, Or.inl ⟨rfl, (tm2 141 rfl)⟩⟩, List.forall_mem_cons.mpr ⟨⟨md_J9_max_7cf53, mt_J9_max_7cf53, Or.inl ⟨rfl, (tm2 146 rfl)⟩⟩, List.forall_mem_cons.mpr ⟨⟨md_X0_angelsPart, mt_X0_angelsPart, Or.inl ⟨rfl, (tm2 137 rfl)⟩⟩, List.forall_mem_cons.mpr ⟨⟨md_X0_strengthIn, mt_X0_strengthIn, Or.inl ⟨rfl, (tm2 142 rfl)⟩⟩, List.forall_mem_cons.mpr ⟨⟨md_X0_sentBackIn, mt_X0_sentBackIn, Or.inl ⟨rfl, (tm2 147 rfl)⟩⟩, List.forall_mem_cons.mpr ⟨⟨md_X1_at, mt_X1_at, Or.inl ⟨rfl, (tm1 174 rfl)⟩⟩, List.forall_mem_cons.mpr ⟨⟨md_J0_indexOf_0f7a4, mt_J0_indexOf_0f7a4, Or.inl ⟨rfl, (tm1 234 rfl)⟩⟩, List.forall_mem_cons.mpr ⟨⟨md_J0_length_8abf5, mt_J0_length_8abf5, Or.inl ⟨rfl, (tm1 164 rfl)⟩⟩, List.forall_mem_cons.mpr ⟨⟨md_X1_shapeOf, mt_X1_shapeOf, Or.inl ⟨rfl, (tm1 178 rfl)⟩⟩, List.forall_mem_cons.mpr ⟨⟨md_J0_charAt_5068e, mt_J0_charAt_5068e, Or.inl ⟨rfl, (tm1 187 rfl)⟩⟩, List.forall_mem_cons.mpr ⟨⟨md_X1_fits, mt_X1_fits, Or.inl ⟨rfl, (tm1 225 rfl)⟩⟩, List.forall_mem_cons.mpr ⟨⟨md_X1_kind, mt_X1_kind, Or.inl ⟨rfl, (tm1 229 rfl)⟩⟩, List.forall_mem_cons.mpr ⟨⟨md_X2_at, mt_X2_at, Or.inl ⟨rfl, (tm2 57 rfl)⟩⟩, List.forall_mem_cons.mpr ⟨⟨md_X0_become, mt_X0_become, Or.inl ⟨rfl, (tm2 61 rfl)⟩⟩, List.forall_mem_cons.mpr ⟨⟨md_X3_rangeFault, mt_X3_rangeFault, Or.inr ⟨rfl, rfl, List.mem_of_getElem? (i := 0) rfl⟩⟩, List.forall_mem_cons.mpr ⟨⟨md_X3_firstOf, mt_X3_firstOf, Or.inr ⟨rfl, rfl, List.mem_of_getElem? (i := 1) rfl⟩⟩, List.forall_mem_cons.mpr ⟨⟨md_X3_whatFault, mt_X3_whatFault, Or.inr ⟨rfl, rfl, List.mem_of_getElem? (i := 2) rfl⟩⟩, List.forall_mem_cons.mpr ⟨⟨md_X3_leastChoice, mt_X3_leastChoice, Or.inr ⟨rfl, rfl, List.mem_of_getElem? (i := 3) rfl⟩⟩, List.forall_mem_cons.mpr ⟨⟨md_X3_mostChoice, mt_X3_mostChoice, Or.inr ⟨rfl, rfl, List.mem_of_getElem? (i := 4) rfl⟩⟩, List.forall_mem_cons.mpr ⟨⟨md_X2_caskFault, mt_X2_caskFault, Or.inl ⟨rfl, (tm2 112 rfl)⟩⟩, List.forall_mem_cons.mpr ⟨⟨md_X2_pourFault, mt_X2_pourFault, Or.inl ⟨rfl, (tm2 108 rfl)⟩⟩, List.forall_mem_cons.mpr ⟨⟨md_X2_pouredStrength, mt_X2_pouredStrength, Or.inl ⟨rfl, (tm2 116 rfl)⟩⟩, List.forall_mem_cons.mpr ⟨⟨md_X0_worth, mt_X0_worth, Or.inl ⟨rfl, (tm3 43 rfl)⟩⟩, List.forall_mem_cons.mpr ⟨⟨md_J9_min_7cf53, mt_J9_min_7cf53, Or.inl ⟨rfl, (tm2 132 rfl)⟩⟩, fun _ h => absurd h List.not_mem_nil⟩⟩⟩⟩⟩⟩⟩⟩⟩⟩⟩⟩⟩⟩⟩⟩⟩⟩⟩⟩⟩⟩⟩⟩
set_option maxRecDepth 100000 in
theorem sok_1 : ∀ e ∈ sTL_1, SdP e := List.forall_mem_cons.mpr ⟨⟨md_X2_rateBy, mt_X2_rateBy, Or.inl ⟨rfl, (tm2 128 rfl)⟩⟩, List.forall_mem_cons.mpr ⟨⟨md_X0_goOn, mt_X0_goOn, Or.inl ⟨rfl, (tm2 133 rfl)⟩⟩, List.forall_mem_cons.mpr ⟨⟨md_X2_goOn, mt_X2_goOn, Or.inl ⟨rfl, (tm2 124 rfl)⟩⟩, List.forall_mem_cons.mpr ⟨⟨md_X2_dutyOf, mt_X2_dutyOf, Or.inl ⟨rfl, (tm3 4 rfl)⟩⟩, List.forall_mem_cons.mpr ⟨⟨md_X3_rangeFault, mt_X3_rangeFault, Or.inl ⟨rfl, (tm1 136 rfl)⟩⟩, List.forall_mem_cons.mpr ⟨⟨md_X1_isFull, mt_X1_isFull, Or.inl ⟨rfl, (tm1 139 rfl)⟩⟩, List.forall_mem_cons.mpr ⟨⟨md_X1_add, mt_X1_add, Or.inl ⟨rfl, (tm1 143 rfl)⟩⟩, List.forall_mem_cons.mpr ⟨⟨md_X3_refuse, mt_X3_refuse, Or.inl ⟨rfl, (tm1 147 rfl)⟩⟩, List.forall_mem_cons.mpr ⟨⟨md_X3_readLetters, mt_X3_readLetters, Or.inl ⟨rfl, (tm1 155 rfl)⟩⟩, List.forall_mem_cons.mpr ⟨⟨md_X1_forget, mt_X1_forget, Or.inl ⟨rfl, (tm2 151 rfl)⟩⟩, List.forall_mem_cons.mpr ⟨⟨md_X2_caskFault, mt_X2_caskFault, Or.inl ⟨rfl, (tm2 160 rfl)⟩⟩, List.forall_mem_cons.mpr ⟨⟨md_X3_whatFault, mt_X3_whatFault, Or.inl ⟨rfl, (tm2 161 rfl)⟩⟩, List.forall_mem_cons.mpr ⟨⟨md_X3_firstOf, mt_X3_firstOf, Or.inl ⟨rfl, (tm2 162 rfl)⟩⟩, List.forall_mem_cons.mpr ⟨⟨md_X2_at, mt_X2_at, Or.inl ⟨rfl, (tm2 163 rfl)⟩⟩, List.forall_mem_cons.mpr ⟨⟨md_X2_chosen, mt_X2_chosen, Or.inl ⟨rfl, (tm2 168 rfl)⟩⟩, List.forall_mem_cons.mpr ⟨⟨md_X2_choose, mt_X2_choose, Or.inl ⟨rfl, (tm2 87 rfl)⟩⟩, List.forall_mem_cons.mpr ⟨⟨md_X0_angelsPart, mt_X0_angelsPart, Or.inl ⟨rfl, (tm2 180 rfl)⟩⟩, List.forall_mem_cons.mpr ⟨⟨md_X2_pourOver, mt_X2_pourOver, Or.inl ⟨rfl, (tm2 104 rfl)⟩⟩, List.forall_mem_cons.mpr ⟨⟨md_X2_liveOn, mt_X2_liveOn, Or.inl ⟨rfl, (tm2 120 rfl)⟩⟩, List.forall_mem_cons.mpr ⟨⟨md_X3_yearsFault, mt_X3_yearsFault, Or.inl ⟨rfl, (tm2 193 rfl)⟩⟩, List.forall_mem_cons.mpr ⟨⟨md_X3_thinkOn, mt_X3_thinkOn, Or.inl ⟨rfl, (tm2 196 rfl)⟩⟩, List.forall_mem_cons.mpr ⟨⟨md_X2_allAmounts, mt_X2_allAmounts, Or.inl ⟨rfl, (tm2 205 rfl)⟩⟩, List.forall_mem_cons.mpr ⟨⟨md_X2_allTaken, mt_X2_allTaken, Or.inl ⟨rfl, (tm2 209 rfl)⟩⟩, List.forall_mem_cons.mpr ⟨⟨md_X2_fullest, mt_X2_fullest, Or.inl ⟨rfl, (tm2 213 rfl)⟩⟩, fun _ h => absurd h List.not_mem_nil⟩⟩⟩⟩⟩⟩⟩⟩⟩⟩⟩⟩⟩⟩⟩⟩⟩⟩⟩⟩⟩⟩⟩⟩
set_option maxRecDepth 100000 in
theorem sok_2 : ∀ e ∈ sTL_2, SdP e := List.forall_mem_cons.mpr ⟨⟨md_X3_caskOrAllFault, mt_X3_caskOrAllFault, Or.inl ⟨rfl, (tm2 221 rfl)⟩⟩, List.forall_mem_cons.mpr ⟨⟨md_X3_refuseLong, mt_X3_refuseLong, Or.inl ⟨rfl, (tm2 225 rfl)⟩⟩, List.forall_mem_cons.mpr ⟨⟨md_X3_partOf, mt_X3_partOf, Or.inl ⟨rfl, (tm2 230 rfl)⟩⟩, List.forall_mem_cons.mpr ⟨⟨md_X2_dutyOfAll, mt_X2_dutyOfAll, Or.inl ⟨rfl, (tm3 0 rfl)⟩⟩, List.forall_mem_cons.mpr ⟨⟨md_X2_dutyOf, mt_X2_dutyOf, Or.inl ⟨rfl, (tm3 8 rfl)⟩⟩, List.forall_mem_cons.mpr ⟨⟨md_X2_become, mt_X2_become, Or.inl ⟨rfl, (tm2 53 rfl)⟩⟩, List.forall_mem_cons.mpr ⟨⟨md_X2_goOn, mt_X2_goOn, Or.inl ⟨rfl, (tm2 200 rfl)⟩⟩, List.forall_mem_cons.mpr ⟨⟨md_X0_isHalfTheirs, mt_X0_isHalfTheirs, Or.inl ⟨rfl, (tm3 25 rfl)⟩⟩, List.forall_mem_cons.mpr ⟨⟨md_X2_pourFault, mt_X2_pourFault, Or.inl ⟨rfl, (tm3 33 rfl)⟩⟩, List.forall_mem_cons.mpr ⟨⟨md_X2_pouredStrength, mt_X2_pouredStrength, Or.inl ⟨rfl, (tm3 34 rfl)⟩⟩, List.forall_mem_cons.mpr ⟨⟨md_X2_blended, mt_X2_blended, Or.inl ⟨rfl, (tm3 39 rfl)⟩⟩, List.forall_mem_cons.mpr ⟨⟨md_J9_abs_0f7a4, mt_J9_abs_0f7a4, Or.inl ⟨rfl, (tm3 47 rfl)⟩⟩, List.forall_mem_cons.mpr ⟨⟨md_J9_min_7cf53, mt_J9_min_7cf53, Or.inl ⟨rfl, (tm3 54 rfl)⟩⟩, List.forall_mem_cons.mpr ⟨⟨md_J9_max_7cf53, mt_J9_max_7cf53, Or.inl ⟨rfl, (tm3 55 rfl)⟩⟩, List.forall_mem_cons.mpr ⟨⟨md_X0_worth, mt_X0_worth, Or.inl ⟨rfl, (tm3 60 rfl)⟩⟩, List.forall_mem_cons.mpr ⟨⟨md_X3_keepsLess, mt_X3_keepsLess, Or.inl ⟨rfl, (tm3 65 rfl)⟩⟩, List.forall_mem_cons.mpr ⟨⟨md_X3_bothKeep, mt_X3_bothKeep, Or.inl ⟨rfl, (tm3 73 rfl)⟩⟩, List.forall_mem_cons.mpr ⟨⟨md_X3_leastChoice, mt_X3_leastChoice, Or.inl ⟨rfl, (tm3 85 rfl)⟩⟩, List.forall_mem_cons.mpr ⟨⟨md_X3_mostChoice, mt_X3_mostChoice, Or.inl ⟨rfl, (tm3 86 rfl)⟩⟩, List.forall_mem_cons.mpr ⟨⟨md_X3_kindsByRow, mt_X3_kindsByRow, Or.inl ⟨rfl, (tm3 99 rfl)⟩⟩, List.forall_mem_cons.mpr ⟨⟨md_X3_ratesByRow, mt_X3_ratesByRow, Or.inl ⟨rfl, (tm3 107 rfl)⟩⟩, List.forall_mem_cons.mpr ⟨⟨md_X3_firstNotSo, mt_X3_firstNotSo, Or.inl ⟨rfl, (tm3 103 rfl)⟩⟩, List.forall_mem_cons.mpr ⟨⟨md_X3_chanceFault, mt_X3_chanceFault, Or.inl ⟨rfl, (tm3 119 rfl)⟩⟩, List.forall_mem_cons.mpr ⟨⟨md_X3_amountByLents, mt_X3_amountByLents, Or.inl ⟨rfl, (tm3 122 rfl)⟩⟩, fun _ h => absurd h List.not_mem_nil⟩⟩⟩⟩⟩⟩⟩⟩⟩⟩⟩⟩⟩⟩⟩⟩⟩⟩⟩⟩⟩⟩⟩⟩
set_option maxRecDepth 100000 in
theorem sok_3 : ∀ e ∈ sTL_3, SdP e := List.forall_mem_cons.mpr ⟨⟨md_J6_bitCount_0f7a4, mt_J6_bitCount_0f7a4, Or.inl ⟨rfl, (tm3 129 rfl)⟩⟩, List.forall_mem_cons.mpr ⟨⟨md_X3_power, mt_X3_power, Or.inl ⟨rfl, (tm3 135 rfl)⟩⟩, List.forall_mem_cons.mpr ⟨⟨md_X3_nextSeed, mt_X3_nextSeed, Or.inl ⟨rfl, (tm3 142 rfl)⟩⟩, List.forall_mem_cons.mpr ⟨⟨md_X3_drawn, mt_X3_drawn, Or.inl ⟨rfl, (tm3 147 rfl)⟩⟩, List.forall_mem_cons.mpr ⟨⟨md_X3_refused, mt_X3_refused, Or.inl ⟨rfl, (tm3 163 rfl)⟩⟩, List.forall_mem_cons.mpr ⟨⟨md_X1_firstWrong, mt_X1_firstWrong, Or.inl ⟨rfl, (tm1 159 rfl)⟩⟩, List.forall_mem_cons.mpr ⟨⟨md_X1_at, mt_X1_at, Or.inl ⟨rfl, (tm2 65 rfl)⟩⟩, List.forall_mem_cons.mpr ⟨⟨md_X3_statementFault, mt_X3_statementFault, Or.inl ⟨rfl, (tm2 66 rfl)⟩⟩, List.forall_mem_cons.mpr ⟨⟨md_X3_caskComes, mt_X3_caskComes, Or.inl ⟨rfl, (tm2 70 rfl)⟩⟩, List.forall_mem_cons.mpr ⟨⟨md_X1_number, mt_X1_number, Or.inl ⟨rfl, (tm2 75 rfl)⟩⟩, List.forall_mem_cons.mpr ⟨⟨md_X3_pourComes, mt_X3_pourComes, Or.inl ⟨rfl, (tm2 100 rfl)⟩⟩, List.forall_mem_cons.mpr ⟨⟨md_X1_kind, mt_X1_kind, Or.inl ⟨rfl, (tm2 74 rfl)⟩⟩, List.forall_mem_cons.mpr ⟨⟨md_X2_addCask, mt_X2_addCask, Or.inl ⟨rfl, (tm2 79 rfl)⟩⟩, List.forall_mem_cons.mpr ⟨⟨md_X3_thinkTreaty, mt_X3_thinkTreaty, Or.inl ⟨rfl, (tm3 77 rfl)⟩⟩, List.forall_mem_cons.mpr ⟨⟨md_X0_become, mt_X0_become, Or.inl ⟨rfl, (tm3 126 rfl)⟩⟩, List.forall_mem_cons.mpr ⟨⟨md_X2_rateBy, mt_X2_rateBy, Or.inl ⟨rfl, (tm3 127 rfl)⟩⟩, List.forall_mem_cons.mpr ⟨⟨md_X0_goOn, mt_X0_goOn, Or.inl ⟨rfl, (tm3 128 rfl)⟩⟩, List.forall_mem_cons.mpr ⟨⟨md_X3_commonDivisor, mt_X3_commonDivisor, Or.inl ⟨rfl, (tm2 233 rfl)⟩⟩, List.forall_mem_cons.mpr ⟨⟨md_X4_no, mt_X4_no, Or.inl ⟨rfl, (tm3 223 rfl)⟩⟩, List.forall_mem_cons.mpr ⟨⟨md_X4_isIn, mt_X4_isIn, Or.inl ⟨rfl, (tm4 10 rfl)⟩⟩, List.forall_mem_cons.mpr ⟨⟨md_X4_at, mt_X4_at, Or.inl ⟨rfl, (tm4 20 rfl)⟩⟩, List.forall_mem_cons.mpr ⟨⟨md_X4_least, mt_X4_least, Or.inl ⟨rfl, (tm4 51 rfl)⟩⟩, List.forall_mem_cons.mpr ⟨⟨md_X4_takesOf, mt_X4_takesOf, Or.inl ⟨rfl, (tm4 54 rfl)⟩⟩, List.forall_mem_cons.mpr ⟨⟨md_X4_strengthOf, mt_X4_strengthOf, Or.inl ⟨rfl, (tm4 57 rfl)⟩⟩, fun _ h => absurd h List.not_mem_nil⟩⟩⟩⟩⟩⟩⟩⟩⟩⟩⟩⟩⟩⟩⟩⟩⟩⟩⟩⟩⟩⟩⟩⟩
set_option maxRecDepth 100000 in
theorem sok_4 : ∀ e ∈ sTL_4, SdP e := List.forall_mem_cons.mpr ⟨⟨md_X4_backOf, mt_X4_backOf, Or.inl ⟨rfl, (tm4 60 rfl)⟩⟩, List.forall_mem_cons.mpr ⟨⟨md_X4_yearBy, mt_X4_yearBy, Or.inl ⟨rfl, (tm4 47 rfl)⟩⟩, List.forall_mem_cons.mpr ⟨⟨md_X4_year, mt_X4_year, Or.inl ⟨rfl, (tm4 43 rfl)⟩⟩, List.forall_mem_cons.mpr ⟨⟨md_X4_lays, mt_X4_lays, Or.inl ⟨rfl, (tm4 13 rfl)⟩⟩, List.forall_mem_cons.mpr ⟨⟨md_X4_yearsOn, mt_X4_yearsOn, Or.inl ⟨rfl, (tm4 39 rfl)⟩⟩, List.forall_mem_cons.mpr ⟨⟨md_X4_here, mt_X4_here, Or.inl ⟨rfl, (tm3 235 rfl)⟩⟩, List.forall_mem_cons.mpr ⟨⟨md_X4_kindOf, mt_X4_kindOf, Or.inl ⟨rfl, (tm4 3 rfl)⟩⟩, List.forall_mem_cons.mpr ⟨⟨md_X4_readsKind, mt_X4_readsKind, Or.inl ⟨rfl, (tm3 239 rfl)⟩⟩, List.forall_mem_cons.mpr ⟨⟨md_X4_readsNumber, mt_X4_readsNumber, Or.inl ⟨rfl, (tm4 6 rfl)⟩⟩, List.forall_mem_cons.mpr ⟨⟨md_X4_mixed, mt_X4_mixed, Or.inl ⟨rfl, (tm4 35 rfl)⟩⟩, List.forall_mem_cons.mpr ⟨⟨md_X4_isCask, mt_X4_isCask, Or.inl ⟨rfl, (tm4 23 rfl)⟩⟩, List.forall_mem_cons.mpr ⟨⟨md_X4_canPour, mt_X4_canPour, Or.inl ⟨rfl, (tm4 27 rfl)⟩⟩, List.forall_mem_cons.mpr ⟨⟨md_X4_pours, mt_X4_pours, Or.inl ⟨rfl, (tm4 31 rfl)⟩⟩, List.forall_mem_cons.mpr ⟨⟨md_X4_readsStatement, mt_X4_readsStatement, Or.inl ⟨rfl, (tm3 231 rfl)⟩⟩, List.forall_mem_cons.mpr ⟨⟨md_X4_isDone, mt_X4_isDone, Or.inl ⟨rfl, (tm4 16 rfl)⟩⟩, List.forall_mem_cons.mpr ⟨⟨md_X4_wrongYears, mt_X4_wrongYears, Or.inl ⟨rfl, (tm4 91 rfl)⟩⟩, List.forall_mem_cons.mpr ⟨⟨md_X4_inMind, mt_X4_inMind, Or.inl ⟨rfl, (tm4 94 rfl)⟩⟩, List.forall_mem_cons.mpr ⟨⟨md_X4_sumOf, mt_X4_sumOf, Or.inl ⟨rfl, (tm4 102 rfl)⟩⟩, List.forall_mem_cons.mpr ⟨⟨md_X4_gcd, mt_X4_gcd, Or.inl ⟨rfl, (tm4 117 rfl)⟩⟩, List.forall_mem_cons.mpr ⟨⟨md_X4_noWide, mt_X4_noWide, Or.inl ⟨rfl, (tm4 109 rfl)⟩⟩, List.forall_mem_cons.mpr ⟨⟨md_X4_partOf, mt_X4_partOf, Or.inl ⟨rfl, (tm4 114 rfl)⟩⟩, List.forall_mem_cons.mpr ⟨⟨md_X4_exciseOf, mt_X4_exciseOf, Or.inl ⟨rfl, (tm4 127 rfl)⟩⟩, List.forall_mem_cons.mpr ⟨⟨md_X4_exciseAll, mt_X4_exciseAll, Or.inl ⟨rfl, (tm4 124 rfl)⟩⟩, List.forall_mem_cons.mpr ⟨⟨md_X4_size, mt_X4_size, Or.inl ⟨rfl, (tm4 155 rfl)⟩⟩, fun _ h => absurd h List.not_mem_nil⟩⟩⟩⟩⟩⟩⟩⟩⟩⟩⟩⟩⟩⟩⟩⟩⟩⟩⟩⟩⟩⟩⟩⟩
set_option maxRecDepth 100000 in
theorem sok_5 : ∀ e ∈ sTL_5, SdP e := List.forall_mem_cons.mpr ⟨⟨md_X4_worthOf, mt_X4_worthOf, Or.inl ⟨rfl, (tm4 166 rfl)⟩⟩, List.forall_mem_cons.mpr ⟨⟨md_X4_byTreaty, mt_X4_byTreaty, Or.inl ⟨rfl, (tm4 177 rfl)⟩⟩, List.forall_mem_cons.mpr ⟨⟨md_X4_firstWrong, mt_X4_firstWrong, Or.inl ⟨rfl, (tm4 198 rfl)⟩⟩, List.forall_mem_cons.mpr ⟨⟨md_X4_drawn, mt_X4_drawn, Or.inl ⟨rfl, (tm4 214 rfl)⟩⟩, List.forall_mem_cons.mpr ⟨⟨md_X3_letter, mt_X3_letter, Or.inl ⟨rfl, (tm1 132 rfl)⟩⟩, List.forall_mem_cons.mpr ⟨⟨md_X4_letter, mt_X4_letter, Or.inl ⟨rfl, (tm3 219 rfl)⟩⟩, List.forall_mem_cons.mpr ⟨⟨md_X3_town, mt_X3_town, Or.inl ⟨rfl, (tm1 151 rfl)⟩⟩, List.forall_mem_cons.mpr ⟨⟨md_X4_town, mt_X4_town, Or.inl ⟨rfl, (tm3 227 rfl)⟩⟩, List.forall_mem_cons.mpr ⟨⟨md_X3_cask, mt_X3_cask, Or.inl ⟨rfl, (tm2 156 rfl)⟩⟩, List.forall_mem_cons.mpr ⟨⟨md_X4_cask, mt_X4_cask, Or.inl ⟨rfl, (tm4 63 rfl)⟩⟩, List.forall_mem_cons.mpr ⟨⟨md_X3_set, mt_X3_set, Or.inl ⟨rfl, (tm2 164 rfl)⟩⟩, List.forall_mem_cons.mpr ⟨⟨md_X4_set, mt_X4_set, Or.inl ⟨rfl, (tm4 67 rfl)⟩⟩, List.forall_mem_cons.mpr ⟨⟨md_X3_fill, mt_X3_fill, Or.inl ⟨rfl, (tm2 172 rfl)⟩⟩, List.forall_mem_cons.mpr ⟨⟨md_X4_fill, mt_X4_fill, Or.inl ⟨rfl, (tm4 71 rfl)⟩⟩, List.forall_mem_cons.mpr ⟨⟨md_X3_takes, mt_X3_takes, Or.inl ⟨rfl, (tm2 176 rfl)⟩⟩, List.forall_mem_cons.mpr ⟨⟨md_X4_takes, mt_X4_takes, Or.inl ⟨rfl, (tm4 75 rfl)⟩⟩, List.forall_mem_cons.mpr ⟨⟨md_X3_pour, mt_X3_pour, Or.inl ⟨rfl, (tm2 181 rfl)⟩⟩, List.forall_mem_cons.mpr ⟨⟨md_X4_pour, mt_X4_pour, Or.inl ⟨rfl, (tm4 79 rfl)⟩⟩, List.forall_mem_cons.mpr ⟨⟨md_X3_years, mt_X3_years, Or.inl ⟨rfl, (tm2 185 rfl)⟩⟩, List.forall_mem_cons.mpr ⟨⟨md_X4_years, mt_X4_years, Or.inl ⟨rfl, (tm4 83 rfl)⟩⟩, List.forall_mem_cons.mpr ⟨⟨md_X3_behind, mt_X3_behind, Or.inl ⟨rfl, (tm2 189 rfl)⟩⟩, List.forall_mem_cons.mpr ⟨⟨md_X4_behind, mt_X4_behind, Or.inl ⟨rfl, (tm4 87 rfl)⟩⟩, List.forall_mem_cons.mpr ⟨⟨md_X3_allBehind, mt_X3_allBehind, Or.inl ⟨rfl, (tm2 201 rfl)⟩⟩, List.forall_mem_cons.mpr ⟨⟨md_X4_allBehind, mt_X4_allBehind, Or.inl ⟨rfl, (tm4 98 rfl)⟩⟩, fun _ h => absurd h List.not_mem_nil⟩⟩⟩⟩⟩⟩⟩⟩⟩⟩⟩⟩⟩⟩⟩⟩⟩⟩⟩⟩⟩⟩⟩⟩
set_option maxRecDepth 100000 in
theorem sok_6 : ∀ e ∈ sTL_6, SdP e := List.forall_mem_cons.mpr ⟨⟨md_X3_theirs, mt_X3_theirs, Or.inl ⟨rfl, (tm2 217 rfl)⟩⟩, List.forall_mem_cons.mpr ⟨⟨md_X4_theirs, mt_X4_theirs, Or.inl ⟨rfl, (tm4 105 rfl)⟩⟩, List.forall_mem_cons.mpr ⟨⟨md_X3_excise, mt_X3_excise, Or.inl ⟨rfl, (tm2 236 rfl)⟩⟩, List.forall_mem_cons.mpr ⟨⟨md_X4_excise, mt_X4_excise, Or.inl ⟨rfl, (tm4 120 rfl)⟩⟩, List.forall_mem_cons.mpr ⟨⟨md_X3_exciseIn, mt_X3_exciseIn, Or.inl ⟨rfl, (tm3 9 rfl)⟩⟩, List.forall_mem_cons.mpr ⟨⟨md_X4_exciseIn, mt_X4_exciseIn, Or.inl ⟨rfl, (tm4 130 rfl)⟩⟩, List.forall_mem_cons.mpr ⟨⟨md_X3_low, mt_X3_low, Or.inl ⟨rfl, (tm3 13 rfl)⟩⟩, List.forall_mem_cons.mpr ⟨⟨md_X4_low, mt_X4_low, Or.inl ⟨rfl, (tm4 134 rfl)⟩⟩, List.forall_mem_cons.mpr ⟨⟨md_X3_turns, mt_X3_turns, Or.inl ⟨rfl, (tm3 17 rfl)⟩⟩, List.forall_mem_cons.mpr ⟨⟨md_X4_turns, mt_X4_turns, Or.inl ⟨rfl, (tm4 138 rfl)⟩⟩, List.forall_mem_cons.mpr ⟨⟨md_X3_hum, mt_X3_hum, Or.inl ⟨rfl, (tm3 21 rfl)⟩⟩, List.forall_mem_cons.mpr ⟨⟨md_X4_hum, mt_X4_hum, Or.inl ⟨rfl, (tm4 142 rfl)⟩⟩, List.forall_mem_cons.mpr ⟨⟨md_X3_pourFor, mt_X3_pourFor, Or.inl ⟨rfl, (tm3 29 rfl)⟩⟩, List.forall_mem_cons.mpr ⟨⟨md_X4_pourFor, mt_X4_pourFor, Or.inl ⟨rfl, (tm4 146 rfl)⟩⟩, List.forall_mem_cons.mpr ⟨⟨md_X3_blend, mt_X3_blend, Or.inl ⟨rfl, (tm3 35 rfl)⟩⟩, List.forall_mem_cons.mpr ⟨⟨md_X4_blend, mt_X4_blend, Or.inl ⟨rfl, (tm4 150 rfl)⟩⟩, List.forall_mem_cons.mpr ⟨⟨md_X3_spread, mt_X3_spread, Or.inl ⟨rfl, (tm3 50 rfl)⟩⟩, List.forall_mem_cons.mpr ⟨⟨md_X4_spread, mt_X4_spread, Or.inl ⟨rfl, (tm4 158 rfl)⟩⟩, List.forall_mem_cons.mpr ⟨⟨md_X3_layDown, mt_X3_layDown, Or.inl ⟨rfl, (tm3 56 rfl)⟩⟩, List.forall_mem_cons.mpr ⟨⟨md_X4_layDown, mt_X4_layDown, Or.inl ⟨rfl, (tm4 162 rfl)⟩⟩, List.forall_mem_cons.mpr ⟨⟨md_X3_sell, mt_X3_sell, Or.inl ⟨rfl, (tm3 61 rfl)⟩⟩, List.forall_mem_cons.mpr ⟨⟨md_X4_sell, mt_X4_sell, Or.inl ⟨rfl, (tm4 169 rfl)⟩⟩, List.forall_mem_cons.mpr ⟨⟨md_X3_treaty, mt_X3_treaty, Or.inl ⟨rfl, (tm3 69 rfl)⟩⟩, List.forall_mem_cons.mpr ⟨⟨md_X4_treaty, mt_X4_treaty, Or.inl ⟨rfl, (tm4 173 rfl)⟩⟩, fun _ h => absurd h List.not_mem_nil⟩⟩⟩⟩⟩⟩⟩⟩⟩⟩⟩⟩⟩⟩⟩⟩⟩⟩⟩⟩⟩⟩⟩⟩
set_option maxRecDepth 100000 in
theorem sok_7 : ∀ e ∈ sTL_7, SdP e := List.forall_mem_cons.mpr ⟨⟨md_X3_bestSet, mt_X3_bestSet, Or.inl ⟨rfl, (tm3 81 rfl)⟩⟩, List.forall_mem_cons.mpr ⟨⟨md_X4_bestSet, mt_X4_bestSet, Or.inl ⟨rfl, (tm4 181 rfl)⟩⟩, List.forall_mem_cons.mpr ⟨⟨md_X3_iron, mt_X3_iron, Or.inl ⟨rfl, (tm3 87 rfl)⟩⟩, List.forall_mem_cons.mpr ⟨⟨md_X4_iron, mt_X4_iron, Or.inl ⟨rfl, (tm4 186 rfl)⟩⟩, List.forall_mem_cons.mpr ⟨⟨md_X3_row, mt_X3_row, Or.inl ⟨rfl, (tm3 91 rfl)⟩⟩, List.forall_mem_cons.mpr ⟨⟨md_X4_row, mt_X4_row, Or.inl ⟨rfl, (tm4 190 rfl)⟩⟩, List.forall_mem_cons.mpr ⟨⟨md_X3_which, mt_X3_which, Or.inl ⟨rfl, (tm3 95 rfl)⟩⟩, List.forall_mem_cons.mpr ⟨⟨md_X4_which, mt_X4_which, Or.inl ⟨rfl, (tm4 194 rfl)⟩⟩, List.forall_mem_cons.mpr ⟨⟨md_X3_judge, mt_X3_judge, Or.inl ⟨rfl, (tm3 111 rfl)⟩⟩, List.forall_mem_cons.mpr ⟨⟨md_X4_judge, mt_X4_judge, Or.inl ⟨rfl, (tm4 202 rfl)⟩⟩, List.forall_mem_cons.mpr ⟨⟨md_X3_chance, mt_X3_chance, Or.inl ⟨rfl, (tm3 115 rfl)⟩⟩, List.forall_mem_cons.mpr ⟨⟨md_X4_chance, mt_X4_chance, Or.inl ⟨rfl, (tm4 206 rfl)⟩⟩, List.forall_mem_cons.mpr ⟨⟨md_X3_lots, mt_X3_lots, Or.inl ⟨rfl, (tm3 138 rfl)⟩⟩, List.forall_mem_cons.mpr ⟨⟨md_X4_lots, mt_X4_lots, Or.inl ⟨rfl, (tm4 210 rfl)⟩⟩, List.forall_mem_cons.mpr ⟨⟨md_X3_image, mt_X3_image, Or.inl ⟨rfl, (tm3 151 rfl)⟩⟩, List.forall_mem_cons.mpr ⟨⟨md_X4_image, mt_X4_image, Or.inl ⟨rfl, (tm4 221 rfl)⟩⟩, List.forall_mem_cons.mpr ⟨⟨md_X3_on, mt_X3_on, Or.inl ⟨rfl, (tm3 155 rfl)⟩⟩, List.forall_mem_cons.mpr ⟨⟨md_X4_on, mt_X4_on, Or.inl ⟨rfl, (tm4 225 rfl)⟩⟩, List.forall_mem_cons.mpr ⟨⟨md_X3_count, mt_X3_count, Or.inl ⟨rfl, (tm3 159 rfl)⟩⟩, List.forall_mem_cons.mpr ⟨⟨md_X4_count, mt_X4_count, Or.inl ⟨rfl, (tm4 229 rfl)⟩⟩, List.forall_mem_cons.mpr ⟨⟨md_J0_coder_7d493, mt_J0_coder_7d493, Or.inl ⟨rfl, (tm1 168 rfl)⟩⟩, List.forall_mem_cons.mpr ⟨⟨md_J0_isLatin1_aae02, mt_J0_isLatin1_aae02, Or.inl ⟨rfl, (tm1 191 rfl)⟩⟩, List.forall_mem_cons.mpr ⟨⟨md_J1_charAt_3b067, mt_J1_charAt_3b067, Or.inl ⟨rfl, (tm1 195 rfl)⟩⟩, List.forall_mem_cons.mpr ⟨⟨md_J0_length_8abf5, mt_J0_length_8abf5, Or.inl ⟨rfl, (tm2 2 rfl)⟩⟩, fun _ h => absurd h List.not_mem_nil⟩⟩⟩⟩⟩⟩⟩⟩⟩⟩⟩⟩⟩⟩⟩⟩⟩⟩⟩⟩⟩⟩⟩⟩
set_option maxRecDepth 100000 in
theorem sok_8 : ∀ e ∈ sTL_8, SdP e := List.forall_mem_cons.mpr ⟨⟨md_J0_indexOf_7cf53, mt_J0_indexOf_7cf53, Or.inl ⟨rfl, (tm1 238 rfl)⟩⟩, List.forall_mem_cons.mpr ⟨⟨md_J1_indexOf_4cfef, mt_J1_indexOf_4cfef, Or.inl ⟨rfl, (tm2 3 rfl)⟩⟩, List.forall_mem_cons.mpr ⟨⟨md_J3_checkIndex_8e157, mt_J3_checkIndex_8e157, Or.inl ⟨rfl, (tm1 203 rfl)⟩⟩, List.forall_mem_cons.mpr ⟨⟨md_J0_checkIndex_df160, mt_J0_checkIndex_df160, Or.inl ⟨rfl, (tm1 198 rfl)⟩⟩, List.forall_mem_cons.mpr ⟨⟨md_J9_min_7cf53, mt_J9_min_7cf53, Or.inl ⟨rfl, (tm2 12 rfl)⟩⟩, List.forall_mem_cons.mpr ⟨⟨md_J1_canEncode_9a6ad, mt_J1_canEncode_9a6ad, Or.inl ⟨rfl, (tm2 6 rfl)⟩⟩, List.forall_mem_cons.mpr ⟨⟨md_J9_max_7cf53, mt_J9_max_7cf53, Or.inl ⟨rfl, (tm2 9 rfl)⟩⟩, List.forall_mem_cons.mpr ⟨⟨md_J1_indexOfChar_4cfef, mt_J1_indexOfChar_4cfef, Or.inl ⟨rfl, (tm2 15 rfl)⟩⟩, fun _ h => absurd h List.not_mem_nil⟩⟩⟩⟩⟩⟩⟩⟩
theorem sok : ∀ e ∈ sTL, SdP e := List.forall_mem_append.mpr ⟨sok_0, List.forall_mem_append.mpr ⟨sok_1, List.forall_mem_append.mpr ⟨sok_2, List.forall_mem_append.mpr ⟨sok_3, List.forall_mem_append.mpr ⟨sok_4, List.forall_mem_append.mpr ⟨sok_5, List.forall_mem_append.mpr ⟨sok_6, List.forall_mem_append.mpr ⟨sok_7, sok_8⟩⟩⟩⟩⟩⟩⟩⟩
theorem sq_0_30 : lk2 sTL 0 30 = some (false, 2) := by decide +kernel
theorem sq_0_36 : lk2 sTL 0 36 = some (false, 1) := by decide +kernel
theorem sq_0_39 : lk2 sTL 0 39 = some (false, 17) := by decide +kernel
theorem sq_0_42 : lk2 sTL 0 42 = some (false, 18) := by decide +kernel
theorem sq_0_46 : lk2 sTL 0 46 = some (false, 19) := by decide +kernel
theorem sq_1_19 : lk2 sTL 1 19 = some (false, 26) := by decide +kernel
theorem sq_1_25 : lk2 sTL 1 25 = some (false, 6) := by decide +kernel
theorem sq_1_32 : lk2 sTL 1 32 = some (false, 4) := by decide +kernel
theorem sq_1_35 : lk2 sTL 1 35 = some (false, 31) := by decide +kernel
theorem sq_1_39 : lk2 sTL 1 39 = some (false, 5) := by decide +kernel
theorem sq_1_43 : lk2 sTL 1 43 = some (false, 30) := by decide +kernel
theorem sq_1_47 : lk2 sTL 1 47 = some (false, 27) := by decide +kernel
theorem sq_2_38 : lk2 sTL 2 38 = some (false, 32) := by decide +kernel
theorem sq_2_42 : lk2 sTL 2 42 = some (false, 16) := by decide +kernel
theorem sq_2_46 : lk2 sTL 2 46 = some (true, 86) := by decide +kernel
theorem sq_2_50 : lk2 sTL 2 50 = some (true, 85) := by decide +kernel
theorem sq_2_71 : lk2 sTL 2 71 = some (true, 87) := by decide +kernel
theorem sq_2_75 : lk2 sTL 2 75 = some (true, 91) := by decide +kernel
theorem sq_2_79 : lk2 sTL 2 79 = some (true, 92) := by decide +kernel
theorem sq_2_82 : lk2 sTL 2 82 = some (false, 34) := by decide +kernel
theorem sq_2_85 : lk2 sTL 2 85 = some (false, 38) := by decide +kernel
theorem sq_2_88 : lk2 sTL 2 88 = some (false, 39) := by decide +kernel
theorem sq_2_91 : lk2 sTL 2 91 = some (false, 22) := by decide +kernel
theorem sq_2_95 : lk2 sTL 2 95 = some (false, 2) := by decide +kernel
theorem sq_2_100 : lk2 sTL 2 100 = some (false, 42) := by decide +kernel
theorem sq_2_104 : lk2 sTL 2 104 = some (false, 20) := by decide +kernel
theorem sq_2_108 : lk2 sTL 2 108 = some (false, 43) := by decide +kernel
theorem sq_2_111 : lk2 sTL 2 111 = some (false, 48) := by decide +kernel
theorem sq_3_44 : lk2 sTL 3 44 = some (false, 86) := by decide +kernel
theorem sq_3_48 : lk2 sTL 3 48 = some (false, 23) := by decide +kernel
theorem sq_3_52 : lk2 sTL 3 52 = some (false, 24) := by decide +kernel
theorem sq_3_56 : lk2 sTL 3 56 = some (false, 82) := by decide +kernel
theorem sq_3_59 : lk2 sTL 3 59 = some (false, 93) := by decide +kernel
theorem sq_3_63 : lk2 sTL 3 63 = some (false, 25) := by decide +kernel
theorem sq_3_66 : lk2 sTL 3 66 = some (false, 34) := by decide +kernel
theorem sq_3_69 : lk2 sTL 3 69 = some (false, 87) := by decide +kernel
theorem sq_3_73 : lk2 sTL 3 73 = some (false, 85) := by decide +kernel
theorem sq_3_76 : lk2 sTL 3 76 = some (false, 32) := by decide +kernel
theorem sq_3_100 : lk2 sTL 3 100 = some (false, 36) := by decide +kernel
theorem sq_3_103 : lk2 sTL 3 103 = some (false, 37) := by decide +kernel
theorem sq_3_106 : lk2 sTL 3 106 = some (false, 17) := by decide +kernel
theorem sq_3_109 : lk2 sTL 3 109 = some (false, 40) := by decide +kernel
theorem sq_3_112 : lk2 sTL 3 112 = some (false, 44) := by decide +kernel
theorem sq_3_118 : lk2 sTL 3 118 = some (false, 88) := by decide +kernel
theorem sq_3_121 : lk2 sTL 3 121 = some (false, 97) := by decide +kernel
theorem sq_3_125 : lk2 sTL 3 125 = some (false, 45) := by decide +kernel
theorem sq_3_128 : lk2 sTL 3 128 = some (false, 46) := by decide +kernel
theorem sq_3_131 : lk2 sTL 3 131 = some (false, 47) := by decide +kernel
theorem sq_3_134 : lk2 sTL 3 134 = some (false, 89) := by decide +kernel
theorem sq_3_137 : lk2 sTL 3 137 = some (false, 83) := by decide +kernel
theorem sq_3_141 : lk2 sTL 3 141 = some (false, 108) := by decide +kernel
theorem sq_3_145 : lk2 sTL 3 145 = some (false, 49) := by decide +kernel
theorem sq_3_148 : lk2 sTL 3 148 = some (false, 48) := by decide +kernel
theorem sq_3_151 : lk2 sTL 3 151 = some (false, 33) := by decide +kernel
theorem sq_3_155 : lk2 sTL 3 155 = some (false, 43) := by decide +kernel
theorem sq_3_158 : lk2 sTL 3 158 = some (false, 21) := by decide +kernel
theorem sq_3_164 : lk2 sTL 3 164 = some (false, 38) := by decide +kernel
theorem sq_3_167 : lk2 sTL 3 167 = some (false, 39) := by decide +kernel
theorem sq_3_170 : lk2 sTL 3 170 = some (false, 41) := by decide +kernel
theorem sq_3_173 : lk2 sTL 3 173 = some (false, 0) := by decide +kernel
theorem sq_3_178 : lk2 sTL 3 178 = some (false, 2) := by decide +kernel
theorem sq_3_181 : lk2 sTL 3 181 = some (false, 1) := by decide +kernel
theorem sq_3_184 : lk2 sTL 3 184 = some (false, 22) := by decide +kernel
theorem sq_3_187 : lk2 sTL 3 187 = some (false, 98) := by decide +kernel
theorem sq_3_191 : lk2 sTL 3 191 = some (false, 100) := by decide +kernel
theorem sq_3_195 : lk2 sTL 3 195 = some (false, 91) := by decide +kernel
theorem sq_3_198 : lk2 sTL 3 198 = some (false, 92) := by decide +kernel
theorem sq_3_201 : lk2 sTL 3 201 = some (false, 102) := by decide +kernel
theorem sq_3_204 : lk2 sTL 3 204 = some (false, 103) := by decide +kernel
theorem sq_3_207 : lk2 sTL 3 207 = some (false, 101) := by decide +kernel
theorem sq_3_210 : lk2 sTL 3 210 = some (false, 90) := by decide +kernel
theorem sq_3_213 : lk2 sTL 3 213 = some (false, 104) := by decide +kernel
theorem sq_3_216 : lk2 sTL 3 216 = some (false, 3) := by decide +kernel
theorem sq_3_221 : lk2 sTL 3 221 = some (false, 107) := by decide +kernel
theorem sq_3_225 : lk2 sTL 3 225 = some (false, 105) := by decide +kernel
theorem sq_3_228 : lk2 sTL 3 228 = some (false, 106) := by decide +kernel
theorem sq_3_243 : lk2 sTL 3 243 = some (false, 84) := by decide +kernel
theorem sq_3_248 : lk2 sTL 3 248 = some (false, 29) := by decide +kernel
theorem sq_3_251 : lk2 sTL 3 251 = some (false, 26) := by decide +kernel
theorem sq_3_253 : lk2 sTL 3 253 = some (false, 94) := by decide +kernel
theorem sq_3_256 : lk2 sTL 3 256 = some (false, 95) := by decide +kernel
theorem sq_3_259 : lk2 sTL 3 259 = some (false, 28) := by decide +kernel
theorem sq_3_262 : lk2 sTL 3 262 = some (false, 96) := by decide +kernel
theorem sq_3_265 : lk2 sTL 3 265 = some (false, 27) := by decide +kernel
theorem sq_3_267 : lk2 sTL 3 267 = some (false, 35) := by decide +kernel
theorem sq_3_271 : lk2 sTL 3 271 = some (false, 99) := by decide +kernel
theorem sq_3_275 : lk2 sTL 3 275 = some (false, 16) := by decide +kernel
theorem sq_3_278 : lk2 sTL 3 278 = some (false, 42) := by decide +kernel
theorem sq_3_282 : lk2 sTL 3 282 = some (false, 20) := by decide +kernel
theorem sq_3_288 : lk2 sTL 3 288 = some (false, 109) := by decide +kernel
theorem sq_4_36 : lk2 sTL 4 36 = some (false, 114) := by decide +kernel
theorem sq_4_40 : lk2 sTL 4 40 = some (false, 110) := by decide +kernel
theorem sq_4_44 : lk2 sTL 4 44 = some (false, 117) := by decide +kernel
theorem sq_4_48 : lk2 sTL 4 48 = some (false, 111) := by decide +kernel
theorem sq_4_58 : lk2 sTL 4 58 = some (false, 118) := by decide +kernel
theorem sq_4_62 : lk2 sTL 4 62 = some (false, 119) := by decide +kernel
theorem sq_4_66 : lk2 sTL 4 66 = some (false, 120) := by decide +kernel
theorem sq_4_70 : lk2 sTL 4 70 = some (false, 121) := by decide +kernel
theorem sq_4_74 : lk2 sTL 4 74 = some (false, 122) := by decide +kernel
theorem sq_4_78 : lk2 sTL 4 78 = some (false, 113) := by decide +kernel
theorem sq_4_82 : lk2 sTL 4 82 = some (false, 123) := by decide +kernel
theorem sq_4_92 : lk2 sTL 4 92 = some (false, 127) := by decide +kernel
theorem sq_4_96 : lk2 sTL 4 96 = some (false, 129) := by decide +kernel
theorem sq_4_99 : lk2 sTL 4 99 = some (false, 130) := by decide +kernel
theorem sq_4_103 : lk2 sTL 4 103 = some (false, 128) := by decide +kernel
theorem sq_4_107 : lk2 sTL 4 107 = some (false, 133) := by decide +kernel
theorem sq_4_111 : lk2 sTL 4 111 = some (false, 116) := by decide +kernel
theorem sq_4_115 : lk2 sTL 4 115 = some (false, 132) := by decide +kernel
theorem sq_4_118 : lk2 sTL 4 118 = some (false, 134) := by decide +kernel
theorem sq_4_122 : lk2 sTL 4 122 = some (false, 131) := by decide +kernel
theorem sq_4_125 : lk2 sTL 4 125 = some (false, 135) := by decide +kernel
theorem sq_4_128 : lk2 sTL 4 128 = some (false, 143) := by decide +kernel
theorem sq_4_131 : lk2 sTL 4 131 = some (false, 124) := by decide +kernel
theorem sq_4_135 : lk2 sTL 4 135 = some (false, 125) := by decide +kernel
theorem sq_4_138 : lk2 sTL 4 138 = some (false, 146) := by decide +kernel
theorem sq_4_142 : lk2 sTL 4 142 = some (false, 115) := by decide +kernel
theorem sq_4_146 : lk2 sTL 4 146 = some (false, 147) := by decide +kernel
theorem sq_4_150 : lk2 sTL 4 150 = some (false, 149) := by decide +kernel
theorem sq_4_153 : lk2 sTL 4 153 = some (false, 150) := by decide +kernel
theorem sq_4_158 : lk2 sTL 4 158 = some (false, 112) := by decide +kernel
theorem sq_4_161 : lk2 sTL 4 161 = some (false, 159) := by decide +kernel
theorem sq_4_164 : lk2 sTL 4 164 = some (false, 162) := by decide +kernel
theorem sq_4_173 : lk2 sTL 4 173 = some (false, 167) := by decide +kernel
theorem sq_4_182 : lk2 sTL 4 182 = some (false, 171) := by decide +kernel
theorem sq_5_13 : lk2 sTL 5 13 = some (false, 50) := by decide +kernel
theorem sq_5_17 : lk2 sTL 5 17 = some (false, 126) := by decide +kernel
theorem sq_5_18 : lk2 sTL 5 18 = some (false, 51) := by decide +kernel
theorem sq_5_22 : lk2 sTL 5 22 = some (false, 136) := by decide +kernel
theorem sq_5_23 : lk2 sTL 5 23 = some (false, 52) := by decide +kernel
theorem sq_5_27 : lk2 sTL 5 27 = some (false, 137) := by decide +kernel
theorem sq_5_28 : lk2 sTL 5 28 = some (false, 53) := by decide +kernel
theorem sq_5_31 : lk2 sTL 5 31 = some (false, 138) := by decide +kernel
theorem sq_5_32 : lk2 sTL 5 32 = some (false, 54) := by decide +kernel
theorem sq_5_35 : lk2 sTL 5 35 = some (false, 139) := by decide +kernel
theorem sq_5_36 : lk2 sTL 5 36 = some (false, 55) := by decide +kernel
theorem sq_5_40 : lk2 sTL 5 40 = some (false, 140) := by decide +kernel
theorem sq_5_41 : lk2 sTL 5 41 = some (false, 56) := by decide +kernel
theorem sq_5_44 : lk2 sTL 5 44 = some (false, 141) := by decide +kernel
theorem sq_5_45 : lk2 sTL 5 45 = some (false, 57) := by decide +kernel
theorem sq_5_48 : lk2 sTL 5 48 = some (false, 142) := by decide +kernel
theorem sq_5_49 : lk2 sTL 5 49 = some (false, 58) := by decide +kernel
theorem sq_5_52 : lk2 sTL 5 52 = some (false, 144) := by decide +kernel
theorem sq_5_53 : lk2 sTL 5 53 = some (false, 59) := by decide +kernel
theorem sq_5_56 : lk2 sTL 5 56 = some (false, 145) := by decide +kernel
theorem sq_5_57 : lk2 sTL 5 57 = some (false, 60) := by decide +kernel
theorem sq_5_61 : lk2 sTL 5 61 = some (false, 148) := by decide +kernel
theorem sq_5_62 : lk2 sTL 5 62 = some (false, 61) := by decide +kernel
theorem sq_5_65 : lk2 sTL 5 65 = some (false, 151) := by decide +kernel
theorem sq_5_66 : lk2 sTL 5 66 = some (false, 62) := by decide +kernel
theorem sq_5_69 : lk2 sTL 5 69 = some (false, 152) := by decide +kernel
theorem sq_5_70 : lk2 sTL 5 70 = some (false, 63) := by decide +kernel
theorem sq_5_73 : lk2 sTL 5 73 = some (false, 153) := by decide +kernel
theorem sq_5_74 : lk2 sTL 5 74 = some (false, 64) := by decide +kernel
theorem sq_5_77 : lk2 sTL 5 77 = some (false, 154) := by decide +kernel
theorem sq_5_78 : lk2 sTL 5 78 = some (false, 65) := by decide +kernel
theorem sq_5_81 : lk2 sTL 5 81 = some (false, 155) := by decide +kernel
theorem sq_5_82 : lk2 sTL 5 82 = some (false, 66) := by decide +kernel
theorem sq_5_85 : lk2 sTL 5 85 = some (false, 156) := by decide +kernel
theorem sq_5_86 : lk2 sTL 5 86 = some (false, 67) := by decide +kernel
theorem sq_5_89 : lk2 sTL 5 89 = some (false, 157) := by decide +kernel
theorem sq_5_90 : lk2 sTL 5 90 = some (false, 68) := by decide +kernel
theorem sq_5_93 : lk2 sTL 5 93 = some (false, 158) := by decide +kernel
theorem sq_5_94 : lk2 sTL 5 94 = some (false, 69) := by decide +kernel
theorem sq_5_97 : lk2 sTL 5 97 = some (false, 160) := by decide +kernel
theorem sq_5_98 : lk2 sTL 5 98 = some (false, 70) := by decide +kernel
theorem sq_5_101 : lk2 sTL 5 101 = some (false, 161) := by decide +kernel
theorem sq_5_102 : lk2 sTL 5 102 = some (false, 71) := by decide +kernel
theorem sq_5_105 : lk2 sTL 5 105 = some (false, 163) := by decide +kernel
theorem sq_5_106 : lk2 sTL 5 106 = some (false, 72) := by decide +kernel
theorem sq_5_109 : lk2 sTL 5 109 = some (false, 164) := by decide +kernel
theorem sq_5_110 : lk2 sTL 5 110 = some (false, 73) := by decide +kernel
theorem sq_5_113 : lk2 sTL 5 113 = some (false, 165) := by decide +kernel
theorem sq_5_114 : lk2 sTL 5 114 = some (false, 74) := by decide +kernel
theorem sq_5_117 : lk2 sTL 5 117 = some (false, 166) := by decide +kernel
theorem sq_5_118 : lk2 sTL 5 118 = some (false, 75) := by decide +kernel
theorem sq_5_121 : lk2 sTL 5 121 = some (false, 168) := by decide +kernel
theorem sq_5_122 : lk2 sTL 5 122 = some (false, 76) := by decide +kernel
theorem sq_5_125 : lk2 sTL 5 125 = some (false, 169) := by decide +kernel
theorem sq_5_126 : lk2 sTL 5 126 = some (false, 77) := by decide +kernel
theorem sq_5_130 : lk2 sTL 5 130 = some (false, 170) := by decide +kernel
theorem sq_5_131 : lk2 sTL 5 131 = some (false, 78) := by decide +kernel
theorem sq_5_134 : lk2 sTL 5 134 = some (false, 172) := by decide +kernel
theorem sq_5_135 : lk2 sTL 5 135 = some (false, 79) := by decide +kernel
theorem sq_5_138 : lk2 sTL 5 138 = some (false, 173) := by decide +kernel
theorem sq_5_139 : lk2 sTL 5 139 = some (false, 80) := by decide +kernel
theorem sq_5_142 : lk2 sTL 5 142 = some (false, 174) := by decide +kernel
theorem sq_5_143 : lk2 sTL 5 143 = some (false, 81) := by decide +kernel
theorem sq_5_146 : lk2 sTL 5 146 = some (false, 175) := by decide +kernel
theorem sq_10_335 : lk2 sTL 10 335 = some (false, 8) := by decide +kernel
theorem sq_10_492 : lk2 sTL 10 492 = some (false, 9) := by decide +kernel
theorem sq_10_495 : lk2 sTL 10 495 = some (false, 11) := by decide +kernel
theorem sq_10_505 : lk2 sTL 10 505 = some (false, 4) := by decide +kernel
theorem sq_10_633 : lk2 sTL 10 633 = some (false, 7) := by decide +kernel
theorem sq_10_637 : lk2 sTL 10 637 = some (false, 13) := by decide +kernel
theorem sq_10_1059 : lk2 sTL 10 1059 = some (false, 15) := by decide +kernel
theorem sq_11_9 : lk2 sTL 11 9 = some (false, 10) := by decide +kernel
theorem sq_11_38 : lk2 sTL 11 38 = some (false, 2) := by decide +kernel
theorem sq_11_88 : lk2 sTL 11 88 = some (false, 12) := by decide +kernel
theorem sq_11_92 : lk2 sTL 11 92 = some (false, 1) := by decide +kernel
theorem sq_11_95 : lk2 sTL 11 95 = some (false, 14) := by decide +kernel
def fTL : List (Nat × Nat × Nat × Nat) := [(0, 9, 0, 0), (0, 15, 0, 1), (0, 18, 0, 2), (0, 21, 0, 3), (0, 24, 0, 4), (0, 27, 0, 5), (1, 9, 1, 0), (1, 15, 1, 1), (2, 11, 2, 0), (2, 18, 2, 1), (2, 22, 2, 2), (2, 26, 2, 3), (2, 29, 2, 4), (2, 32, 2, 5), (2, 35, 2, 6), (2, 53, 0, 0), (2, 56, 0, 1), (2, 59, 0, 2), (2, 62, 0, 3), (2, 65, 0, 4), (2, 68, 0, 5), (3, 10, 3, 0), (3, 16, 3, 1), (3, 19, 3, 2), (3, 22, 3, 3), (3, 29, 3, 4), (3, 33, 3, 5), (3, 37, 3, 6), (3, 41, 3, 7), (3, 80, 0, 0), (3, 85, 0, 1), (3, 88, 0, 2), (3, 91, 0, 3), (3, 94, 0, 4), (3, 97, 0, 5), (3, 115, 2, 6), (3, 161, 2, 2), (3, 231, 2, 3), (3, 234, 2, 4), (3, 237, 2, 5), (3, 240, 1, 1), (4, 9, 4, 0), (4, 13, 4, 1), (4, 16, 4, 2), (4, 19, 4, 3), (4, 22, 4, 5), (4, 25, 4, 6), (4, 28, 4, 7), (4, 31, 4, 13), (4, 51, 4, 10), (4, 55, 4, 11), (4, 86, 4, 8), (4, 89, 4, 12), (4, 170, 4, 9), (4, 176, 4, 14), (4, 185, 4, 4)]
def FfP (e : Nat × Nat × Nat × Nat) : Prop := (Jvm.Cond.fieldLink (cn e.1) e.2.1 (cn e.2.2.1) (TT e.2.2.1 e.2.2.2).2.1 (TT e.2.2.1 e.2.2.2).2.2.1 ∈ lw_tbl ∧ (TT e.2.2.1 e.2.2.2).1 = cn e.2.2.1) ∧ e.2.2.2 < nfT e.2.2.1 ∧ e.2.2.1 < 5
set_option maxRecDepth 100000 in
theorem fok : ∀ e ∈ fTL, FfP e := List.forall_mem_cons.mpr ⟨⟨⟨(tm1 34 rfl), rfl⟩, by decide, by decide⟩, List.forall_mem_cons.mpr ⟨⟨⟨(tm1 37 rfl), rfl⟩, by decide, by decide⟩, List.forall_mem_cons.mpr ⟨⟨⟨(tm1 40 rfl), rfl⟩, by decide, by decide⟩, List.forall_mem_cons.mpr ⟨⟨⟨(tm1 43 rfl), rfl⟩, by decide, by decide⟩, List.forall_mem_cons.mpr ⟨⟨⟨(tm1 46 rfl), rfl⟩, by decide, by decide⟩, List.forall_mem_cons.mpr ⟨⟨⟨(tm1 49 rfl), rfl⟩, by decide, by decide⟩, List.forall_mem_cons.mpr ⟨⟨⟨(tm1 98 rfl), rfl⟩, by decide, by decide⟩, List.forall_mem_cons.mpr ⟨⟨⟨(tm1 99 rfl), rfl⟩, by decide, by decide⟩, List.forall_mem_cons.mpr ⟨⟨⟨(tm1 65 rfl), rfl⟩, by decide, by decide⟩, List.forall_mem_cons.mpr ⟨⟨⟨(tm1 66 rfl), rfl⟩, by decide, by decide⟩, List.forall_mem_cons.mpr ⟨⟨⟨(tm1 67 rfl), rfl⟩, by decide, by decide⟩, List.forall_mem_cons.mpr ⟨⟨⟨(tm1 69 rfl), rfl⟩, by decide, by decide⟩, List.forall_mem_cons.mpr ⟨⟨⟨(tm1 71 rfl), rfl⟩, by decide, by decide⟩, List.forall_mem_cons.mpr ⟨⟨⟨(tm1 73 rfl), rfl⟩, by decide, by decide⟩, List.forall_mem_cons.mpr ⟨⟨⟨(tm1 75 rfl), rfl⟩, by decide, by decide⟩, List.forall_mem_cons.mpr ⟨⟨⟨(tm1 36 rfl), rfl⟩, by decide, by decide⟩, List.forall_mem_cons.mpr ⟨⟨⟨(tm1 39 rfl), rfl⟩, by decide, by decide⟩, List.forall_mem_cons.mpr ⟨⟨⟨(tm1 42 rfl), rfl⟩, by decide, by decide⟩, List.forall_mem_cons.mpr ⟨⟨⟨(tm1 45 rfl), rfl⟩, by decide, by decide⟩, List.forall_mem_cons.mpr ⟨⟨⟨(tm1 48 rfl), rfl⟩, by decide, by decide⟩, List.forall_mem_cons.mpr ⟨⟨⟨(tm1 51 rfl), rfl⟩, by decide, by decide⟩, List.forall_mem_cons.mpr ⟨⟨⟨(tm1 107 rfl), rfl⟩, by decide, by decide⟩, List.forall_mem_cons.mpr ⟨⟨⟨(tm1 108 rfl), rfl⟩, by decide, by decide⟩, List.forall_mem_cons.mpr ⟨⟨⟨(tm1 109 rfl), rfl⟩, by decide, by decide⟩, List.forall_mem_cons.mpr ⟨⟨⟨(tm1 110 rfl), rfl⟩, by decide, by decide⟩, List.forall_mem_cons.mpr ⟨⟨⟨(tm1 111 rfl), rfl⟩, by decide, by decide⟩, List.forall_mem_cons.mpr ⟨⟨⟨(tm1 112 rfl), rfl⟩, by decide, by decide⟩, List.forall_mem_cons.mpr ⟨⟨⟨(tm1 113 rfl), rfl⟩, by decide, by decide⟩, List.forall_mem_cons.mpr ⟨⟨⟨(tm1 114 rfl), rfl⟩, by decide, by decide⟩, List.forall_mem_cons.mpr ⟨⟨⟨(tm1 35 rfl), rfl⟩, by decide, by decide⟩, List.forall_mem_cons.mpr ⟨⟨⟨(tm1 38 rfl), rfl⟩, by decide, by decide⟩, List.forall_mem_cons.mpr ⟨⟨⟨(tm1 41 rfl), rfl⟩, by decide, by decide⟩, List.forall_mem_cons.mpr ⟨⟨⟨(tm1 44 rfl), rfl⟩, by decide, by decide⟩, List.forall_mem_cons.mpr ⟨⟨⟨(tm1 47 rfl), rfl⟩, by decide, by decide⟩, List.forall_mem_cons.mpr ⟨⟨⟨(tm1 50 rfl), rfl⟩, by decide, by decide⟩, List.forall_mem_cons.mpr ⟨⟨⟨(tm1 76 rfl), rfl⟩, by decide, by decide⟩, List.forall_mem_cons.mpr ⟨⟨⟨(tm1 68 rfl), rfl⟩, by decide, by decide⟩, List.forall_mem_cons.mpr ⟨⟨⟨(tm1 70 rfl), rfl⟩, by decide, by decide⟩, List.forall_mem_cons.mpr ⟨⟨⟨(tm1 72 rfl), rfl⟩, by decide, by decide⟩, List.forall_mem_cons.mpr ⟨⟨⟨(tm1 74 rfl), rfl⟩, by decide, by decide⟩, List.forall_mem_cons.mpr ⟨⟨⟨(tm1 100 rfl), rfl⟩, by decide, by decide⟩, List.forall_mem_cons.mpr ⟨⟨⟨(tm3 173 rfl), rfl⟩, by decide, by decide⟩, List.forall_mem_cons.mpr ⟨⟨⟨(tm3 174 rfl), rfl⟩, by decide, by decide⟩, List.forall_mem_cons.mpr ⟨⟨⟨(tm3 175 rfl), rfl⟩, by decide, by decide⟩, List.forall_mem_cons.mpr ⟨⟨⟨(tm3 176 rfl), rfl⟩, by decide, by decide⟩, List.forall_mem_cons.mpr ⟨⟨⟨(tm3 178 rfl), rfl⟩, by decide, by decide⟩, List.forall_mem_cons.mpr ⟨⟨⟨(tm3 179 rfl), rfl⟩, by decide, by decide⟩, List.forall_mem_cons.mpr ⟨⟨⟨(tm3 180 rfl), rfl⟩, by decide, by decide⟩, List.forall_mem_cons.mpr ⟨⟨⟨(tm3 186 rfl), rfl⟩, by decide, by decide⟩, List.forall_mem_cons.mpr ⟨⟨⟨(tm3 183 rfl), rfl⟩, by decide, by decide⟩, List.forall_mem_cons.mpr ⟨⟨⟨(tm3 184 rfl), rfl⟩, by decide, by decide⟩, List.forall_mem_cons.mpr ⟨⟨⟨(tm3 181 rfl), rfl⟩, by decide, by decide⟩, List.forall_mem_cons.mpr ⟨⟨⟨(tm3 185 rfl), rfl⟩, by decide, by decide⟩, List.forall_mem_cons.mpr ⟨⟨⟨(tm3 182 rfl), rfl⟩, by decide, by decide⟩, List.forall_mem_cons.mpr ⟨⟨⟨(tm3 187 rfl), rfl⟩, by decide, by decide⟩, List.forall_mem_cons.mpr ⟨⟨⟨(tm3 177 rfl), rfl⟩, by decide, by decide⟩, fun _ h => absurd h List.not_mem_nil⟩⟩⟩⟩⟩⟩⟩⟩⟩⟩⟩⟩⟩⟩⟩⟩⟩⟩⟩⟩⟩⟩⟩⟩⟩⟩⟩⟩⟩⟩⟩⟩⟩⟩⟩⟩⟩⟩⟩⟩⟩⟩⟩⟩⟩⟩⟩⟩⟩⟩⟩⟩⟩⟩⟩⟩
theorem fq_0_9 : lk2 fTL 0 9 = some (0, 0) := by decide +kernel
theorem fq_0_15 : lk2 fTL 0 15 = some (0, 1) := by decide +kernel
theorem fq_0_18 : lk2 fTL 0 18 = some (0, 2) := by decide +kernel
theorem fq_0_21 : lk2 fTL 0 21 = some (0, 3) := by decide +kernel
theorem fq_0_24 : lk2 fTL 0 24 = some (0, 4) := by decide +kernel
theorem fq_0_27 : lk2 fTL 0 27 = some (0, 5) := by decide +kernel
theorem fq_1_9 : lk2 fTL 1 9 = some (1, 0) := by decide +kernel
theorem fq_1_15 : lk2 fTL 1 15 = some (1, 1) := by decide +kernel
theorem fq_2_11 : lk2 fTL 2 11 = some (2, 0) := by decide +kernel
theorem fq_2_18 : lk2 fTL 2 18 = some (2, 1) := by decide +kernel
theorem fq_2_22 : lk2 fTL 2 22 = some (2, 2) := by decide +kernel
theorem fq_2_26 : lk2 fTL 2 26 = some (2, 3) := by decide +kernel
theorem fq_2_29 : lk2 fTL 2 29 = some (2, 4) := by decide +kernel
theorem fq_2_32 : lk2 fTL 2 32 = some (2, 5) := by decide +kernel
theorem fq_2_35 : lk2 fTL 2 35 = some (2, 6) := by decide +kernel
theorem fq_2_53 : lk2 fTL 2 53 = some (0, 0) := by decide +kernel
theorem fq_2_56 : lk2 fTL 2 56 = some (0, 1) := by decide +kernel
theorem fq_2_59 : lk2 fTL 2 59 = some (0, 2) := by decide +kernel
theorem fq_2_62 : lk2 fTL 2 62 = some (0, 3) := by decide +kernel
theorem fq_2_65 : lk2 fTL 2 65 = some (0, 4) := by decide +kernel
theorem fq_2_68 : lk2 fTL 2 68 = some (0, 5) := by decide +kernel
theorem fq_3_10 : lk2 fTL 3 10 = some (3, 0) := by decide +kernel
theorem fq_3_16 : lk2 fTL 3 16 = some (3, 1) := by decide +kernel
theorem fq_3_19 : lk2 fTL 3 19 = some (3, 2) := by decide +kernel
theorem fq_3_22 : lk2 fTL 3 22 = some (3, 3) := by decide +kernel
theorem fq_3_29 : lk2 fTL 3 29 = some (3, 4) := by decide +kernel
theorem fq_3_33 : lk2 fTL 3 33 = some (3, 5) := by decide +kernel
theorem fq_3_37 : lk2 fTL 3 37 = some (3, 6) := by decide +kernel
theorem fq_3_41 : lk2 fTL 3 41 = some (3, 7) := by decide +kernel
theorem fq_3_80 : lk2 fTL 3 80 = some (0, 0) := by decide +kernel
theorem fq_3_85 : lk2 fTL 3 85 = some (0, 1) := by decide +kernel
theorem fq_3_88 : lk2 fTL 3 88 = some (0, 2) := by decide +kernel
theorem fq_3_91 : lk2 fTL 3 91 = some (0, 3) := by decide +kernel
theorem fq_3_94 : lk2 fTL 3 94 = some (0, 4) := by decide +kernel
theorem fq_3_97 : lk2 fTL 3 97 = some (0, 5) := by decide +kernel
theorem fq_3_115 : lk2 fTL 3 115 = some (2, 6) := by decide +kernel
theorem fq_3_161 : lk2 fTL 3 161 = some (2, 2) := by decide +kernel
theorem fq_3_231 : lk2 fTL 3 231 = some (2, 3) := by decide +kernel
theorem fq_3_234 : lk2 fTL 3 234 = some (2, 4) := by decide +kernel
theorem fq_3_237 : lk2 fTL 3 237 = some (2, 5) := by decide +kernel
theorem fq_3_240 : lk2 fTL 3 240 = some (1, 1) := by decide +kernel
theorem fq_4_9 : lk2 fTL 4 9 = some (4, 0) := by decide +kernel
theorem fq_4_13 : lk2 fTL 4 13 = some (4, 1) := by decide +kernel
theorem fq_4_16 : lk2 fTL 4 16 = some (4, 2) := by decide +kernel
theorem fq_4_19 : lk2 fTL 4 19 = some (4, 3) := by decide +kernel
theorem fq_4_22 : lk2 fTL 4 22 = some (4, 5) := by decide +kernel
theorem fq_4_25 : lk2 fTL 4 25 = some (4, 6) := by decide +kernel
theorem fq_4_28 : lk2 fTL 4 28 = some (4, 7) := by decide +kernel
theorem fq_4_31 : lk2 fTL 4 31 = some (4, 13) := by decide +kernel
theorem fq_4_51 : lk2 fTL 4 51 = some (4, 10) := by decide +kernel
theorem fq_4_55 : lk2 fTL 4 55 = some (4, 11) := by decide +kernel
theorem fq_4_86 : lk2 fTL 4 86 = some (4, 8) := by decide +kernel
theorem fq_4_89 : lk2 fTL 4 89 = some (4, 12) := by decide +kernel
theorem fq_4_170 : lk2 fTL 4 170 = some (4, 9) := by decide +kernel
theorem fq_4_176 : lk2 fTL 4 176 = some (4, 14) := by decide +kernel
theorem fq_4_185 : lk2 fTL 4 185 = some (4, 4) := by decide +kernel
def iTL : List (Nat × Nat × Int32) := [(16, 265, 1431655765), (16, 266, 858993459), (16, 267, 252645135), (3, 285, 1664525), (3, 286, 1013904223), (3, 287, 2147483647), (4, 157, 1000000000), (4, 179, 1664525), (4, 180, 1013904223), (4, 181, 2147483647)]
def lTL : List (Nat × Nat × Int64) := [(3, 246, 4000000000000000000), (4, 34, 4000000000000000000), (4, 168, (-1))]
set_option maxRecDepth 100000 in
theorem iok : ∀ e ∈ iTL, Jvm.Cond.constant (cn e.1) e.2.1 e.2.2 ∈ lw_tbl := List.forall_mem_cons.mpr ⟨(tm3 132 rfl), List.forall_mem_cons.mpr ⟨(tm3 133 rfl), List.forall_mem_cons.mpr ⟨(tm3 134 rfl), List.forall_mem_cons.mpr ⟨(tm3 145 rfl), List.forall_mem_cons.mpr ⟨(tm3 146 rfl), List.forall_mem_cons.mpr ⟨(tm3 150 rfl), List.forall_mem_cons.mpr ⟨(tm4 154 rfl), List.forall_mem_cons.mpr ⟨(tm4 218 rfl), List.forall_mem_cons.mpr ⟨(tm4 219 rfl), List.forall_mem_cons.mpr ⟨(tm4 220 rfl), fun _ h => absurd h List.not_mem_nil⟩⟩⟩⟩⟩⟩⟩⟩⟩⟩
set_option maxRecDepth 100000 in
theorem lok : ∀ e ∈ lTL, Jvm.Cond.constantLong (cn e.1) e.2.1 e.2.2 ∈ lw_tbl := List.forall_mem_cons.mpr ⟨(tm2 229 rfl), List.forall_mem_cons.mpr ⟨(tm4 113 rfl), List.forall_mem_cons.mpr ⟨(tm4 185 rfl), fun _ h => absurd h List.not_mem_nil⟩⟩⟩
theorem iq_16_265 : lk2 iTL 16 265 = some (1431655765) := by decide +kernel
theorem iq_16_266 : lk2 iTL 16 266 = some (858993459) := by decide +kernel
theorem iq_16_267 : lk2 iTL 16 267 = some (252645135) := by decide +kernel
theorem iq_3_285 : lk2 iTL 3 285 = some (1664525) := by decide +kernel
theorem iq_3_286 : lk2 iTL 3 286 = some (1013904223) := by decide +kernel
theorem iq_3_287 : lk2 iTL 3 287 = some (2147483647) := by decide +kernel
theorem iq_4_157 : lk2 iTL 4 157 = some (1000000000) := by decide +kernel
theorem iq_4_179 : lk2 iTL 4 179 = some (1664525) := by decide +kernel
theorem iq_4_180 : lk2 iTL 4 180 = some (1013904223) := by decide +kernel
theorem iq_4_181 : lk2 iTL 4 181 = some (2147483647) := by decide +kernel
theorem lq_3_246 : lk2 lTL 3 246 = some (4000000000000000000) := by decide +kernel
theorem lq_4_34 : lk2 lTL 4 34 = some (4000000000000000000) := by decide +kernel
theorem lq_4_168 : lk2 lTL 4 168 = some (-1) := by decide +kernel
def xTL : List (Nat × Nat × Nat) := [(1, 23, 0), (1, 30, 1), (1, 50, 2), (1, 52, 3), (1, 54, 4), (1, 56, 5), (1, 58, 6), (1, 60, 7)]
def kIx : Nat → Nat := fun i => [23, 30, 50, 52, 54, 56, 58, 60].getD i 0
def kTx : Nat → String := fun i => ["ombish", "", "ck999999999;", "r99;", "l9;", "e9;", "p99999;", "y99;"].getD i ""
def kLen : List Nat := [6, 0, 12, 4, 3, 3, 7, 4]
def kByt : List (List Int32) := [[111, 109, 98, 105, 115, 104], [], [99, 107, 57, 57, 57, 57, 57, 57, 57, 57, 57, 59], [114, 57, 57, 59], [108, 57, 59], [101, 57, 59], [112, 57, 57, 57, 57, 57, 59], [121, 57, 57, 59]]
theorem xok : ∀ e ∈ xTL, e.1 = 1 ∧ e.2.2 < 8 ∧ e.2.1 = kIx e.2.2 := by decide +kernel
theorem xq_1_23 : lk2 xTL 1 23 = some 0 := by decide +kernel
theorem xq_1_30 : lk2 xTL 1 30 = some 1 := by decide +kernel
theorem xq_1_50 : lk2 xTL 1 50 = some 2 := by decide +kernel
theorem xq_1_52 : lk2 xTL 1 52 = some 3 := by decide +kernel
theorem xq_1_54 : lk2 xTL 1 54 = some 4 := by decide +kernel
theorem xq_1_56 : lk2 xTL 1 56 = some 5 := by decide +kernel
theorem xq_1_58 : lk2 xTL 1 58 = some 6 := by decide +kernel
theorem xq_1_60 : lk2 xTL 1 60 = some 7 := by decide +kernel
theorem wfV : Jvm.Cond.fieldLink RJ0 9 "java/lang/String" "value" "[B" ∈ lw_tbl := (tm4 233 rfl)
theorem wfC : Jvm.Cond.fieldLink RJ0 15 "java/lang/String" "coder" "B" ∈ lw_tbl := (tm4 234 rfl)
theorem wfS : Jvm.Cond.fieldLink RJ0 38 "java/lang/String" "COMPACT_STRINGS" "Z" ∈ lw_tbl := (tm1 172 rfl)
theorem wfF : Jvm.Cond.fieldLink RJ0 1053 "jdk/internal/util/Preconditions" "SIOOBE_FORMATTER" "Ljava/util/function/BiFunction;" ∈ lw_tbl := (tm1 201 rfl)
end
section
/-! one instruction of the small machine; runs of it -/
def aload1 (ls : Lo) (i pc : Nat) (len : Nat) (st : List Value) (mem : Mm) (ok : Value → Bool) : Option (Rz ⊕ S5) := match aget ls i with
  | some v => if ok v = true then anx (pc + len) ls (v :: st) mem else none
  | none => none
def astore1 (ls : Lo) (i pc : Nat) (len : Nat) (st : List Value) (mem : Mm) (ok : Value → Bool) : Option (Rz ⊕ S5) := match st with
  | v :: rest => if ok v = true ∧ i + v.category ≤ ls.length then anx (pc + len) (aset ls i v) rest mem else none
  | _ => none
def isI : Value → Bool
  | .int _ => true
  | _ => false
def isL : Value → Bool
  | .long _ => true
  | _ => false
def isR : Value → Bool
  | .ref _ => true
  | _ => false
def abin (f : Int32 → Int32 → Int32) (pc : Nat) (ls : Lo) (st : List Value) (mem : Mm) : Option (Rz ⊕ S5) := match st with
  | .int y :: .int x :: rest => anx (pc + 1) ls (.int (f x y) :: rest) mem
  | _ => none
def abinL (f : Int64 → Int64 → Int64) (pc : Nat) (ls : Lo) (st : List Value) (mem : Mm) : Option (Rz ⊕ S5) := match st with
  | .long y :: .long x :: rest => anx (pc + 1) ls (.long (f x y) :: rest) mem
  | _ => none
def adiv (f : Int32 → Int32 → Int32) (pc : Nat) (ls : Lo) (st : List Value) (mem : Mm) : Option (Rz ⊕ S5) := match st with
  | .int y :: .int x :: rest => if y = 0 then none else anx (pc + 1) ls (.int (f x y) :: rest) mem
  | _ => none
def adivL (f : Int64 → Int64 → Int64) (pc : Nat) (ls : Lo) (st : List Value) (mem : Mm) : Option (Rz ⊕ S5) := match st with
  | .long y :: .long x :: rest => if y = 0 then none else anx (pc + 1) ls (.long (f x y) :: rest) mem
  | _ => none
def airem (x y : Int32) : Int32 := x - x / y * y
def airemL (x y : Int64) : Int64 := x - x / y * y
def aiush (x y : Int32) : Int32 := (x.toUInt32 >>> (y.toUInt32 &&& Int32.toUInt32 31)).toInt32
def abyt (o i : Nat) : Int32 := (kByt.getD (o - 60) []).getD i 0
def ablen (o : Nat) : Nat := kLen.getD (o - 60) 0
/-- the script: its length, its ints -/
abbrev Sc : Type := Nat × (Nat → Int32)
def acall (call : Cf) (d : MD) (μ : Nat) (pc : Nat) (ls : Lo) (st : List Value) (mem : Mm) : Option (Rz ⊕ S5) :=
  let n := if d.st = true then d.na else d.na + 1
  if n ≤ st.length ∧ awd (st.drop n) ≤ 8 then
    match call μ (st.take n).reverse mem with
    | some (r, mem') => anx (pc + 3) ls (r.toList ++ st.drop n) mem'
    | none => none
  else none
abbrev pok (ci f : Nat) (v : Int32) : Prop := ¬ ((ci = 3 ∧ f = 3) ∨ (ci = 4 ∧ f = 4)) ∨ v = 0 ∨ v = 1
abbrev kdp (o ci : Nat) : Prop := kd o = ci ∧ o < 44
def arecv (d : MD) (st : List Value) : Bool := match st[d.na]? with
  | some (.ref o) => if d.own < 5 then decide (kdp o d.own) else decide (d.own = 10 ∧ kd o = 7)
  | _ => false
def arets : Instr → Option FieldType → List Value → Option (Option Value)
  | .ireturn, rt, st => aret rt st
  | .lreturn, some .long, [.long v] => some (some (.long v))
  | .areturn, some (.object _), [.ref o] => if o = 99 then none else some (some (.ref o))
  | .return_, none, [] => some none
  | _, _, _ => none
/-- Math.abs, max, min -/
def amath : Nat → List Value → Option (Option Value)
  | 0, [.int x] => some (some (.int (if 0 ≤ x then x else 0 - x)))
  | 1, [.int x, .int y] => some (some (.int (if x < y then y else x)))
  | 2, [.int x, .int y] => some (some (.int (if y < x then y else x)))
  | _, _ => none
def aex (call : Cf) (S : Sc) (own : Nat) (rt : Option FieldType) (i : Instr) (len pc : Nat) (ls : Lo) (st : List Value) (mem : Mm) : Option (Rz ⊕ S5) :=
  match i with
  | .iconst n => anx (pc + 1) ls (.int (Int32.ofInt n) :: st) mem
  | .bipush n => anx (pc + 2) ls (.int (Int8.ofInt n).toInt32 :: st) mem
  | .sipush n => anx (pc + 3) ls (.int (Int16.ofInt n).toInt32 :: st) mem
  | .lconst n => anx (pc + 1) ls (.long (Int64.ofNat (n : Nat)) :: st) mem
  | .iload_n k => aload1 ls k pc 1 st mem isI
  | .iload k => aload1 ls k pc 2 st mem isI
  | .lload_n k => aload1 ls k pc 1 st mem isL
  | .lload k => aload1 ls k pc 2 st mem isL
  | .aload_n k => aload1 ls k pc 1 st mem isR
  | .aload k => aload1 ls k pc 2 st mem isR
  | .istore_n k => astore1 ls k pc 1 st mem isI
  | .istore k => astore1 ls k pc 2 st mem isI
  | .lstore_n k => astore1 ls k pc 1 st mem isL
  | .lstore k => astore1 ls k pc 2 st mem isL
  | .astore_n k => astore1 ls k pc 1 st mem isR
  | .astore k => astore1 ls k pc 2 st mem isR
  | .iinc k n => match aget ls k with
    | some (.int x) => anx (pc + 3) (aset ls k (.int (x + Int32.ofInt n))) st mem
    | _ => none
  | .iadd => abin (· + ·) pc ls st mem
  | .isub => abin (· - ·) pc ls st mem
  | .imul => abin (· * ·) pc ls st mem
  | .iand => abin (· &&& ·) pc ls st mem
  | .ior => abin (· ||| ·) pc ls st mem
  | .ishl => abin (fun x y => x <<< (y &&& 31)) pc ls st mem
  | .ishr => abin (fun x y => x >>> (y &&& 31)) pc ls st mem
  | .iushr => abin aiush pc ls st mem
  | .idiv => adiv (· / ·) pc ls st mem
  | .irem => adiv airem pc ls st mem
  | .ineg => match st with
    | .int x :: rest => anx (pc + 1) ls (.int (-x) :: rest) mem
    | _ => none
  | .ladd => abinL (· + ·) pc ls st mem
  | .lsub => abinL (· - ·) pc ls st mem
  | .lmul => abinL (· * ·) pc ls st mem
  | .ldiv => adivL (· / ·) pc ls st mem
  | .lrem => adivL airemL pc ls st mem
  | .lcmp => match st with
    | .long y :: .long x :: rest => anx (pc + 1) ls (.int (lg_cmp x y) :: rest) mem
    | _ => none
  | .i2l => match st with
    | .int x :: rest => anx (pc + 1) ls (.long x.toInt64 :: rest) mem
    | _ => none
  | .i2c => match st with
    | .int x :: rest => anx (pc + 1) ls (.int (x.toUInt32 % 65536).toInt32 :: rest) mem
    | _ => none
  | .i2b => match st with
    | .int x :: rest => anx (pc + 1) ls (.int x.toInt8.toInt32 :: rest) mem
    | _ => none
  | .dup => match st with
    | v :: rest => if v.category = 1 then anx (pc + 1) ls (v :: v :: rest) mem else none
    | _ => none
  | .pop => match st with
    | v :: rest => if v.category = 1 then anx (pc + 1) ls rest mem else none
    | _ => none
  | .dup2 => match st with
    | a :: b :: rest => if a.category = 1 ∧ b.category = 1 then anx (pc + 1) ls (a :: b :: a :: b :: rest) mem else none
    | _ => none
  | .ifCond c off => match st with
    | .int x :: rest => match ajmp pc off with
      | some t => if acnd c x 0 = true then anx t ls rest mem else anx (pc + 3) ls rest mem
      | none => none
    | _ => none
  | .if_icmp c off => match st with
    | .int y :: .int x :: rest => match ajmp pc off with
      | some t => if acnd c x y = true then anx t ls rest mem else anx (pc + 3) ls rest mem
      | none => none
    | _ => none
  | .goto off => ajm pc off ls st mem
  | .ifnonnull off => match st with
    | .ref o :: rest => if o = 99 then none else ajm pc off ls rest mem
    | _ => none
  | .lookupswitch dflt ps => match st with
    | .int x :: rest => if (ps.toList.zip (ps.toList.drop 1)).all (fun (a, next) => a.1 < next.1) = true then ajm pc (Op.lookupswitch.offset ps.toList dflt x.toInt) ls rest mem else none
    | _ => none
  | .tableswitch dflt lo hi offs => match st with
    | .int x :: rest => if x.toInt < lo ∨ hi < x.toInt then ajm pc dflt ls rest mem else match offs[(x.toInt - lo).toNat]? with
      | some off => ajm pc off ls rest mem
      | none => none
    | _ => none
  | .ldc k => match lk2 iTL own k with
    | some v => anx (pc + 2) ls (.int v :: st) mem
    | none => match lk2 xTL own k with
      | some i => anx (pc + 2) ls (.ref (50 + i) :: st) mem
      | none => none
  | .ldc_w k => match lk2 iTL own k with
    | some v => anx (pc + 3) ls (.int v :: st) mem
    | none => none
  | .ldc2_w k => match lk2 lTL own k with
    | some v => anx (pc + 3) ls (.long v :: st) mem
    | none => none
  | .getstatic k => if own = 10 ∧ k = 38 then anx (pc + 3) ls (.int 1 :: st) mem else if own = 10 ∧ k = 1053 then anx (pc + 3) ls (.ref 99 :: st) mem else none
  | .getfield k => match st with
    | .ref o :: rest => match lk2 fTL own k with
      | some (ci, f) => if kdp o ci then anx (pc + 3) ls (fv ci f o mem :: rest) mem else none
      | none => if own = 10 ∧ kd o = 7 then (if k = 9 then anx (pc + 3) ls (.ref (o + 10) :: rest) mem else if k = 15 then anx (pc + 3) ls (.int 0 :: rest) mem else none) else none
    | _ => none
  | .putfield k => match st with
    | .int v :: .ref o :: rest => match lk2 fTL own k with
      | some (ci, f) => if kdp o ci ∧ (rfT ci f o = none) ∧ pok ci f v then anx (pc + 3) ls rest (mset mem o f v) else none
      | none => none
    | _ => none
  | .iaload => match st with
    | .int i :: .ref o :: rest => if kdp o 5 ∧ vin i (ln o) then anx (pc + 1) ls (.int (mem o i.toNatClampNeg) :: rest) mem else if o = 90 ∧ vin i S.1 then anx (pc + 1) ls (.int (S.2 i.toNatClampNeg) :: rest) mem else none
    | _ => none
  | .iastore => match st with
    | .int v :: .int i :: .ref o :: rest => if kdp o 5 ∧ vin i (ln o) then anx (pc + 1) ls rest (mset mem o i.toNatClampNeg v) else none
    | _ => none
  | .aaload => match st with
    | .int i :: .ref o :: rest => if kdp o 6 ∧ vin i 7 then anx (pc + 1) ls (.ref (o + 1 + i.toNatClampNeg) :: rest) mem else none
    | _ => none
  | .baload => match st with
    | .int i :: .ref o :: rest => if kd o = 8 ∧ vin i (ablen o) then anx (pc + 1) ls (.int (abyt o i.toNatClampNeg) :: rest) mem else none
    | _ => none
  | .arraylength => match st with
    | .ref o :: rest => if kdp o 5 then anx (pc + 1) ls (.int (Int32.ofNat (ln o)) :: rest) mem else if kdp o 6 then anx (pc + 1) ls (.int 7 :: rest) mem else if kd o = 8 then anx (pc + 1) ls (.int (Int32.ofNat (ablen o)) :: rest) mem else if o = 90 then anx (pc + 1) ls (.int (Int32.ofNat S.1) :: rest) mem else none
    | _ => none
  | .invokestatic k => match lk2 sTL own k with
    | some (_, μ) => match mTL[μ]? with
      | some d => if d.st = true then acall call d μ pc ls st mem else none
      | none => none
    | none => none
  | .invokevirtual k => match lk2 sTL own k with
    | some (_, μ) => match mTL[μ]? with
      | some d => if d.st = false ∧ arecv d st = true then acall call d μ pc ls st mem else none
      | none => none
    | none => none
  | i => match arets i rt st with
    | some r => some (.inl (r, mem))
    | none => none
def astep (call : Cf) (S : Sc) (own : Nat) (cc : ByteArray) (rt : Option FieldType) (s : S5) : Option (Rz ⊕ S5) := match decode cc s.1 with
  | .ok (i, len) => if len = wlen i len then aex call S own rt i len s.1 s.2.1 s.2.2.1 s.2.2.2 else none
  | .error _ => none
def aloop (call : Cf) (S : Sc) (own : Nat) (cc : ByteArray) (rt : Option FieldType) : Nat → S5 → Option Rz
  | 0, _ => none
  | n + 1, s => match astep call S own cc rt s with
    | some (.inl r) => some r
    | some (.inr s') => aloop call S own cc rt n s'
    | none => none
def arun (S : Sc) : Nat → Nat → Cf
  | 0, _ => fun _ _ _ => none
  | d + 1, n => fun μ vs mem => if μ < 3 then (match amath μ vs with
    | some r => some (r, mem)
    | none => none) else match mTL[μ]? with
    | some D => if awd vs ≤ D.ml then aloop (arun S d n) S D.own D.c D.rt n (0, aent D.ml vs, [], mem) else none
    | none => none
end
section
/-! what stands in the heap for the small machine's memory -/
def tr (ad : Nat → Nat) (sp : Value) : Value → Value
  | .ref i => if i = 99 then sp else .ref (ad i)
  | v => v
theorem tr_cat {ad : Nat → Nat} {sp : Value} (hsp : sp = .null ∨ ∃ a, sp = .ref a) (v : Value) : (tr ad sp v).category = v.category := by
  cases v <;> try rfl
  rename_i i
  show (if i = 99 then sp else Value.ref (ad i)).category = 1
  by_cases h : i = 99
  · rw [if_pos h]
    rcases hsp with rfl | ⟨a, rfl⟩ <;> rfl
  · rw [if_neg h]; rfl
theorem tr_ref {ad : Nat → Nat} {sp : Value} {o : Nat} (h : o < 99) : tr ad sp (.ref o) = .ref (ad o) := by
  show (if o = 99 then sp else Value.ref (ad o)) = _
  rw [if_neg (by omega)]
def sh (ad : Nat → Nat) (sp : Value) (cI cO : ClassId) (mem : Mm) (o : Nat) : va_E := if kd o = 5 then .inl (cI, ln o, .inl (mem o)) else if kd o = 6 then .inl (cO, 7, .inr (.inr (.inr (.inr (fun j => some (ad (o + 1 + j))))))) else .inr (kd o, (List.range (nfT (kd o))).map (fun k => tr ad sp (fv (kd o) k o mem)))
theorem sh_5 {ad : Nat → Nat} {sp : Value} {cI cO : ClassId} {mem : Mm} {o : Nat} (h : kd o = 5) : sh ad sp cI cO mem o = .inl (cI, ln o, .inl (mem o)) := by rw [sh, if_pos h]
theorem sh_6 {ad : Nat → Nat} {sp : Value} {cI cO : ClassId} {mem : Mm} {o : Nat} (h : kd o = 6) : sh ad sp cI cO mem o = .inl (cO, 7, .inr (.inr (.inr (.inr (fun j => some (ad (o + 1 + j))))))) := by rw [sh, if_neg (by omega), if_pos h]
theorem sh_o {ad : Nat → Nat} {sp : Value} {cI cO : ClassId} {mem : Mm} {o ci : Nat} (h : kd o = ci) (h5 : ci < 5) : sh ad sp cI cO mem o = .inr (ci, (List.range (nfT ci)).map (fun k => tr ad sp (fv ci k o mem))) := by
  subst h
  rw [sh, if_neg (by omega), if_neg (by omega)]
theorem sh_eq {ad : Nat → Nat} {sp : Value} {cI cO : ClassId} {m1 m2 : Mm} {o : Nat} (h : m1 o = m2 o) : sh ad sp cI cO m1 o = sh ad sp cI cO m2 o := by
  simp only [sh, fv, h]
def wd (ad : Nat → Nat) (sp : Value) (cI cO : ClassId) (mem : Mm) : va_W := (List.range 44).map (fun o => (ad o, sh ad sp cI cO mem o))
theorem wd_at {ad : Nat → Nat} {sp : Value} {cI cO : ClassId} {mem : Mm} {o : Nat} (h : o < 44) : (wd ad sp cI cO mem)[o]? = some (ad o, sh ad sp cI cO mem o) := by
  rw [wd, List.getElem?_map, List.getElem?_range h]; rfl
theorem wd_of {ad : Nat → Nat} {sp : Value} {cI cO : ClassId} {mem : Mm} {k : Nat} {q : Nat × va_E} (h : (wd ad sp cI cO mem)[k]? = some q) : k < 44 ∧ q = (ad k, sh ad sp cI cO mem k) := by
  have hk : k < 44 := by
    have h1 := (List.getElem?_eq_some_iff.mp h).1
    simpa [wd] using h1
  refine ⟨hk, ?_⟩
  rw [wd_at hk] at h
  exact (Option.some.inj h).symm
theorem mset_ne {mem : Mm} {o k i : Nat} {v : Int32} (h : i ≠ o) : mset mem o k v i = mem i := by
  funext j; simp [mset, h]
theorem mset_eq {mem : Mm} {o k : Nat} {v : Int32} : mset mem o k v o = upd (mem o) k v := by
  funext j; simp [mset, upd]
theorem wd_set {ad : Nat → Nat} {sp : Value} {cI cO : ClassId} {mem : Mm} {o k : Nat} {v : Int32} {e : va_E} (h : o < 44) (he : sh ad sp cI cO (mset mem o k v) o = e) : (wd ad sp cI cO mem).set o (ad o, e) = wd ad sp cI cO (mset mem o k v) := by
  subst he
  refine List.ext_getElem? fun i => ?_
  by_cases hi : i < 44
  · rw [wd_at hi]
    by_cases ho : i = o
    · subst ho
      rw [List.getElem?_set_self (by simpa [wd] using hi)]
    · rw [List.getElem?_set_ne (fun z => ho z.symm), wd_at hi, sh_eq (mset_ne ho)]
  · have e1 : ∀ m1 : Mm, (wd ad sp cI cO m1).length = 44 := fun m1 => by simp [wd]
    rw [List.getElem?_eq_none (by rw [List.length_set, e1]; omega), List.getElem?_eq_none (by rw [e1]; omega)]
theorem wd_D {ad : Nat → Nat} {sp : Value} {cI cO : ClassId} {A : Nat → Prop} (hinj : ∀ i j, i < 44 → j < 44 → ad i = ad j → i = j) (hA : ∀ i, i < 44 → A (ad i)) (mem : Mm) : va_D A (wd ad sp cI cO mem) := by
  refine ⟨fun i j p q hi hj h => ?_, fun k q h => ?_⟩
  · obtain ⟨h1, rfl⟩ := wd_of hi
    obtain ⟨h2, rfl⟩ := wd_of hj
    exact hinj i j h1 h2 h
  · obtain ⟨h1, rfl⟩ := wd_of h
    exact hA k h1
/-- locals -/
def asl (ad : Nat → Nat) (sp : Value) (ls : Lo) : List (Nat × Value) := (List.range ls.length).filterMap (fun k => match ls[k]? with
  | some (some v) => some (k, tr ad sp v)
  | _ => none)
theorem asl_in {ad : Nat → Nat} {sp : Value} {ls : Lo} {k : Nat} {v : Value} (h : ls[k]? = some (some v)) : (k, tr ad sp v) ∈ asl ad sp ls := by
  refine List.mem_filterMap.mpr ⟨k, List.mem_range.mpr (List.getElem?_eq_some_iff.mp h).1, ?_⟩
  rw [h]
theorem asl_of {ad : Nat → Nat} {sp : Value} {ls : Lo} {q : Nat × Value} (h : q ∈ asl ad sp ls) : ∃ v, ls[q.1]? = some (some v) ∧ q.2 = tr ad sp v := by
  obtain ⟨k, -, hk⟩ := List.mem_filterMap.mp h
  split at hk
  next v hv => cases hk; exact ⟨v, hv, rfl⟩
  next => cases hk
def lh (ad : Nat → Nat) (sp : Value) (nL : Nat) (ls : Lo) (la : Array Slot) : Prop := ls.length = nL ∧ lv_has la nL (asl ad sp ls)
theorem lh_at {ad : Nat → Nat} {sp : Value} {nL : Nat} {ls : Lo} {la : Array Slot} (h : lh ad sp nL ls la) {k : Nat} {v : Value} (hk : aget ls k = some v) : la[k]? = some (.val (tr ad sp v)) := by
  have h1 : ls[k]? = some (some v) := by
    unfold aget at hk
    split at hk
    next w hw => cases hk; exact hw
    next => cases hk
  exact h.2.2.2 _ (asl_in h1)
theorem aset_0 (a : Option Value) (t : Lo) (v : Value) : aset (a :: t) 0 v = some v :: (if v.category = 2 then (match t with | [] => [] | _ :: t2 => none :: t2) else t) := rfl
theorem aset_s (a : Option Value) (t : Lo) (i : Nat) (v : Value) : aset (a :: t) (i + 1) v = (if i = 0 ∧ is2 a = true then none else a) :: aset t i v := rfl
theorem aset_len : ∀ (ls : Lo) (i : Nat) (v : Value), (aset ls i v).length = ls.length
  | [], i, v => by cases i <;> rfl
  | a :: t, 0, v => by
    rw [aset_0]
    by_cases h : v.category = 2
    · rw [if_pos h]; cases t <;> rfl
    · rw [if_neg h]; rfl
  | a :: t, i + 1, v => by
    rw [aset_s, List.length_cons, List.length_cons, aset_len t i v]
theorem aset_at : ∀ (ls : Lo) (i k : Nat) (v w : Value), (aset ls i v)[k]? = some (some w) → (k = i ∧ w = v) ∨ (k ≠ i ∧ ls[k]? = some (some w) ∧ ¬ (k + 1 = i ∧ w.category = 2) ∧ ¬ (v.category = 2 ∧ k = i + 1))
  | [], i, k, v, w, h => by cases i <;> simp [aset] at h
  | a :: t, 0, k, v, w, h => by
    rw [aset_0] at h
    cases k with
    | zero => simp at h; exact Or.inl ⟨rfl, h.symm⟩
    | succ k =>
      rw [List.getElem?_cons_succ] at h
      refine Or.inr ⟨by omega, ?_⟩
      rw [List.getElem?_cons_succ]
      by_cases hc : v.category = 2
      · rw [if_pos hc] at h
        cases t with
        | nil => simp at h
        | cons b t =>
          cases k with
          | zero => simp at h
          | succ k => exact ⟨by simpa using h, by omega, by omega⟩
      · rw [if_neg hc] at h
        exact ⟨h, by omega, fun z => hc z.1⟩
  | a :: t, i + 1, k, v, w, h => by
    rw [aset_s] at h
    cases k with
    | zero =>
      rw [List.getElem?_cons_zero] at h
      refine Or.inr ⟨by omega, ?_⟩
      rw [List.getElem?_cons_zero]
      by_cases hc : i = 0 ∧ is2 a = true
      · rw [if_pos hc] at h; simp at h
      · rw [if_neg hc] at h
        refine ⟨h, fun z => hc ⟨by omega, ?_⟩, by omega⟩
        have ha : a = some w := by simpa using h
        rw [ha]
        show (w.category == 2) = true
        rw [z.2]; rfl
    | succ k =>
      rw [List.getElem?_cons_succ] at h
      rcases aset_at t i k v w h with ⟨h1, h2⟩ | ⟨h1, h2, h3, h4⟩
      · exact Or.inl ⟨by omega, h2⟩
      · exact Or.inr ⟨by omega, by rw [List.getElem?_cons_succ]; exact h2, fun z => h3 ⟨by omega, z.2⟩, fun z => h4 ⟨z.1, by omega⟩⟩
theorem lh_set1 {ad : Nat → Nat} {sp : Value} (hsp : sp = .null ∨ ∃ a, sp = .ref a) {nL i : Nat} {ls : Lo} {la : Array Slot} {v : Value} (hlen : ls.length = nL) (h : lv_has la nL ((i, tr ad sp v) :: (asl ad sp ls).filter (fun q => !(q.1 == i) && !(q.1 + 1 == i && q.2.category == 2)))) : lh ad sp nL (aset ls i v) la := by
  refine ⟨by rw [aset_len]; exact hlen, h.1, h.2.1, fun q hq => ?_⟩
  obtain ⟨w, h1, h2⟩ := asl_of hq
  rcases aset_at ls i q.1 v w h1 with ⟨e1, e2⟩ | ⟨e1, e2, e3, -⟩
  · have := h.2.2 (i, tr ad sp v) List.mem_cons_self
    rw [h2, e1, e2]; exact this
  · have hm : q ∈ (asl ad sp ls).filter (fun q => !(q.1 == i) && !(q.1 + 1 == i && q.2.category == 2)) := by
      refine List.mem_filter.mpr ⟨?_, ?_⟩
      · have := asl_in (ad := ad) (sp := sp) e2
        rw [← h2] at this
        exact this
      · rw [h2, tr_cat hsp]
        by_cases c1 : q.1 + 1 = i
        · have : ¬ w.category = 2 := fun z => e3 ⟨c1, z⟩
          simp [e1, this]
        · simp [e1, c1]
    exact h.2.2 q (List.mem_cons_of_mem _ hm)
theorem lh_set2 {ad : Nat → Nat} {sp : Value} (hsp : sp = .null ∨ ∃ a, sp = .ref a) {nL i : Nat} {ls : Lo} {la : Array Slot} {v : Value} (hv : v.category = 2) (hlen : ls.length = nL) (h : lv_has la nL ((i, tr ad sp v) :: (asl ad sp ls).filter (fun q => !(q.1 == i) && (!(q.1 == i + 1) && !(q.1 + 1 == i && q.2.category == 2))))) : lh ad sp nL (aset ls i v) la := by
  refine ⟨by rw [aset_len]; exact hlen, h.1, h.2.1, fun q hq => ?_⟩
  obtain ⟨w, h1, h2⟩ := asl_of hq
  rcases aset_at ls i q.1 v w h1 with ⟨e1, e2⟩ | ⟨e1, e2, e3, e4⟩
  · have := h.2.2 (i, tr ad sp v) List.mem_cons_self
    rw [h2, e1, e2]; exact this
  · have hm : q ∈ (asl ad sp ls).filter (fun q => !(q.1 == i) && (!(q.1 == i + 1) && !(q.1 + 1 == i && q.2.category == 2))) := by
      refine List.mem_filter.mpr ⟨?_, ?_⟩
      · have := asl_in (ad := ad) (sp := sp) e2
        rw [← h2] at this
        exact this
      · rw [h2, tr_cat hsp]
        have c4 : ¬ q.1 = i + 1 := fun z => e4 ⟨hv, z⟩
        by_cases c1 : q.1 + 1 = i
        · have : ¬ w.category = 2 := fun z => e3 ⟨c1, z⟩
          simp [e1, this, c4]
        · simp [e1, c1, c4]
    exact h.2.2 q (List.mem_cons_of_mem _ hm)
theorem aent_len : ∀ (vs : List Value) (n : Nat), awd vs ≤ n → (aent n vs).length = n
  | [], n, _ => by simp [aent]
  | v :: vs, n, h => by
    have h1 : v.category + awd vs ≤ n := by simpa [awd] using h
    rw [aent]
    by_cases hc : v.category = 2
    · rw [if_pos hc, List.length_cons, List.length_cons, aent_len vs (n - 2) (by omega)]; omega
    · have hc1 : v.category = 1 := by rcases lv_cat v with z | z <;> omega
      rw [if_neg hc, List.length_cons, aent_len vs (n - 1) (by omega)]; omega
theorem aent_at {ad : Nat → Nat} {sp : Value} (hsp : sp = .null ∨ ∃ a, sp = .ref a) : ∀ (vs : List Value) (n b k : Nat) (w : Value), (aent n vs)[k]? = some (some w) → (b + k, tr ad sp w) ∈ lv_args b (vs.map (tr ad sp))
  | [], n, b, k, w, h => by
    rw [aent] at h
    have := List.eq_of_mem_replicate (List.mem_of_getElem? h)
    cases this
  | v :: vs, n, b, k, w, h => by
    rw [aent] at h
    rw [List.map_cons, lv_args, tr_cat hsp]
    by_cases hc : v.category = 2
    · rw [if_pos hc] at h ⊢
      match k, h with
      | 0, h => simp at h; rw [h]; exact List.mem_cons_self
      | 1, h => simp at h
      | k + 2, h =>
        have h1 : (aent (n - 2) vs)[k]? = some (some w) := by simpa using h
        have := aent_at (ad := ad) hsp vs (n - 2) (b + 2) k w h1
        rw [show b + 2 + k = b + (k + 2) by omega] at this
        exact List.mem_cons_of_mem _ this
    · rw [if_neg hc] at h ⊢
      match k, h with
      | 0, h => simp at h; rw [h]; exact List.mem_cons_self
      | k + 1, h =>
        have h1 : (aent (n - 1) vs)[k]? = some (some w) := by simpa using h
        have := aent_at (ad := ad) hsp vs (n - 1) (b + 1) k w h1
        rw [show b + 1 + k = b + (k + 1) by omega] at this
        exact List.mem_cons_of_mem _ this
theorem lh_ent {ad : Nat → Nat} {sp : Value} (hsp : sp = .null ∨ ∃ a, sp = .ref a) {vs : List Value} {n : Nat} {la : Array Slot} (hw : awd vs ≤ n) (h : lv_has la n (lv_args 0 (vs.map (tr ad sp)))) : lh ad sp n (aent n vs) la := by
  refine ⟨aent_len vs n hw, h.1, h.2.1, fun q hq => ?_⟩
  obtain ⟨w, h1, h2⟩ := asl_of hq
  have := aent_at (ad := ad) hsp vs n 0 q.1 w h1
  rw [Nat.zero_add, ← h2] at this
  exact h.2.2 q this
theorem awd_sl {ad : Nat → Nat} {sp : Value} (hsp : sp = .null ∨ ∃ a, sp = .ref a) : ∀ vs : List Value, (lg_sl (vs.map (tr ad sp))).length = awd vs
  | [] => rfl
  | v :: vs => by
    have ih := awd_sl hsp vs (ad := ad)
    simp only [lg_sl, awd, List.map_cons, List.flatMap_cons, List.length_append, List.sum_cons] at ih ⊢
    rw [ih, tr_cat hsp]
    rcases lv_cat v with z | z <;> simp [z]
end
section
/-! the small machine's steps are the machine's -/
def AD (ad : Nat → Nat) : Nat → Prop := fun q => ∃ i, i < 44 ∧ q = ad i
def tyW (cI cO : ClassId) : List (ClassId × FieldType) := [(cI, .int), (cO, .object RX0)]
def KX (D : va_G) (ad : Nat → Nat) (sp : Value) (cI cO : ClassId) (S : Sc) (A : Nat → Prop) (U : State) (H : Heap) : Prop :=
  va_K D vwCl (tyW cI cO) U ∧ (∀ w ∈ nlk, va_Nw w U) ∧ vk_S 8 kLen kByt (fun i => ad (50 + i)) (fun i => ad (60 + i)) A U H ∧ (∀ i, i < 8 → vk_R RX1 (kIx i) (kTx i) (ad (50 + i)) U) ∧ va_Z RJ0 "COMPACT_STRINGS" "Z" (.int 1) A U H ∧ va_Z RJ3 "SIOOBE_FORMATTER" "Ljava/util/function/BiFunction;" sp A U H ∧ (va_X (ad 90) S.1 S.2 U H ∧ ad 90 < H.size ∧ ¬ A (ad 90))
theorem nlk_form : ∀ w ∈ nlk, ∃ a i x h, w = Jvm.Cond.methodLinkNest a i x h := by
  intro w hw
  simp only [nlk, List.mem_cons, List.not_mem_nil, or_false] at hw
  rcases hw with rfl | rfl | rfl | rfl | rfl <;> exact ⟨_, _, _, _, rfl⟩
theorem KX.go {D : va_G} {ad : Nat → Nat} {sp : Value} {cI cO : ClassId} {S : Sc} {A B : Nat → Prop} {U U' : State} {H H' : Heap} (h : KX D ad sp cI cO S A U H) (hW : U.WarmedH U'.vm) (hz : H.size ≤ H'.size) (hk : ∀ q, q < H.size → ¬ A q → H'[q]? = H[q]?) (hAB : ∀ q, B q → A q) : KX D ad sp cI cO S B U' H' := by
  obtain ⟨h1, h2, h3, h4, h5, h6, h7, h8, h9⟩ := h
  refine ⟨va_K.moved hW.alike h1, fun w hw => ?_, ((vk_S.moved hW.alike h3).kept hk).narrow hAB, fun i hi => (h4 i hi).warm hW, ((va_Z.moved hW.alike h5).kept hk).narrow hAB, ((va_Z.moved hW.alike h6).kept hk).narrow hAB, (va_X.moved hW.alike h7).kept (hk _ h8 h9), Nat.lt_of_lt_of_le h8 hz, fun z => h9 (hAB _ z)⟩
  obtain ⟨a, i, x, h, rfl⟩ := nlk_form w hw
  exact va_Nw.warmM hW (h2 _ hw)
def PC (D : va_G) (ad : Nat → Nat) (sp : Value) (cI cO : ClassId) (S : Sc) (vs : List Value) (mem : Mm) : Array Value → State → Prop := va_Pc (vs.map (tr ad sp)) (fun U => va_P D vwCl (wd ad sp cI cO mem) U.heap ∧ KX D ad sp cI cO S (AD ad) U U.heap)
theorem PC_blind {D : va_G} {ad : Nat → Nat} {sp : Value} {cI cO : ClassId} {S : Sc} {vs : List Value} {mem : Mm} : FrameBlind (PC D ad sp cI cO S vs mem) := by
  intro a U g mk q
  obtain ⟨q1, q2, q3⟩ := q
  exact ⟨q1, q2, q3.go (U' := U.calling g mk a) (State.WarmedH.refl U) (Nat.le_refl _) (fun _ _ _ => rfl) (fun _ h => h)⟩
def QC (D : va_G) (ad : Nat → Nat) (sp : Value) (cI cO : ClassId) (r : Option Value) (mem : Mm) : Array Value → State → Outcome → State → Prop := fun _ st o t => o = .returned (r.map (tr ad sp)) ∧ va_P D vwCl (wd ad sp cI cO mem) t.heap ∧ va_F (AD ad) st t
def wsM (d : MD) : List Jvm.Cond := Jvm.Cond.code d.y d.c d.ml d.rt :: BW
/-- what is known of a call -/
def CallOk (l : Launch) (R : Room) (D : va_G) (ad : Nat → Nat) (sp : Value) (cI cO : ClassId) (S : Sc) (call : Cf) : Prop := ∀ (μ : Nat) (vs : List Value) (mem : Mm) (r : Option Value) (mem' : Mm), call μ vs mem = some (r, mem') →
  (3 ≤ μ ∧ ∃ (d : MD) (rm : Room), mTL[μ]? = some d ∧ Met l d.y (wsM d) rm (PC D ad sp cI cO S vs mem) (QC D ad sp cI cO r mem') 0 0 (AD ad) ∧ rm.cells = 0 ∧ rm.slots = 0 ∧ rm.frames + 1 ≤ R.frames ∧ 34 + rm.locals ≤ R.locals) ∨
  (μ < 3 ∧ amath μ vs = some r ∧ mem' = mem ∧ 1 ≤ R.frames ∧ 21 ≤ R.locals)
section SND
variable {p : Program} {l : Launch} {e : Env} {R : Room} {s : State} {m : MethodId} {args : Array Value} {below : List Frame} {meth : Method} {c : Code} {H : Heap} {locs : List Loc} {cells slots : Nat} {Q : State → Prop}
variable {D : va_G} {ad : Nat → Nat} {sp : Value} {cI cO : ClassId} {S : Sc} {A : Nat → Prop} {call : Cf} {own : Nat} {cc : ByteArray} {rt : Option FieldType} {nL : Nat}
theorem ab_back {pc : Nat} {la : Array Slot} {st0 rest : List Value} {r : Option Value} {mem' : Mm} {a : Array Value} (hr : va_Run p l e R s m args below meth c H locs cells slots 0 0 (F0 m pc la st0) rest (QC D ad sp cI cO r mem' a) (AD ad)) (hS : va_S A s.heap H locs) (hAD : ∀ q, AD ad q → A q)
    (kk : ∀ (H1 : Heap) (locs1 : List Loc), va_P D vwCl (wd ad sp cI cO mem') H1 → va_S A s.heap H1 locs1 → W p l e R s m args below meth c H1 locs1 cells slots Q (F0 m (pc + 3) la ((r.map (tr ad sp)).toList ++ rest))) : W p l e R s m args below meth c H locs cells slots Q (F0 m pc la st0) := by
  intro T hT X
  obtain ⟨v, st₀, t, T', L, h0, X', hL, e1, e2, ⟨hv, hp, hz, hk⟩, st⟩ := hr T hT X
  have hv' : v = r.map (tr ad sp) := by injection hv
  subst hv'
  rw [h0] at hz hk
  obtain ⟨t2, a1, b1⟩ := kk T'.heap (locs ++ L) (by rw [e1]; exact hp) ⟨Nat.le_trans hS.1 (by rw [e1]; exact hz), fun q h1 h2 => by rw [e1, hk q (Nat.lt_of_lt_of_le h1 hS.1) (fun z => h2 (hAD q z))]; exact hS.2.1 q h1 h2, fun q hq => by
      rcases List.mem_append.mp hq with h | h
      · exact hS.2.2 q h
      · exact hAD _ (hL q h)⟩ T' rfl X'
  exact ⟨t2, st t2 a1, b1⟩
theorem isI_of {v : Value} (h : isI v = true) : ∃ x, v = .int x := by cases v <;> first | exact ⟨_, rfl⟩ | cases h
theorem isL_of {v : Value} (h : isL v = true) : ∃ x, v = .long x := by cases v <;> first | exact ⟨_, rfl⟩ | cases h
theorem isR_of {v : Value} (h : isR v = true) : ∃ x, v = .ref x := by cases v <;> first | exact ⟨_, rfl⟩ | cases h
theorem tr_ref_or (hsp : sp = .null ∨ ∃ a, sp = .ref a) (o : Nat) : tr ad sp (.ref o) = .null ∨ ∃ a, tr ad sp (.ref o) = .ref a := by
  show (if o = 99 then sp else Value.ref (ad o)) = _ ∨ ∃ a, (if o = 99 then sp else Value.ref (ad o)) = _
  by_cases h : o = 99
  · rw [if_pos h]; exact hsp
  · rw [if_neg h]; exact Or.inr ⟨_, rfl⟩
theorem goodIn_ws {d : MD} (hd : FdP d) : ∀ w ∈ wsM d, w ∈ BW := by
  intro w hw
  rcases List.mem_cons.mp hw with rfl | h
  · exact bw hd.1.1 rfl
  · exact h
theorem goodIn_bw {ws : List Jvm.Cond} (h : ∀ w ∈ ws, w ∈ BW) : GoodIn BW ws := fun w hw => ⟨h w hw, good_of_word (List.mem_filter.mp (h w hw)).2⟩
theorem awd_tr (hsp : sp = .null ∨ ∃ a, sp = .ref a) (vs : List Value) : ((vs.map (tr ad sp)).map fun v => v.category).sum = awd vs := by
  induction vs with
  | nil => rfl
  | cons v vs ih =>
    simp only [List.map_cons, List.sum_cons, awd] at ih ⊢
    rw [ih, tr_cat hsp]
theorem take_drop_stack (st : List Value) (n : Nat) : st.map (tr ad sp) = (((st.take n).reverse).map (tr ad sp)).reverse ++ (st.drop n).map (tr ad sp) := by
  rw [← List.map_reverse, List.reverse_reverse, ← List.map_append, List.take_append_drop]
theorem math_name {μ : Nat} {d : MD} (h : μ < 3) (hd : mTL[μ]? = some d) : (μ = 0 ∧ d = md_J9_abs_0f7a4) ∨ (μ = 1 ∧ d = md_J9_max_7cf53) ∨ (μ = 2 ∧ d = md_J9_min_7cf53) := by
  rcases (by omega : μ = 0 ∨ μ = 1 ∨ μ = 2) with rfl | rfl | rfl
  · exact Or.inl ⟨rfl, (Option.some.inj (mt_J9_abs_0f7a4.symm.trans hd)).symm⟩
  · exact Or.inr (Or.inl ⟨rfl, (Option.some.inj (mt_J9_max_7cf53.symm.trans hd)).symm⟩)
  · exact Or.inr (Or.inr ⟨rfl, (Option.some.inj (mt_J9_min_7cf53.symm.trans hd)).symm⟩)
set_option maxHeartbeats 4000000 in
/-- a static call -/
theorem ab_calls (hsp : sp = .null ∨ ∃ a, sp = .ref a) (hx : p.tables.exec = Jvm.exec) (hb : c.code = cc) (hml : c.maxLocals = nL) (hown : s.vm.findClass (cn own) = some m.cls) (hts : ∀ w ∈ BW, w.before args s = true) (hKX : KX D ad sp cI cO S A s s.heap) (hAD : ∀ q, AD ad q → A q) (hcs : cells ≤ R.cells ∧ slots ≤ R.slots) (hcall : CallOk l R D ad sp cI cO S call)
    {pc k μ : Nat} {nst : Bool} {d : MD} {ls : Lo} {la : Array Slot} {st : List Value} {mem : Mm} {o : Rz ⊕ S5} (hdg : decode cc pc = .ok (.invokestatic k, 3)) (hs : lk2 sTL own k = some (nst, μ)) (hd : mTL[μ]? = some d) (hst : d.st = true) (h : acall call d μ pc ls st mem = some o)
    (hP : va_P D vwCl (wd ad sp cI cO mem) H) (hS : va_S A s.heap H locs) (hL : lh ad sp nL ls la)
    (hN : ∀ pc' ls' st' mem', o = .inr (pc', ls', st', mem') → ∀ H locs la, va_P D vwCl (wd ad sp cI cO mem') H → va_S A s.heap H locs → lh ad sp nL ls' la → W p l e R s m args below meth c H locs cells slots Q (F0 m pc' la (st'.map (tr ad sp)))) : W p l e R s m args below meth c H locs cells slots Q (F0 m pc la (st.map (tr ad sp))) := by
  have hfd := mok d (List.mem_of_getElem? hd)
  obtain ⟨d0, hd0, hlink⟩ := sok _ (lk2_mem hs)
  have hdd : d0 = d := Option.some.inj (hd0.symm.trans hd)
  subst hdd
  dsimp only at hlink
  obtain ⟨⟨f1, f2⟩, ⟨f3, f4, f5⟩, f6, f7⟩ := id hfd
  have hstat : Jvm.Cond.static d0.y ∈ BW := by
    rcases f6 with ⟨-, z⟩ | ⟨z, -⟩
    · exact bw z rfl
    · rw [hst] at z; cases z
  unfold acall at h
  rw [if_pos hst] at h
  dsimp only at h
  split at h
  next hn =>
    obtain ⟨hn1, hn2⟩ := hn
    split at h
    next r mem' hc =>
      cases h
      have hN' := hN _ _ _ _ rfl
      have hroom : 2 * (F0 m pc la (st.map (tr ad sp))).monitorRoom + (((st.drop d0.na).map (tr ad sp)).map fun v => v.category).sum ≤ 8 := lv_room (by rw [awd_tr hsp]; exact hn2)
      rcases hcall _ _ _ _ _ hc with ⟨hμ, d1, rm, g1, hM, g2, g3, g4, g5⟩ | ⟨hμ, ha, rfl, g4, g5⟩
      · have hd1 : d1 = d0 := Option.some.inj (g1.symm.trans hd)
        subst hd1
        have hPS : PreS s H (PC D ad sp cI cO S (st.take d1.na).reverse mem) (((st.take d1.na).reverse).map (tr ad sp)) := ⟨PC_blind, fun U hU hW => ⟨rfl, by rw [hU]; exact hP, hKX.go (U' := U) hW (by rw [hU]; exact hS.1) (fun q h1 h2 => by rw [hU]; exact hS.2.1 q h1 h2) hAD⟩⟩
        have hlen : (((st.take d1.na).reverse).map (tr ad sp)).length = d1.na := by simp; omega
        have hrR : rm.frames + 1 ≤ R.frames ∧ 8 + (d1.ml + 11) + rm.locals ≤ R.locals := ⟨g4, by omega⟩
        have hcs' : cells + 0 ≤ R.cells ∧ slots + 0 ≤ R.slots := hcs
        have fin : ∀ (H1 : Heap) (locs1 : List Loc), va_P D vwCl (wd ad sp cI cO mem') H1 → va_S A s.heap H1 locs1 → W p l e R s m args below meth c H1 locs1 cells slots Q (F0 m (pc + 3) la ((r.map (tr ad sp)).toList ++ (st.drop d1.na).map (tr ad sp))) := by
          intro H1 locs1 q1 q2
          have := hN' H1 locs1 la q1 q2 hL
          rw [List.map_append] at this
          cases r <;> exact this
        rcases hlink with ⟨-, hl⟩ | ⟨-, -, hl⟩
        · exact ab_back (va_runS (own := cn own) (nL := nL) (Ts := BW) ⟨hx, hb, hml, hown, hts⟩ hM (va_cwS d1.na hts (goodIn_bw (fun w hw => by
            rcases List.mem_append.mp hw with z | z
            · simp only [List.mem_cons, List.not_mem_nil, or_false] at z
              rcases z with rfl | rfl | rfl
              · exact bw hl rfl
              · exact hstat
              · exact bw f2 rfl
            · exact goodIn_ws hfd w z)) rfl g2 g3 f5 hrR) hPS rfl hlen hL.2.1 (take_drop_stack st d1.na) hroom hdg hcs') hS hAD fin
        · exact ab_back (va_runSN (own := cn own) (nL := nL) (Ts := BW) ⟨hx, hb, hml, hown, hts⟩ hM ⟨va_cnB d1.na hts (goodIn_bw (goodIn_ws hfd)) rfl g2 g3 (hKX.2.1 _ hl) (hts _ (bw f2 rfl)) f5 hrR, hts _ hstat, trivial⟩ hPS rfl hlen hL.2.1 (take_drop_stack st d1.na) hroom hdg hcs') hS hAD fin
      · have hni : nst = false := by
          rcases hlink with ⟨z, -⟩ | ⟨z, -, z2⟩
          · exact z
          · exfalso
            rcases math_name hμ hd with ⟨-, rfl⟩ | ⟨-, rfl⟩ | ⟨-, rfl⟩ <;> exact absurd z2 (by simp [nlk, MD.y, md_J9_abs_0f7a4, md_J9_max_7cf53, md_J9_min_7cf53, yX3_rangeFault, yX3_firstOf, yX3_whatFault, yX3_leastChoice, yX3_mostChoice, yJ9_abs_0f7a4, yJ9_max_7cf53, yJ9_min_7cf53, RJ9, RX3])
        have hl : Jvm.Cond.methodLink (cn own) k d0.y ∈ lw_tbl := by
          rcases hlink with ⟨-, z⟩ | ⟨z, -⟩
          · exact z
          · rw [hni] at z; cases z
        have hw8 : (((st.drop d0.na).map (tr ad sp)).map fun v => v.category).sum + 13 ≤ R.locals := by rw [awd_tr hsp]; omega
        have q1 := hts _ (bw hl rfl)
        have q2 := hts _ hstat
        have q3 := hts _ (bw f2 rfl)
        have q4 := hts _ (bw f1 rfl)
        have hst2 := take_drop_stack (ad := ad) (sp := sp) st d0.na
        have fin := hN' H locs la hP hS hL
        rcases math_name hμ hd with ⟨rfl, rfl⟩ | ⟨rfl, rfl⟩ | ⟨rfl, rfl⟩
        · generalize hvs : (st.take (MD.na md_J9_abs_0f7a4)).reverse = vs at ha hst2
          match vs, ha with
          | [.int x], ha =>
            cases ha
            rw [hst2]
            exact va_mabs (own := cn own) hx hb (hml.trans hL.2.1.symm) hown q1 q2 q3 q4 g4 hw8 hcs.1 hcs.2 hdg fin
        · generalize hvs : (st.take (MD.na md_J9_max_7cf53)).reverse = vs at ha hst2
          match vs, ha with
          | [.int x, .int y], ha =>
            cases ha
            rw [hst2]
            exact va_mmax (own := cn own) hx hb (hml.trans hL.2.1.symm) hown q1 q2 q3 q4 g4 hw8 hcs.1 hcs.2 hdg fin
        · generalize hvs : (st.take (MD.na md_J9_min_7cf53)).reverse = vs at ha hst2
          match vs, ha with
          | [.int x, .int y], ha =>
            cases ha
            rw [hst2]
            exact va_mmin (own := cn own) hx hb (hml.trans hL.2.1.symm) hown q1 q2 q3 q4 g4 hw8 hcs.1 hcs.2 hdg fin
    next => cases h
  next => cases h
end SND
end
section
section SND2
variable {p : Program} {l : Launch} {e : Env} {R : Room} {s : State} {m : MethodId} {args : Array Value} {below : List Frame} {meth : Method} {c : Code} {H : Heap} {locs : List Loc} {cells slots : Nat} {Q : State → Prop}
variable {D : va_G} {ad : Nat → Nat} {sp : Value} {cI cO : ClassId} {S : Sc} {A : Nat → Prop} {call : Cf} {own : Nat} {cc : ByteArray} {rt : Option FieldType} {nL : Nat}
theorem arecv_of {d : MD} {st : List Value} (h : arecv d st = true) : ∃ o : Nat, st[d.na]? = some (.ref o) ∧ ((d.own < 5 ∧ kd o = d.own ∧ o < 44) ∨ (d.own = 10 ∧ kd o = 7)) := by
  unfold arecv at h
  split at h
  next o ho =>
    refine ⟨o, ho, ?_⟩
    split at h
    next h5 => exact Or.inl ⟨h5, (of_decide_eq_true h).1, (of_decide_eq_true h).2⟩
    next => exact Or.inr (of_decide_eq_true h)
  next => cases h
theorem kd7 {o : Nat} (h : kd o = 7) : 50 ≤ o ∧ o < 58 := by
  unfold kd at h
  split at h
  next ho =>
    exfalso
    have : ∀ i, i < 44 → ¬ kdL.getD i 99 = 7 := by decide
    exact this o ho h
  next => split at h <;> (try omega); split at h <;> (try omega); split at h <;> (try omega); split at h <;> (try omega); split at h <;> omega
theorem kd8 {o : Nat} (h : kd o = 8) : 60 ≤ o ∧ o < 68 := by
  unfold kd at h
  split at h
  next ho =>
    exfalso
    have : ∀ i, i < 44 → ¬ kdL.getD i 99 = 8 := by decide
    exact this o ho h
  next => split at h <;> (try omega); split at h <;> (try omega); split at h <;> (try omega); split at h <;> (try omega); split at h <;> omega
theorem n44 {o : Nat} (h : o < 44) : o < 99 := by omega
theorem k7_99 {o : Nat} (h : kd o = 7) : o < 99 := by have := kd7 h; omega
theorem k8_99 {o : Nat} (h : kd o = 8) : o < 99 := by have := kd8 h; omega
theorem k7_v {o : Nat} (h : kd o = 7) : o + 10 < 99 := by have := kd7 h; omega
theorem ks_of {H : Heap} (h : vk_S 8 kLen kByt (fun i => ad (50 + i)) (fun i => ad (60 + i)) A s H) {o : Nat} (ho : kd o = 7) : va_OF "java/lang/String" "coder" "B" (.int 0) (ad o) A s H ∧ va_OF "java/lang/String" "value" "[B" (.ref (ad (o + 10))) (ad o) A s H := by
  have h1 := kd7 ho
  have hs := h.1 (o - 50) (by omega)
  dsimp only at hs
  rw [show 50 + (o - 50) = o by omega, show 60 + (o - 50) = o + 10 by omega] at hs
  exact ⟨hs.2.1, hs.2.2.1⟩
theorem kb_of {H : Heap} (h : vk_S 8 kLen kByt (fun i => ad (50 + i)) (fun i => ad (60 + i)) A s H) {o : Nat} (ho : kd o = 8) : va_T .byte (ad o) (ablen o) (fun j => .int (abyt o j)) A s H := by
  have h1 := kd8 ho
  have hs := (h.1 (o - 60) (by omega)).2.2.2
  dsimp only at hs
  rw [show 60 + (o - 60) = o by omega] at hs
  exact hs
theorem vwCl_at {ci : Nat} (h : ci < 5) : vwCl[ci]? = some (cn ci, TT ci, nfT ci) := by
  rcases (by omega : ci = 0 ∨ ci = 1 ∨ ci = 2 ∨ ci = 3 ∨ ci = 4) with rfl | rfl | rfl | rfl | rfl <;> rfl
theorem inTT {ci : Nat} (h : ci < 5) : ∀ w ∈ u_ws (cn ci) (TT ci) (nfT ci), w ∈ BW := by
  have good : ∀ (C : String) (T : u_T) (N : Nat), ∀ w ∈ u_ws C T N, goodWord w = true := by
    intro C T N w hw
    obtain ⟨k, -, rfl⟩ := List.mem_map.mp hw
    unfold u_lay
    split <;> rfl
  intro w hw
  refine bw ?_ (good _ _ _ w hw)
  rcases (by omega : ci = 0 ∨ ci = 1 ∨ ci = 2 ∨ ci = 3 ∨ ci = 4) with rfl | rfl | rfl | rfl | rfl
  · exact inX0 w hw
  · exact inX1 w hw
  · exact inX2 w hw
  · exact inX3 w hw
  · exact inX4 w hw
set_option maxHeartbeats 4000000 in
/-- a call on an object -/
theorem ab_callv (hsp : sp = .null ∨ ∃ a, sp = .ref a) (hx : p.tables.exec = Jvm.exec) (hb : c.code = cc) (hml : c.maxLocals = nL) (hown : s.vm.findClass (cn own) = some m.cls) (hts : ∀ w ∈ BW, w.before args s = true) (hKX : KX D ad sp cI cO S A s s.heap) (hAD : ∀ q, AD ad q → A q) (hcs : cells ≤ R.cells ∧ slots ≤ R.slots) (hcall : CallOk l R D ad sp cI cO S call)
    {pc k μ : Nat} {nst : Bool} {d : MD} {ls : Lo} {la : Array Slot} {st : List Value} {mem : Mm} {o : Rz ⊕ S5} (hdg : decode cc pc = .ok (.invokevirtual k, 3)) (hs : lk2 sTL own k = some (nst, μ)) (hd : mTL[μ]? = some d) (hst : d.st = false) (hrv : arecv d st = true) (h : acall call d μ pc ls st mem = some o)
    (hP : va_P D vwCl (wd ad sp cI cO mem) H) (hS : va_S A s.heap H locs) (hL : lh ad sp nL ls la)
    (hN : ∀ pc' ls' st' mem', o = .inr (pc', ls', st', mem') → ∀ H locs la, va_P D vwCl (wd ad sp cI cO mem') H → va_S A s.heap H locs → lh ad sp nL ls' la → W p l e R s m args below meth c H locs cells slots Q (F0 m pc' la (st'.map (tr ad sp)))) : W p l e R s m args below meth c H locs cells slots Q (F0 m pc la (st.map (tr ad sp))) := by
  have hfd := mok d (List.mem_of_getElem? hd)
  obtain ⟨d0, hd0, hlink⟩ := sok _ (lk2_mem hs)
  have hdd : d0 = d := Option.some.inj (hd0.symm.trans hd)
  subst hdd
  dsimp only at hlink
  obtain ⟨⟨f1, f2⟩, ⟨f3, f4, f5⟩, f6, f7⟩ := id hfd
  obtain ⟨hin, hse⟩ : Jvm.Cond.instanceMethod d0.y ∈ BW ∧ Jvm.Cond.selects d0.y.cls d0.y d0.y ∈ BW := by
    rcases f6 with ⟨z, -⟩ | ⟨-, z1, z2⟩
    · rw [hst] at z; cases z
    · exact ⟨bw z1 rfl, bw z2 rfl⟩
  have hl : Jvm.Cond.methodLink (cn own) k d0.y ∈ lw_tbl := by
    rcases hlink with ⟨-, z⟩ | ⟨-, z, -⟩
    · exact z
    · rw [hst] at z; cases z
  obtain ⟨ob, hob, hkind⟩ := arecv_of hrv
  unfold acall at h
  rw [if_neg (show ¬ d0.st = true by rw [hst]; exact Bool.false_ne_true)] at h
  dsimp only at h
  split at h
  next hn =>
    obtain ⟨hn1, hn2⟩ := hn
    split at h
    next r mem' hc =>
      cases h
      have hN' := hN _ _ _ _ rfl
      have hroom : 2 * (F0 m pc la (st.map (tr ad sp))).monitorRoom + (((st.drop (d0.na + 1)).map (tr ad sp)).map fun v => v.category).sum ≤ 8 := lv_room (by rw [awd_tr hsp]; exact hn2)
      have htk : (st.take (d0.na + 1)).reverse = .ref ob :: (st.take d0.na).reverse := by
        rw [List.take_add_one, hob]
        simp
      have hob99 : ob < 99 := by
        rcases hkind with ⟨-, -, z⟩ | ⟨-, z⟩
        · omega
        · have := kd7 z; omega
      have hvs : ((st.take (d0.na + 1)).reverse).map (tr ad sp) = .ref (ad ob) :: ((st.take d0.na).reverse).map (tr ad sp) := by
        rw [htk, List.map_cons, tr_ref hob99]
      have hstk : st.map (tr ad sp) = (((st.take d0.na).reverse).map (tr ad sp)).reverse ++ .ref (ad ob) :: (st.drop (d0.na + 1)).map (tr ad sp) := by
        rw [take_drop_stack st (d0.na + 1), hvs, List.reverse_cons, List.append_assoc]
        rfl
      rcases hcall _ _ _ _ _ hc with ⟨hμ, d1, rm, g1, hM, g2, g3, g4, g5⟩ | ⟨hμ, ha, -⟩
      · have hd1 : d1 = d0 := Option.some.inj (g1.symm.trans hd)
        subst hd1
        have hrecv : ∃ cellB : Cell, H[ad ob]? = some cellB ∧ cellB.vm.isStatics = false ∧ s.vm.findClass d1.y.cls = some cellB.cls := by
          rcases hkind with ⟨z1, z2, z3⟩ | ⟨z1, z2⟩
          · have he := wd_at (ad := ad) (sp := sp) (cI := cI) (cO := cO) (mem := mem) z3
            rw [sh_o z2 z1] at he
            rw [f3]
            exact va_recv hKX.1 hP (vwCl_at z1) he
          · rw [f3, z1]
            obtain ⟨k1, k2⟩ := kd7 z2
            have := vk_recv (i := ob - 50) hKX.2.2.1 (by omega) hS
            rw [show 50 + (ob - 50) = ob by omega] at this
            exact this
        have hPV : PreV s H d1.y.cls (ad ob) (PC D ad sp cI cO S (st.take (d1.na + 1)).reverse mem) (((st.take d1.na).reverse).map (tr ad sp)) := ⟨PC_blind, hrecv, fun U hU hW => ⟨by rw [hvs], by rw [hU]; exact hP, hKX.go (U' := U) hW (by rw [hU]; exact hS.1) (fun q h1 h2 => by rw [hU]; exact hS.2.1 q h1 h2) hAD⟩⟩
        have hlen : (((st.take d1.na).reverse).map (tr ad sp)).length = d1.na := by simp; omega
        have hrR : rm.frames + 1 ≤ R.frames ∧ 8 + (d1.ml + 11) + rm.locals ≤ R.locals := ⟨g4, by omega⟩
        have hcs' : cells + 0 ≤ R.cells ∧ slots + 0 ≤ R.slots := hcs
        have fin : ∀ (H1 : Heap) (locs1 : List Loc), va_P D vwCl (wd ad sp cI cO mem') H1 → va_S A s.heap H1 locs1 → W p l e R s m args below meth c H1 locs1 cells slots Q (F0 m (pc + 3) la ((r.map (tr ad sp)).toList ++ (st.drop (d1.na + 1)).map (tr ad sp))) := by
          intro H1 locs1 q1 q2
          have := hN' H1 locs1 la q1 q2 hL
          rw [List.map_append] at this
          cases r <;> exact this
        exact ab_back (va_runV (own := cn own) (nL := nL) (Ts := BW) ⟨hx, hb, hml, hown, hts⟩ hM (cwV d1.na hts (goodIn_bw (fun w hw => by
            rcases List.mem_append.mp hw with z | z
            · simp only [List.mem_cons, List.not_mem_nil, or_false] at z
              rcases z with rfl | rfl | rfl | rfl
              · exact bw hl rfl
              · exact hin
              · exact hse
              · exact bw f2 rfl
            · exact goodIn_ws hfd w z)) rfl g2 g3 ⟨rfl, f5⟩ hrR) hPV rfl hlen hL.2.1 hstk hroom hdg hcs') hS hAD fin
      · exfalso
        rcases math_name hμ hd with ⟨-, rfl⟩ | ⟨-, rfl⟩ | ⟨-, rfl⟩ <;> cases hst
    next => cases h
  next => cases h
end SND2
end
section
section SND3A
theorem q7 {x i : Nat} (h : x < 44) (hi : i < 7) : x + 1 + i < 99 := by omega
theorem ajmp_of {pc t : Nat} {off : Int} (h : ajmp pc off = some t) : (pc : Int) + off = (t : Int) := by
  unfold ajmp at h
  by_cases hz : 0 ≤ (pc : Int) + off
  · rw [if_pos hz] at h
    cases h
    omega
  · rw [if_neg hz] at h
    cases h
def tyT : Nat → Nat → FieldType
  | 0 => tyX0
  | 1 => tyX1
  | 2 => tyX2
  | 3 => tyX3
  | _ => tyX4
theorem tyT_ok {ci : Nat} (h : ci < 5) : ∀ k, k < nfT ci → parseFieldDescriptor (TT ci k).2.2.1 = some (tyT ci k) := by
  rcases (by omega : ci = 0 ∨ ci = 1 ∨ ci = 2 ∨ ci = 3 ∨ ci = 4) with rfl | rfl | rfl | rfl | rfl
  · exact tyX0_ok
  · exact tyX1_ok
  · exact tyX2_ok
  · exact tyX3_ok
  · exact tyX4_ok
theorem nmT {ci : Nat} (h : ci < 5) : ∀ a, a < nfT ci → ∀ b, b < nfT ci → a ≠ b → (TT ci a).2.1 ≠ (TT ci b).2.1 := by
  rcases (by omega : ci = 0 ∨ ci = 1 ∨ ci = 2 ∨ ci = 3 ∨ ci = 4) with rfl | rfl | rfl | rfl | rfl
  · exact nmX0
  · exact nmX1
  · exact nmX2
  · exact nmX3
  · exact nmX4
/-- a field that holds an int is written: it isn't final, and the value fits -/
theorem tt_int {ci f o : Nat} {v : Int32} (h : ci < 5) (hf : f < nfT ci) (hr : rfT ci f o = none) (hv : pok ci f v) : (TT ci f).2.2.2 = false ∧ parseFieldDescriptor (TT ci f).2.2.1 = some (tyT ci f) ∧ narrow (tyT ci f) (.int v) = .int v ∧ fits (tyT ci f) (.int v) = true := by
  have hd := tyT_ok h f hf
  have key : (TT ci f).2.2.2 = false ∧ ((¬ ((ci = 3 ∧ f = 3) ∨ (ci = 4 ∧ f = 4)) ∧ tyT ci f = .int) ∨ (((ci = 3 ∧ f = 3) ∨ (ci = 4 ∧ f = 4)) ∧ tyT ci f = .boolean)) := by
    rcases (by omega : ci = 0 ∨ ci = 1 ∨ ci = 2 ∨ ci = 3 ∨ ci = 4) with rfl | rfl | rfl | rfl | rfl
    · have hf : f < 6 := hf
      rcases (by omega : f = 0 ∨ f = 1 ∨ f = 2 ∨ f = 3 ∨ f = 4 ∨ f = 5) with rfl | rfl | rfl | rfl | rfl | rfl <;> exact ⟨rfl, Or.inl ⟨by omega, rfl⟩⟩
    · have hf : f < 2 := hf
      rcases (by omega : f = 0 ∨ f = 1) with rfl | rfl
      · cases hr
      · exact ⟨rfl, Or.inl ⟨by omega, rfl⟩⟩
    · have hf : f < 7 := hf
      rcases (by omega : f = 0 ∨ f = 1 ∨ f = 2 ∨ f = 3 ∨ f = 4 ∨ f = 5 ∨ f = 6) with rfl | rfl | rfl | rfl | rfl | rfl | rfl <;> first | cases hr; done | exact ⟨rfl, Or.inl ⟨by omega, rfl⟩⟩
    · have hf : f < 8 := hf
      rcases (by omega : f = 0 ∨ f = 1 ∨ f = 2 ∨ f = 3 ∨ f = 4 ∨ f = 5 ∨ f = 6 ∨ f = 7) with rfl | rfl | rfl | rfl | rfl | rfl | rfl | rfl <;> first | cases hr; done | exact ⟨rfl, Or.inl ⟨by omega, rfl⟩⟩ | exact ⟨rfl, Or.inr ⟨by omega, rfl⟩⟩
    · have hf : f < 15 := hf
      rcases (by omega : f = 0 ∨ f = 1 ∨ f = 2 ∨ f = 3 ∨ f = 4 ∨ f = 5 ∨ f = 6 ∨ f = 7 ∨ f = 8 ∨ f = 9 ∨ f = 10 ∨ f = 11 ∨ f = 12 ∨ f = 13 ∨ f = 14) with rfl | rfl | rfl | rfl | rfl | rfl | rfl | rfl | rfl | rfl | rfl | rfl | rfl | rfl | rfl <;> first | cases hr; done | exact ⟨rfl, Or.inl ⟨by omega, rfl⟩⟩ | exact ⟨rfl, Or.inr ⟨by omega, rfl⟩⟩
  obtain ⟨k1, ⟨k2, k3⟩ | ⟨k2, k3⟩⟩ := key
  · exact ⟨k1, hd, by rw [k3]; rfl, by rw [k3]; rfl⟩
  · have hv := hv.resolve_left (fun q => q k2)
    refine ⟨k1, hd, ?_, ?_⟩ <;> rw [k3] <;> rcases hv with rfl | rfl <;> rfl
end SND3A
section SND3
variable {p : Program} {l : Launch} {e : Env} {R : Room} {s : State} {m : MethodId} {args : Array Value} {below : List Frame} {meth : Method} {c : Code} {cells slots : Nat} {Q : State → Prop}
variable {D : va_G} {ad : Nat → Nat} {sp : Value} {cI cO : ClassId} {S : Sc} {A : Nat → Prop} {call : Cf} {own : Nat} {cc : ByteArray} {rt : Option FieldType} {nL : Nat}
/-- what the walk of one method's body stands on -/
def BodyOk (p : Program) (l : Launch) (R : Room) (s : State) (m : MethodId) (args : Array Value) (c : Code) (cells slots : Nat) (D : va_G) (ad : Nat → Nat) (sp : Value) (cI cO : ClassId) (S : Sc) (A : Nat → Prop) (call : Cf) (own : Nat) (cc : ByteArray) (nL : Nat) : Prop :=
  ((sp = .null ∨ ∃ a, sp = .ref a) ∧ p.tables.exec = Jvm.exec ∧ c.code = cc ∧ c.maxLocals = nL) ∧ (s.vm.findClass (cn own) = some m.cls ∧ (∀ w ∈ BW, w.before args s = true) ∧ KX D ad sp cI cO S A s s.heap ∧ (∀ q, AD ad q → A q)) ∧ ((cells ≤ R.cells ∧ slots ≤ R.slots) ∧ CallOk l R D ad sp cI cO S call ∧ (∀ i j, i < 44 → j < 44 → ad i = ad j → i = j))
/-- a state of the small machine, as the walk has it -/
def Wat (p : Program) (l : Launch) (e : Env) (R : Room) (s : State) (m : MethodId) (args : Array Value) (below : List Frame) (meth : Method) (c : Code) (cells slots : Nat) (Q : State → Prop) (D : va_G) (ad : Nat → Nat) (sp : Value) (cI cO : ClassId) (A : Nat → Prop) (nL : Nat) (pc : Nat) (ls : Lo) (st : List Value) (mem : Mm) : Prop :=
  ∀ (H : Heap) (locs : List Loc) (la : Array Slot), va_P D vwCl (wd ad sp cI cO mem) H → va_S A s.heap H locs → lh ad sp nL ls la → W p l e R s m args below meth c H locs cells slots Q (F0 m pc la (st.map (tr ad sp)))
variable {pc : Nat} {ls : Lo} {st : List Value} {mem : Mm} {o : Rz ⊕ S5} {H : Heap} {locs : List Loc} {la : Array Slot}
theorem ajm_of {off : Int} {rest : List Value} (h : ajm pc off ls rest mem = some o) : ∃ t : Nat, (pc : Int) + off = (t : Int) ∧ o = .inr (t, ls, rest, mem) := by
  unfold ajm ajmp at h
  by_cases hz : 0 ≤ (pc : Int) + off
  · rw [if_pos hz] at h
    cases h
    exact ⟨_, by omega, rfl⟩
  · rw [if_neg hz] at h
    cases h

theorem ab_iload (hB : BodyOk p l R s m args c cells slots D ad sp cI cO S A call own cc nL) (hL : lh ad sp nL ls la) {i len : Nat} (h : aload1 ls i pc len st mem isI = some o) : ∃ x, la[i]? = some (.val (.int x)) ∧ o = .inr (pc + len, ls, .int x :: st, mem) := by
  unfold aload1 at h
  split at h
  next v hv =>
    split at h
    next hok =>
      obtain ⟨x, rfl⟩ := isI_of hok
      cases h
      exact ⟨x, lh_at hL hv, rfl⟩
    next => cases h
  next => cases h
theorem ab_lload (hB : BodyOk p l R s m args c cells slots D ad sp cI cO S A call own cc nL) (hL : lh ad sp nL ls la) {i len : Nat} (h : aload1 ls i pc len st mem isL = some o) : ∃ x, la[i]? = some (.val (.long x)) ∧ o = .inr (pc + len, ls, .long x :: st, mem) := by
  unfold aload1 at h
  split at h
  next v hv =>
    split at h
    next hok =>
      obtain ⟨x, rfl⟩ := isL_of hok
      cases h
      exact ⟨x, lh_at hL hv, rfl⟩
    next => cases h
  next => cases h
theorem ab_aload (hB : BodyOk p l R s m args c cells slots D ad sp cI cO S A call own cc nL) (hL : lh ad sp nL ls la) {i len : Nat} (h : aload1 ls i pc len st mem isR = some o) : ∃ x, la[i]? = some (.val (tr ad sp (.ref x))) ∧ o = .inr (pc + len, ls, .ref x :: st, mem) := by
  unfold aload1 at h
  split at h
  next v hv =>
    split at h
    next hok =>
      obtain ⟨x, rfl⟩ := isR_of hok
      cases h
      exact ⟨x, lh_at hL hv, rfl⟩
    next => cases h
  next => cases h
theorem ab_store {i len : Nat} {ok : Value → Bool} (h : astore1 ls i pc len st mem ok = some o) : ∃ v rest, st = v :: rest ∧ ok v = true ∧ i + v.category ≤ ls.length ∧ o = .inr (pc + len, aset ls i v, rest, mem) := by
  unfold astore1 at h
  split at h
  next v rest =>
    split at h
    next hok => cases h; exact ⟨_, _, rfl, hok.1, hok.2, rfl⟩
    next => cases h
  next => cases h
theorem abin_of {f : Int32 → Int32 → Int32} (h : abin f pc ls st mem = some o) : ∃ x y rest, st = .int y :: .int x :: rest ∧ o = .inr (pc + 1, ls, .int (f x y) :: rest, mem) := by
  unfold abin at h
  split at h
  next => cases h; exact ⟨_, _, _, rfl, rfl⟩
  next => cases h
theorem abinL_of {f : Int64 → Int64 → Int64} (h : abinL f pc ls st mem = some o) : ∃ x y rest, st = .long y :: .long x :: rest ∧ o = .inr (pc + 1, ls, .long (f x y) :: rest, mem) := by
  unfold abinL at h
  split at h
  next => cases h; exact ⟨_, _, _, rfl, rfl⟩
  next => cases h
theorem adiv_of {f : Int32 → Int32 → Int32} (h : adiv f pc ls st mem = some o) : ∃ x y rest, st = .int y :: .int x :: rest ∧ ¬ y = 0 ∧ o = .inr (pc + 1, ls, .int (f x y) :: rest, mem) := by
  unfold adiv at h
  split at h
  next =>
    split at h
    next => cases h
    next hy => cases h; exact ⟨_, _, _, rfl, hy, rfl⟩
  next => cases h
theorem adivL_of {f : Int64 → Int64 → Int64} (h : adivL f pc ls st mem = some o) : ∃ x y rest, st = .long y :: .long x :: rest ∧ ¬ y = 0 ∧ o = .inr (pc + 1, ls, .long (f x y) :: rest, mem) := by
  unfold adivL at h
  split at h
  next =>
    split at h
    next => cases h
    next hy => cases h; exact ⟨_, _, _, rfl, hy, rfl⟩
  next => cases h

set_option maxHeartbeats 16000000 in
theorem ab_one (hB : BodyOk p l R s m args c cells slots D ad sp cI cO S A call own cc nL) {i : Instr} {len : Nat} (hdg : decode cc pc = .ok (i, len)) (hlen : len = wlen i len) (h : aex call S own rt i len pc ls st mem = some o)
    (hP : va_P D vwCl (wd ad sp cI cO mem) H) (hS : va_S A s.heap H locs) (hL : lh ad sp nL ls la)
    (hN : ∀ pc' ls' st' mem', o = .inr (pc', ls', st', mem') → Wat p l e R s m args below meth c cells slots Q D ad sp cI cO A nL pc' ls' st' mem')
    (hR : ∀ r, arets i rt st = some r → o = .inl (r, mem) → W p l e R s m args below meth c H locs cells slots Q (F0 m pc la (st.map (tr ad sp)))) : W p l e R s m args below meth c H locs cells slots Q (F0 m pc la (st.map (tr ad sp))) := by
  obtain ⟨⟨hsp, hx, hb, hml⟩, ⟨hown, hts, hKX, hAD⟩, ⟨hcs, hcall, hinj⟩⟩ := id hB
  have hA : ∀ i, i < 44 → A (ad i) := fun i hi => hAD _ ⟨i, hi, rfl⟩
  have hD : va_D A (wd ad sp cI cO mem) := wd_D hinj hA mem
  have ty0 : (tyW cI cO)[0]? = some (cI, .int) := rfl
  have ty1 : (tyW cI cO)[1]? = some (cO, .object RX0) := rfl
  have lhm : la.size = nL := hL.2.1
  cases i with
  | iconst n =>
    have hl : len = _ := hlen
    simp only [wlen] at hl
    subst hl
    cases h
    exact lv_iconst hx hb hdg rfl (hN _ _ _ _ rfl H locs la hP hS hL)
  | bipush n =>
    have hl : len = _ := hlen
    simp only [wlen] at hl
    subst hl
    cases h
    exact lv_bipush hx hb hdg rfl (hN _ _ _ _ rfl H locs la hP hS hL)
  | sipush n =>
    have hl : len = _ := hlen
    simp only [wlen] at hl
    subst hl
    cases h
    exact lv_sipush hx hb hdg rfl (hN _ _ _ _ rfl H locs la hP hS hL)
  | lconst n =>
    have hl : len = _ := hlen
    simp only [wlen] at hl
    subst hl
    cases h
    exact lv_lconst hx hb hdg rfl (hN _ _ _ _ rfl H locs la hP hS hL)
  | iload_n k =>
    have hl : len = _ := hlen
    simp only [wlen] at hl
    subst hl
    obtain ⟨x, h1, rfl⟩ := ab_iload hB hL h
    exact lv_iload_n hx hb hdg rfl h1 (hN _ _ _ _ rfl H locs la hP hS hL)
  | iload k =>
    have hl : len = _ := hlen
    simp only [wlen] at hl
    subst hl
    obtain ⟨x, h1, rfl⟩ := ab_iload hB hL h
    exact lv_iload hx hb hdg h1 (hN _ _ _ _ rfl H locs la hP hS hL)
  | lload_n k =>
    have hl : len = _ := hlen
    simp only [wlen] at hl
    subst hl
    obtain ⟨x, h1, rfl⟩ := ab_lload hB hL h
    exact lv_lload_n hx hb hdg rfl h1 (hN _ _ _ _ rfl H locs la hP hS hL)
  | lload k =>
    have hl : len = _ := hlen
    simp only [wlen] at hl
    subst hl
    obtain ⟨x, h1, rfl⟩ := ab_lload hB hL h
    exact lv_lload hx hb hdg h1 (hN _ _ _ _ rfl H locs la hP hS hL)
  | aload_n k =>
    have hl : len = _ := hlen
    simp only [wlen] at hl
    subst hl
    obtain ⟨x, h1, rfl⟩ := ab_aload hB hL h
    have fin := hN _ _ _ _ rfl H locs la hP hS hL
    rw [List.map_cons] at fin
    generalize hz : tr ad sp (.ref x) = z at h1 fin
    have hz2 := tr_ref_or (ad := ad) hsp x
    rw [hz] at hz2
    rcases hz2 with rfl | ⟨q, rfl⟩
    · exact lv_aload_nN hx hb hdg rfl h1 fin
    · exact lv_aload_n hx hb hdg rfl h1 fin
  | istore_n k =>
    have hl : len = _ := hlen
    simp only [wlen] at hl
    subst hl
    obtain ⟨v, rest, rfl, hok, hle, rfl⟩ := ab_store h
    obtain ⟨x, rfl⟩ := isI_of hok
    have hle2 : (k : Nat) + 1 ≤ ls.length := hle
    exact lv_istore_n (lv := asl ad sp ls) hx hb hdg rfl hL.2 (by have := hL.1; omega) rfl (fun la' hl' => hN _ _ _ _ rfl H locs la' hP hS (lh_set1 hsp hL.1 hl'))
  | lstore_n k =>
    have hl : len = _ := hlen
    simp only [wlen] at hl
    subst hl
    obtain ⟨v, rest, rfl, hok, hle, rfl⟩ := ab_store h
    obtain ⟨x, rfl⟩ := isL_of hok
    have hle2 : (k : Nat) + 2 ≤ ls.length := hle
    exact lv_lstore_n (lv := asl ad sp ls) hx hb hdg rfl hL.2 (by have := hL.1; omega) rfl (fun la' hl' => hN _ _ _ _ rfl H locs la' hP hS (lh_set2 hsp rfl hL.1 hl'))
  | astore_n k =>
    have hl : len = _ := hlen
    simp only [wlen] at hl
    subst hl
    obtain ⟨v, rest, rfl, hok, hle, rfl⟩ := ab_store h
    obtain ⟨x, rfl⟩ := isR_of hok
    have hle2 : (k : Nat) + 1 ≤ ls.length := hle
    have fin : ∀ la', lv_has la' nL (((k : Nat), tr ad sp (.ref x)) :: (asl ad sp ls).filter (fun q => !(q.1 == (k : Nat)) && !(q.1 + 1 == (k : Nat) && q.2.category == 2))) → _ := fun la' hl' => hN _ _ _ _ rfl H locs la' hP hS (lh_set1 hsp hL.1 hl')
    rw [List.map_cons]
    generalize hz : tr ad sp (.ref x) = z at fin
    have hz2 := tr_ref_or (ad := ad) hsp x
    rw [hz] at hz2
    rcases hz2 with rfl | ⟨q, rfl⟩
    · exact lv_astore_nN (lv := asl ad sp ls) hx hb hdg rfl hL.2 (by have := hL.1; omega) rfl fin
    · exact lv_astore_n (lv := asl ad sp ls) hx hb hdg rfl hL.2 (by have := hL.1; omega) rfl fin
  | aload k =>
    have hl : len = _ := hlen
    simp only [wlen] at hl
    subst hl
    obtain ⟨x, h1, rfl⟩ := ab_aload hB hL h
    have fin := hN _ _ _ _ rfl H locs la hP hS hL
    rw [List.map_cons] at fin
    generalize hz : tr ad sp (.ref x) = z at h1 fin
    have hz2 := tr_ref_or (ad := ad) hsp x
    rw [hz] at hz2
    rcases hz2 with rfl | ⟨q, rfl⟩
    · exact lv_aloadN hx hb hdg h1 fin
    · exact lv_aload hx hb hdg h1 fin
  | istore k =>
    have hl : len = _ := hlen
    simp only [wlen] at hl
    subst hl
    obtain ⟨v, rest, rfl, hok, hle, rfl⟩ := ab_store h
    obtain ⟨x, rfl⟩ := isI_of hok
    have hle2 : (k : Nat) + 1 ≤ ls.length := hle
    exact lv_istore (lv := asl ad sp ls) hx hb hdg hL.2 (by have := hL.1; omega) rfl (fun la' hl' => hN _ _ _ _ rfl H locs la' hP hS (lh_set1 hsp hL.1 hl'))
  | lstore k =>
    have hl : len = _ := hlen
    simp only [wlen] at hl
    subst hl
    obtain ⟨v, rest, rfl, hok, hle, rfl⟩ := ab_store h
    obtain ⟨x, rfl⟩ := isL_of hok
    have hle2 : (k : Nat) + 2 ≤ ls.length := hle
    exact lv_lstore (lv := asl ad sp ls) hx hb hdg hL.2 (by have := hL.1; omega) rfl (fun la' hl' => hN _ _ _ _ rfl H locs la' hP hS (lh_set2 hsp rfl hL.1 hl'))
  | astore k =>
    have hl : len = _ := hlen
    simp only [wlen] at hl
    subst hl
    obtain ⟨v, rest, rfl, hok, hle, rfl⟩ := ab_store h
    obtain ⟨x, rfl⟩ := isR_of hok
    have hle2 : (k : Nat) + 1 ≤ ls.length := hle
    have fin : ∀ la', lv_has la' nL (((k : Nat), tr ad sp (.ref x)) :: (asl ad sp ls).filter (fun q => !(q.1 == (k : Nat)) && !(q.1 + 1 == (k : Nat) && q.2.category == 2))) → _ := fun la' hl' => hN _ _ _ _ rfl H locs la' hP hS (lh_set1 hsp hL.1 hl')
    rw [List.map_cons]
    generalize hz : tr ad sp (.ref x) = z at fin
    have hz2 := tr_ref_or (ad := ad) hsp x
    rw [hz] at hz2
    rcases hz2 with rfl | ⟨q, rfl⟩
    · exact lv_astoreN (lv := asl ad sp ls) hx hb hdg hL.2 (by have := hL.1; omega) rfl fin
    · exact lv_astore (lv := asl ad sp ls) hx hb hdg hL.2 (by have := hL.1; omega) rfl fin
  | iinc k n =>
    have hl : len = _ := hlen
    simp only [wlen] at hl
    subst hl
    simp only [aex] at h
    split at h
    next x hk =>
      cases h
      have h1 : ls[k]? = some (some (.int x)) := by
        unfold aget at hk
        split at hk
        next w hw => cases hk; exact hw
        next => cases hk
      obtain ⟨q, hq⟩ := List.getElem?_of_mem (asl_in (ad := ad) (sp := sp) h1)
      have hlt := (List.getElem?_eq_some_iff.mp h1).1
      exact lv_iinc (lv := asl ad sp ls) hx hb hdg hL.2 hq rfl (by have := hL.1; omega) rfl (fun la' hl' => hN _ _ _ _ rfl H locs la' hP hS (lh_set1 (v := .int (x + Int32.ofInt n)) hsp hL.1 hl'))
    next => cases h
  | iadd =>
    have hl : len = _ := hlen
    simp only [wlen] at hl
    subst hl
    obtain ⟨x, y, rest, rfl, rfl⟩ := abin_of h
    exact lv_iadd hx hb hdg (hN _ _ _ _ rfl H locs la hP hS hL)
  | isub =>
    have hl : len = _ := hlen
    simp only [wlen] at hl
    subst hl
    obtain ⟨x, y, rest, rfl, rfl⟩ := abin_of h
    exact lv_isub hx hb hdg (hN _ _ _ _ rfl H locs la hP hS hL)
  | imul =>
    have hl : len = _ := hlen
    simp only [wlen] at hl
    subst hl
    obtain ⟨x, y, rest, rfl, rfl⟩ := abin_of h
    exact lv_imul hx hb hdg (hN _ _ _ _ rfl H locs la hP hS hL)
  | iand =>
    have hl : len = _ := hlen
    simp only [wlen] at hl
    subst hl
    obtain ⟨x, y, rest, rfl, rfl⟩ := abin_of h
    exact lv_iand hx hb hdg (hN _ _ _ _ rfl H locs la hP hS hL)
  | ior =>
    have hl : len = _ := hlen
    simp only [wlen] at hl
    subst hl
    obtain ⟨x, y, rest, rfl, rfl⟩ := abin_of h
    exact lv_ior hx hb hdg (hN _ _ _ _ rfl H locs la hP hS hL)
  | ishl =>
    have hl : len = _ := hlen
    simp only [wlen] at hl
    subst hl
    obtain ⟨x, y, rest, rfl, rfl⟩ := abin_of h
    exact lv_ishl hx hb hdg (hN _ _ _ _ rfl H locs la hP hS hL)
  | ishr =>
    have hl : len = _ := hlen
    simp only [wlen] at hl
    subst hl
    obtain ⟨x, y, rest, rfl, rfl⟩ := abin_of h
    exact lv_ishr hx hb hdg (hN _ _ _ _ rfl H locs la hP hS hL)
  | iushr =>
    have hl : len = _ := hlen
    simp only [wlen] at hl
    subst hl
    obtain ⟨x, y, rest, rfl, rfl⟩ := abin_of h
    exact lv_iushr hx hb hdg rfl (hN _ _ _ _ rfl H locs la hP hS hL)
  | ladd =>
    have hl : len = _ := hlen
    simp only [wlen] at hl
    subst hl
    obtain ⟨x, y, rest, rfl, rfl⟩ := abinL_of h
    exact lv_ladd hx hb hdg (hN _ _ _ _ rfl H locs la hP hS hL)
  | lsub =>
    have hl : len = _ := hlen
    simp only [wlen] at hl
    subst hl
    obtain ⟨x, y, rest, rfl, rfl⟩ := abinL_of h
    exact lv_lsub hx hb hdg (hN _ _ _ _ rfl H locs la hP hS hL)
  | lmul =>
    have hl : len = _ := hlen
    simp only [wlen] at hl
    subst hl
    obtain ⟨x, y, rest, rfl, rfl⟩ := abinL_of h
    exact lv_lmul hx hb hdg (hN _ _ _ _ rfl H locs la hP hS hL)
  | idiv =>
    have hl : len = _ := hlen
    simp only [wlen] at hl
    subst hl
    obtain ⟨x, y, rest, rfl, hy, rfl⟩ := adiv_of h
    exact lv_idiv hx hb hdg hy (hN _ _ _ _ rfl H locs la hP hS hL)
  | irem =>
    have hl : len = _ := hlen
    simp only [wlen] at hl
    subst hl
    obtain ⟨x, y, rest, rfl, hy, rfl⟩ := adiv_of h
    exact lv_irem hx hb hdg hy (hN _ _ _ _ rfl H locs la hP hS hL)
  | ldiv =>
    have hl : len = _ := hlen
    simp only [wlen] at hl
    subst hl
    obtain ⟨x, y, rest, rfl, hy, rfl⟩ := adivL_of h
    exact lv_ldiv hx hb hdg hy (hN _ _ _ _ rfl H locs la hP hS hL)
  | lrem =>
    have hl : len = _ := hlen
    simp only [wlen] at hl
    subst hl
    obtain ⟨x, y, rest, rfl, hy, rfl⟩ := adivL_of h
    exact lv_lrem hx hb hdg hy (hN _ _ _ _ rfl H locs la hP hS hL)
  | ineg =>
    have hl : len = _ := hlen
    simp only [wlen] at hl
    subst hl
    simp only [aex] at h
    split at h
    next => cases h; exact lv_ineg hx hb hdg (hN _ _ _ _ rfl H locs la hP hS hL)
    next => cases h
  | i2l =>
    have hl : len = _ := hlen
    simp only [wlen] at hl
    subst hl
    simp only [aex] at h
    split at h
    next => cases h; exact lv_i2l hx hb hdg rfl (hN _ _ _ _ rfl H locs la hP hS hL)
    next => cases h
  | i2c =>
    have hl : len = _ := hlen
    simp only [wlen] at hl
    subst hl
    simp only [aex] at h
    split at h
    next => cases h; exact lv_i2c hx hb hdg rfl (hN _ _ _ _ rfl H locs la hP hS hL)
    next => cases h
  | i2b =>
    have hl : len = _ := hlen
    simp only [wlen] at hl
    subst hl
    simp only [aex] at h
    split at h
    next => cases h; exact lv_i2b hx hb hdg rfl (hN _ _ _ _ rfl H locs la hP hS hL)
    next => cases h
  | lcmp =>
    have hl : len = _ := hlen
    simp only [wlen] at hl
    subst hl
    simp only [aex] at h
    split at h
    next => cases h; exact W.lcmp hx hb hdg (hN _ _ _ _ rfl H locs la hP hS hL)
    next => cases h
  | dup =>
    have hl : len = _ := hlen
    simp only [wlen] at hl
    subst hl
    simp only [aex] at h
    split at h
    next =>
      split at h
      next hc => cases h; exact lv_dup hx hb hdg (by rw [tr_cat hsp]; exact hc) (hN _ _ _ _ rfl H locs la hP hS hL)
      next => cases h
    next => cases h
  | pop =>
    have hl : len = _ := hlen
    simp only [wlen] at hl
    subst hl
    simp only [aex] at h
    split at h
    next =>
      split at h
      next hc => cases h; exact lv_pop hx hb hdg (by rw [tr_cat hsp]; exact hc) (hN _ _ _ _ rfl H locs la hP hS hL)
      next => cases h
    next => cases h
  | dup2 =>
    have hl : len = _ := hlen
    simp only [wlen] at hl
    subst hl
    simp only [aex] at h
    split at h
    next =>
      split at h
      next hc => cases h; exact lv_dup2_11 hx hb hdg (by rw [tr_cat hsp]; exact hc.1) (by rw [tr_cat hsp]; exact hc.2) (hN _ _ _ _ rfl H locs la hP hS hL)
      next => cases h
    next => cases h
  | ifCond cnd off =>
    have hl : len = _ := hlen
    simp only [wlen] at hl
    subst hl
    simp only [aex] at h
    split at h
    next _ x rest =>
      split at h
      next t ht0 =>
        have ht := ajmp_of ht0
        cases cnd <;> simp only [acnd, decide_eq_true_eq] at h
        · split at h
          next hc => cases h; exact lv_if_eq hx hb hdg ht (fun _ => hN _ _ _ _ rfl H locs la hP hS hL) (fun q => absurd hc q)
          next hc => cases h; exact lv_if_eq hx hb hdg ht (fun q => absurd q hc) (fun _ => hN _ _ _ _ rfl H locs la hP hS hL)
        · split at h
          next hc => cases h; exact lv_if_ne hx hb hdg ht (fun _ => hN _ _ _ _ rfl H locs la hP hS hL) (fun q => absurd q hc)
          next hc => cases h; exact lv_if_ne hx hb hdg ht (fun q => absurd q hc) (fun _ => hN _ _ _ _ rfl H locs la hP hS hL)
        · split at h
          next hc => cases h; exact lv_if_lt hx hb hdg ht (fun _ => hN _ _ _ _ rfl H locs la hP hS hL) (fun q => absurd hc q)
          next hc => cases h; exact lv_if_lt hx hb hdg ht (fun q => absurd q hc) (fun _ => hN _ _ _ _ rfl H locs la hP hS hL)
        · split at h
          next hc => cases h; exact lv_if_ge hx hb hdg ht (fun _ => hN _ _ _ _ rfl H locs la hP hS hL) (fun q => absurd hc q)
          next hc => cases h; exact lv_if_ge hx hb hdg ht (fun q => absurd q hc) (fun _ => hN _ _ _ _ rfl H locs la hP hS hL)
        · split at h
          next hc => cases h; exact lv_if_gt hx hb hdg ht (fun _ => hN _ _ _ _ rfl H locs la hP hS hL) (fun q => absurd hc q)
          next hc => cases h; exact lv_if_gt hx hb hdg ht (fun q => absurd q hc) (fun _ => hN _ _ _ _ rfl H locs la hP hS hL)
        · split at h
          next hc => cases h; exact lv_if_le hx hb hdg ht (fun _ => hN _ _ _ _ rfl H locs la hP hS hL) (fun q => absurd hc q)
          next hc => cases h; exact lv_if_le hx hb hdg ht (fun q => absurd q hc) (fun _ => hN _ _ _ _ rfl H locs la hP hS hL)
      next => cases h
    next => cases h
  | if_icmp cnd off =>
    have hl : len = _ := hlen
    simp only [wlen] at hl
    subst hl
    simp only [aex] at h
    split at h
    next _ y x rest =>
      split at h
      next t ht0 =>
        have ht := ajmp_of ht0
        cases cnd <;> simp only [acnd, decide_eq_true_eq] at h
        · split at h
          next hc => cases h; exact lv_icmp_eq hx hb hdg ht (fun _ => hN _ _ _ _ rfl H locs la hP hS hL) (fun q => absurd hc q)
          next hc => cases h; exact lv_icmp_eq hx hb hdg ht (fun q => absurd q hc) (fun _ => hN _ _ _ _ rfl H locs la hP hS hL)
        · split at h
          next hc => cases h; exact lv_icmp_ne hx hb hdg ht (fun _ => hN _ _ _ _ rfl H locs la hP hS hL) (fun q => absurd q hc)
          next hc => cases h; exact lv_icmp_ne hx hb hdg ht (fun q => absurd q hc) (fun _ => hN _ _ _ _ rfl H locs la hP hS hL)
        · split at h
          next hc => cases h; exact lv_icmp_lt hx hb hdg ht (fun _ => hN _ _ _ _ rfl H locs la hP hS hL) (fun q => absurd hc q)
          next hc => cases h; exact lv_icmp_lt hx hb hdg ht (fun q => absurd q hc) (fun _ => hN _ _ _ _ rfl H locs la hP hS hL)
        · split at h
          next hc => cases h; exact lv_icmp_ge hx hb hdg ht (fun _ => hN _ _ _ _ rfl H locs la hP hS hL) (fun q => absurd hc q)
          next hc => cases h; exact lv_icmp_ge hx hb hdg ht (fun q => absurd q hc) (fun _ => hN _ _ _ _ rfl H locs la hP hS hL)
        · split at h
          next hc => cases h; exact lv_icmp_gt hx hb hdg ht (fun _ => hN _ _ _ _ rfl H locs la hP hS hL) (fun q => absurd hc q)
          next hc => cases h; exact lv_icmp_gt hx hb hdg ht (fun q => absurd q hc) (fun _ => hN _ _ _ _ rfl H locs la hP hS hL)
        · split at h
          next hc => cases h; exact lv_icmp_le hx hb hdg ht (fun _ => hN _ _ _ _ rfl H locs la hP hS hL) (fun q => absurd hc q)
          next hc => cases h; exact lv_icmp_le hx hb hdg ht (fun q => absurd q hc) (fun _ => hN _ _ _ _ rfl H locs la hP hS hL)
      next => cases h
    next => cases h
  | goto off =>
    have hl : len = _ := hlen
    simp only [wlen] at hl
    subst hl
    obtain ⟨t, ht, rfl⟩ := ajm_of h
    exact lv_goto hx hb hdg ht (hN _ _ _ _ rfl H locs la hP hS hL)
  | ifnonnull off =>
    have hl : len = _ := hlen
    simp only [wlen] at hl
    subst hl
    simp only [aex] at h
    split at h
    next _ x rest =>
      split at h
      next => cases h
      next h99 =>
        obtain ⟨t, ht, rfl⟩ := ajm_of h
        have hz : tr ad sp (.ref x) = .ref (ad x) := if_neg h99
        rw [List.map_cons, hz]
        exact lv_ifnonnull hx hb hdg ht (hN _ _ _ _ rfl H locs la hP hS hL)
    next => cases h
  | lookupswitch dflt ps =>
    simp only [aex] at h
    split at h
    next _ x rest =>
      split at h
      next hz =>
        obtain ⟨t, ht, rfl⟩ := ajm_of h
        exact lv_lookup hx hb hdg hz rfl ht (hN _ _ _ _ rfl H locs la hP hS hL)
      next => cases h
    next => cases h
  | tableswitch dflt lo hi offs =>
    simp only [aex] at h
    split at h
    next _ x rest =>
      split at h
      next hz =>
        obtain ⟨t, ht, rfl⟩ := ajm_of h
        exact lv_tableOut hx hb hdg hz ht (hN _ _ _ _ rfl H locs la hP hS hL)
      next hz =>
        split at h
        next off ho =>
          obtain ⟨t, ht, rfl⟩ := ajm_of h
          exact lv_tableIn hx hb hdg (fun q => hz (Or.inl q)) (fun q => hz (Or.inr q)) ho ht (hN _ _ _ _ rfl H locs la hP hS hL)
        next => cases h
    next => cases h
  | ldc k =>
    have hl : len = _ := hlen
    simp only [wlen] at hl
    subst hl
    simp only [aex] at h
    split at h
    next v hv => cases h; exact lv_ldc hx hb hown (hts _ (bw (iok _ (lk2_mem hv)) rfl)) hdg (hN _ _ _ _ rfl H locs la hP hS hL)
    next =>
      split at h
      next i hi =>
        cases h
        obtain ⟨x1, x2, x3⟩ := xok _ (lk2_mem hi)
        dsimp only at x1 x2 x3
        have fin := hN _ _ _ _ rfl H locs la hP hS hL
        rw [List.map_cons, tr_ref (show 50 + i < 99 by omega)] at fin
        subst x1
        subst x3
        exact va_ldcS hx hb hown (hKX.2.2.2.1 i x2) hdg fin
      next => cases h
  | ldc_w k =>
    have hl : len = _ := hlen
    simp only [wlen] at hl
    subst hl
    simp only [aex] at h
    split at h
    next v hv => cases h; exact lv_ldcw hx hb hown (hts _ (bw (iok _ (lk2_mem hv)) rfl)) hdg (hN _ _ _ _ rfl H locs la hP hS hL)
    next => cases h
  | ldc2_w k =>
    have hl : len = _ := hlen
    simp only [wlen] at hl
    subst hl
    simp only [aex] at h
    split at h
    next v hv => cases h; exact lv_ldc2 hx hb hown (hts _ (bw (lok _ (lk2_mem hv)) rfl)) hdg (hN _ _ _ _ rfl H locs la hP hS hL)
    next => cases h
  | getstatic k =>
    have hl : len = _ := hlen
    simp only [wlen] at hl
    subst hl
    simp only [aex] at h
    split at h
    next hz =>
      cases h
      obtain ⟨rfl, rfl⟩ := hz
      exact va_gets (ref := RJ0) hx hb hKX.2.2.2.2.1 hS hown (hts _ (bw wfS rfl)) (fun _ h => h) hdg (hN _ _ _ _ rfl H locs la hP hS hL)
    next =>
      split at h
      next hz =>
        cases h
        obtain ⟨rfl, rfl⟩ := hz
        exact va_gets (ref := RJ3) hx hb hKX.2.2.2.2.2.1 hS hown (hts _ (bw wfF rfl)) (fun _ h => h) hdg (hN _ _ _ _ rfl H locs la hP hS hL)
      next => cases h
  | getfield k =>
    have hl : len = _ := hlen
    simp only [wlen] at hl
    subst hl
    simp only [aex] at h
    split at h
    next _ x rest =>
      split at h
      next ci f hf =>
        split at h
        next hz =>
          cases h
          obtain ⟨z1, z2⟩ := hz
          obtain ⟨⟨g1, g2⟩, g3, g4⟩ := fok _ (lk2_mem hf)
          dsimp only at g1 g2 g3 g4
          have he := wd_at (ad := ad) (sp := sp) (cI := cI) (cO := cO) (mem := mem) z2
          rw [sh_o z1 g4] at he
          rw [List.map_cons, tr_ref (n44 z2)]
          exact va_get (ref := cn ci) hx hb hts (inTT g4) hown hKX.1 hP x he (vwCl_at g4) f g3 (hts _ (bw g1 rfl)) (fun y hy => by rw [g2] at hy; exact hy) (v := tr ad sp (fv ci f x mem)) (by rw [List.getElem?_map, List.getElem?_range g3]; rfl) hdg (hN _ _ _ _ rfl H locs la hP hS hL)
        next => cases h
      next =>
        split at h
        next hz =>
          obtain ⟨rfl, z2⟩ := hz
          have hs := ks_of hKX.2.2.1 z2
          rw [List.map_cons, tr_ref (k7_99 z2)]
          split at h
          next hk =>
            cases h
            subst hk
            have fin := hN _ _ _ _ rfl H locs la hP hS hL
            rw [List.map_cons, tr_ref (k7_v z2)] at fin
            exact vk_getf (ref := RJ0) hx hb hs.2 hS hown (hts _ (bw wfV rfl)) (fun _ h => h) hdg fin
          next =>
            split at h
            next hk =>
              cases h
              subst hk
              exact vk_getf (ref := RJ0) hx hb hs.1 hS hown (hts _ (bw wfC rfl)) (fun _ h => h) hdg (hN _ _ _ _ rfl H locs la hP hS hL)
            next => cases h
        next => cases h
    next => cases h
  | putfield k =>
    have hl : len = _ := hlen
    simp only [wlen] at hl
    subst hl
    simp only [aex] at h
    split at h
    next _ v x rest =>
      split at h
      next ci f hf =>
        split at h
        next hz =>
          cases h
          obtain ⟨⟨z1, z2⟩, z3, z4⟩ := hz
          obtain ⟨⟨g1, g2⟩, g3, g4⟩ := fok _ (lk2_mem hf)
          dsimp only at g1 g2 g3 g4
          have he := wd_at (ad := ad) (sp := sp) (cI := cI) (cO := cO) (mem := mem) z2
          rw [sh_o z1 g4] at he
          rw [List.map_cons, List.map_cons, tr_ref (n44 z2)]
          obtain ⟨t1, t2, t3, t4⟩ := tt_int g4 g3 z3 z4
          refine va_put (ref := cn ci) hx hb hts (inTT g4) (tyT ci) (tyT_ok g4) (nmT g4) hown hKX.1 hP hD hS x he (vwCl_at g4) f g3 (hts _ (bw g1 rfl)) (fun y hy => by rw [g2] at hy; exact hy) t1 t2 t3 t4 (by simpa using g3) hdg (fun H1 locs1 q1 q2 q3 => ?_)
          have hset : (wd ad sp cI cO mem).set x (ad x, .inr (ci, ((List.range (nfT ci)).map (fun k => tr ad sp (fv ci k x mem))).set f (.int v))) = wd ad sp cI cO (mset mem x f v) := by
            refine wd_set z2 ?_
            rw [sh_o z1 g4]
            refine congrArg (fun z => (Sum.inr (ci, z) : va_E)) ?_
            refine List.ext_getElem? fun i => ?_
            by_cases hi : i < nfT ci
            · rw [List.getElem?_map, List.getElem?_range hi]
              by_cases hif : i = f
              · subst hif
                rw [List.getElem?_set_self (by simpa using hi)]
                simp only [Option.map_some, fv, z3, mset_eq, upd, if_true]
                rfl
              · rw [List.getElem?_set_ne (fun q => hif q.symm), List.getElem?_map, List.getElem?_range hi]
                simp only [Option.map_some, fv, mset_eq, upd, if_neg hif]
            · rw [List.getElem?_eq_none (by simp; omega), List.getElem?_eq_none (by simp; omega)]
          rw [show tr ad sp (Value.int v) = Value.int v from rfl, hset] at q1
          exact hN _ _ _ _ rfl H1 locs1 la q1 q3 hL
        next => cases h
      next => cases h
    next => cases h
  | iaload =>
    have hl : len = _ := hlen
    simp only [wlen] at hl
    subst hl
    simp only [aex] at h
    split at h
    next _ i x rest =>
      split at h
      next hz =>
        cases h
        obtain ⟨⟨z1, z2⟩, z3⟩ := hz
        have he := wd_at (ad := ad) (sp := sp) (cI := cI) (cO := cO) (mem := mem) z2
        rw [sh_5 z1] at he
        rw [List.map_cons, List.map_cons, tr_ref (n44 z2)]
        exact va_iald hx hb hKX.1 hP x 0 he ty0 z3 hdg (hN _ _ _ _ rfl H locs la hP hS hL)
      next =>
        split at h
        next hz =>
          cases h
          obtain ⟨rfl, z3⟩ := hz
          obtain ⟨w1, w2, w3⟩ := hKX.2.2.2.2.2.2
          rw [List.map_cons, List.map_cons, tr_ref (by omega)]
          exact va_sld hx hb w1 w2 w3 hS z3 hdg (hN _ _ _ _ rfl H locs la hP hS hL)
        next => cases h
    next => cases h
  | iastore =>
    have hl : len = _ := hlen
    simp only [wlen] at hl
    subst hl
    simp only [aex] at h
    split at h
    next _ v i x rest =>
      split at h
      next hz =>
        cases h
        obtain ⟨⟨z1, z2⟩, z3⟩ := hz
        have he := wd_at (ad := ad) (sp := sp) (cI := cI) (cO := cO) (mem := mem) z2
        rw [sh_5 z1] at he
        rw [List.map_cons, List.map_cons, List.map_cons, tr_ref (n44 z2)]
        refine va_iast hx hb hKX.1 hP hD hS x 0 he ty0 z3 hdg (fun H1 locs1 q1 q2 q3 => ?_)
        rw [wd_set z2 (by rw [sh_5 z1, mset_eq])] at q1
        exact hN _ _ _ _ rfl H1 locs1 la q1 q3 hL
      next => cases h
    next => cases h
  | aaload =>
    have hl : len = _ := hlen
    simp only [wlen] at hl
    subst hl
    simp only [aex] at h
    split at h
    next _ i x rest =>
      split at h
      next hz =>
        cases h
        obtain ⟨⟨z1, z2⟩, z3⟩ := hz
        have he := wd_at (ad := ad) (sp := sp) (cI := cI) (cO := cO) (mem := mem) z2
        rw [sh_6 z1] at he
        have hlt : i.toNatClampNeg < 7 := Nat.not_le.mp fun q => z3 (Or.inr q)
        have fin := hN _ _ _ _ rfl H locs la hP hS hL
        rw [List.map_cons, tr_ref (q7 z2 hlt)] at fin
        rw [List.map_cons, List.map_cons, tr_ref (n44 z2)]
        exact va_aldq hx hb hKX.1 hP x 1 he ty1 z3 hdg fin
      next => cases h
    next => cases h
  | baload =>
    have hl : len = _ := hlen
    simp only [wlen] at hl
    subst hl
    simp only [aex] at h
    split at h
    next _ i x rest =>
      split at h
      next hz =>
        cases h
        obtain ⟨z1, z3⟩ := hz
        have hs := kb_of hKX.2.2.1 z1
        rw [List.map_cons, List.map_cons, tr_ref (k8_99 z1)]
        exact va_tb hx hb hs hS z3 rfl hdg (hN _ _ _ _ rfl H locs la hP hS hL)
      next => cases h
    next => cases h
  | arraylength =>
    have hl : len = _ := hlen
    simp only [wlen] at hl
    subst hl
    simp only [aex] at h
    split at h
    next _ x rest =>
      split at h
      next hz =>
        cases h
        obtain ⟨z1, z2⟩ := hz
        have he := wd_at (ad := ad) (sp := sp) (cI := cI) (cO := cO) (mem := mem) z2
        rw [sh_5 z1] at he
        rw [List.map_cons, tr_ref (n44 z2)]
        exact va_alen hx hb hKX.1 hP x 0 he ty0 rfl hdg (hN _ _ _ _ rfl H locs la hP hS hL)
      next =>
        split at h
        next hz =>
          cases h
          obtain ⟨z1, z2⟩ := hz
          have he := wd_at (ad := ad) (sp := sp) (cI := cI) (cO := cO) (mem := mem) z2
          rw [sh_6 z1] at he
          rw [List.map_cons, tr_ref (n44 z2)]
          exact va_alen hx hb hKX.1 hP x 1 he ty1 rfl hdg (hN _ _ _ _ rfl H locs la hP hS hL)
        next =>
          split at h
          next z1 =>
            cases h
            have hs := kb_of hKX.2.2.1 z1
            rw [List.map_cons, tr_ref (k8_99 z1)]
            exact va_tlen hx hb hs hS rfl hdg (hN _ _ _ _ rfl H locs la hP hS hL)
          next =>
            split at h
            next hz =>
              cases h
              subst hz
              obtain ⟨w1, w2, w3⟩ := hKX.2.2.2.2.2.2
              rw [List.map_cons, tr_ref (by omega)]
              exact va_slen hx hb w1 w2 w3 hS hdg (hN _ _ _ _ rfl H locs la hP hS hL)
            next => cases h
    next => cases h
  | invokestatic k =>
    have hl : len = _ := hlen
    simp only [wlen] at hl
    subst hl
    simp only [aex] at h
    split at h
    next nst μ hs =>
      split at h
      next d hd =>
        split at h
        next hst => exact ab_calls hsp hx hb hml hown hts hKX hAD hcs hcall hdg hs hd hst h hP hS hL (fun a b c' d' q => hN a b c' d' q)
        next => cases h
      next => cases h
    next => cases h
  | invokevirtual k =>
    have hl : len = _ := hlen
    simp only [wlen] at hl
    subst hl
    simp only [aex] at h
    split at h
    next nst μ hs =>
      split at h
      next d hd =>
        split at h
        next hst => exact ab_callv hsp hx hb hml hown hts hKX hAD hcs hcall hdg hs hd hst.1 hst.2 h hP hS hL (fun a b c' d' q => hN a b c' d' q)
        next => cases h
      next => cases h
    next => cases h
  | ireturn =>
    simp only [aex] at h
    split at h
    next r hr => cases h; exact hR r hr rfl
    next => cases h
  | lreturn =>
    simp only [aex] at h
    split at h
    next r hr => cases h; exact hR r hr rfl
    next => cases h
  | areturn =>
    simp only [aex] at h
    split at h
    next r hr => cases h; exact hR r hr rfl
    next => cases h
  | return_ =>
    simp only [aex] at h
    split at h
    next r hr => cases h; exact hR r hr rfl
    next => cases h
  | _ =>
    simp only [aex, arets] at h
    cases h
end SND3
end
section
section RUN
variable {p : Program} {l : Launch} {e : Env} {R : Room} {s : State} {m : MethodId} {args : Array Value} {below : List Frame} {meth : Method} {c : Code} {cells slots : Nat} {Q : State → Prop}
variable {D : va_G} {ad : Nat → Nat} {sp : Value} {cI cO : ClassId} {S : Sc} {A : Nat → Prop} {call : Cf} {own : Nat} {cc : ByteArray} {rt : Option FieldType} {nL : Nat}
/-- a whole run of a body: what it answers, the walk comes to -/
theorem ab_sound (hB : BodyOk p l R s m args c cells slots D ad sp cI cO S A call own cc nL) {r : Option Value} {mem' : Mm}
    (hR : ∀ (pc : Nat) (st : List Value) (i : Instr) (H : Heap) (locs : List Loc) (la : Array Slot), decode cc pc = .ok (i, 1) → arets i rt st = some r → va_P D vwCl (wd ad sp cI cO mem') H → va_S A s.heap H locs → W p l e R s m args below meth c H locs cells slots Q (F0 m pc la (st.map (tr ad sp)))) :
    ∀ (n pc : Nat) (ls : Lo) (st : List Value) (mem : Mm), aloop call S own cc rt n (pc, ls, st, mem) = some (r, mem') → Wat p l e R s m args below meth c cells slots Q D ad sp cI cO A nL pc ls st mem := by
  intro n
  induction n with
  | zero => intro pc ls st mem h; cases h
  | succ n ih =>
    intro pc ls st mem h H locs la hP hS hL
    unfold aloop at h
    have hst : ∃ o, astep call S own cc rt (pc, ls, st, mem) = some o := by
      cases hz : astep call S own cc rt (pc, ls, st, mem) with
      | none => rw [hz] at h; cases h
      | some o => exact ⟨o, rfl⟩
    obtain ⟨o, ho⟩ := hst
    rw [ho] at h
    unfold astep at ho
    dsimp only at ho
    split at ho
    next i len hdg =>
      split at ho
      next hlen =>
        refine ab_one hB hdg hlen ho hP hS hL (fun pc' ls' st' m' e1 => ?_) (fun r1 hr1 e1 => ?_)
        · subst e1
          exact ih pc' ls' st' m' h
        · subst e1
          have e2 : (r1, mem) = (r, mem') := by
            have : some (r1, mem) = some (r, mem') := h
            injection this
          injection e2 with e3 e4
          subst e3
          subst e4
          have hl1 : len = 1 := by
            rw [hlen]
            cases i <;> first | rfl | cases hr1
          subst hl1
          exact hR pc st i H locs la hdg hr1 hP hS
      next => cases ho
    next => cases ho
def rmD (d : Nat) : Room := { frames := d, cells := 0, slots := 0, locals := 34 * d }
theorem arets_ret {i : Instr} {st : List Value} {r : Option Value} (h : arets i rt st = some r) :
    (∃ v ty, i = .ireturn ∧ rt = some ty ∧ st = [.int v] ∧ r = some (.int v) ∧ narrow ty (.int v) = .int v ∧ (ty = .int ∨ ty = .boolean ∨ ty = .byte ∨ ty = .char)) ∨ (∃ v, i = .lreturn ∧ rt = some .long ∧ st = [.long v] ∧ r = some (.long v)) ∨ (∃ n o, i = .areturn ∧ rt = some (.object n) ∧ st = [.ref o] ∧ ¬ o = 99 ∧ r = some (.ref o)) ∨ (i = .return_ ∧ rt = none ∧ st = [] ∧ r = none) := by
  unfold arets at h
  split at h
  next =>
    refine Or.inl ?_
    unfold aret at h
    split at h
    next v => cases h; exact ⟨v, _, rfl, rfl, rfl, rfl, rfl, Or.inl rfl⟩
    next v =>
      split at h
      next hv =>
        cases h
        exact ⟨v, _, rfl, rfl, rfl, rfl, by rcases hv with rfl | rfl <;> rfl, Or.inr (Or.inl rfl)⟩
      next => cases h
    next v =>
      split at h
      next hv =>
        cases h
        exact ⟨v, _, rfl, rfl, rfl, rfl, by show Value.int v.toInt8.toInt32 = _; rw [hv], Or.inr (Or.inr (Or.inl rfl))⟩
      next => cases h
    next v =>
      split at h
      next hv =>
        cases h
        exact ⟨v, _, rfl, rfl, rfl, rfl, by show Value.int v.toUInt32.toUInt16.toUInt32.toInt32 = _; rw [hv], Or.inr (Or.inr (Or.inr rfl))⟩
      next => cases h
    next => cases h
  next v => cases h; exact Or.inr (Or.inl ⟨v, rfl, rfl, rfl, rfl⟩)
  next n o =>
    split at h
    next => cases h
    next hz => cases h; exact Or.inr (Or.inr (Or.inl ⟨n, o, rfl, rfl, rfl, hz, rfl⟩))
  next => cases h; exact Or.inr (Or.inr (Or.inr ⟨rfl, rfl, rfl, rfl⟩))
  next => cases h
set_option maxHeartbeats 4000000 in
/-- every call of the small machine is the machine's -/
theorem ab_met (l : Launch) (D : va_G) (ad : Nat → Nat) (sp : Value) (cI cO : ClassId) (S : Sc) (hsp : sp = .null ∨ ∃ a, sp = .ref a) (hinj : ∀ i j, i < 44 → j < 44 → ad i = ad j → i = j) :
    ∀ (d n : Nat) (R : Room), d ≤ R.frames → 34 * d ≤ R.locals → CallOk l R D ad sp cI cO S (arun S d n) := by
  intro d
  induction d with
  | zero => intro n R _ _ μ vs mem r mem' h; cases h
  | succ d ih =>
    intro n R hf hl μ vs mem r mem' h
    unfold arun at h
    by_cases hμ : μ < 3
    · rw [if_pos hμ] at h
      refine Or.inr ⟨hμ, ?_⟩
      split at h
      next r1 hr1 =>
        cases h
        exact ⟨hr1, rfl, by omega, by omega⟩
      next => cases h
    · rw [if_neg hμ] at h
      split at h
      next dd hd =>
        split at h
        next hw =>
          refine Or.inl ⟨by omega, dd, rmD d, hd, ?_, rfl, rfl, by show d + 1 ≤ _; exact hf, by show 34 + 34 * d ≤ _; omega⟩
          obtain ⟨⟨f1, f2⟩, ⟨f3, f4, f5⟩, f6, f7⟩ := mok dd (List.mem_of_getElem? hd)
          have hplain : plainName dd.y.cls = true := by
            rcases f4 with z | z
            · exfalso
              have key : ∀ k, k < 176 → 3 ≤ k → ∀ q, mTL[k]? = some q → ¬ q.own = 19 := by
                have h0 : ∀ q ∈ mTL.drop 3, ¬ q.own = 19 := by decide +kernel
                intro k _ hk q hq
                refine h0 q (List.mem_of_getElem? (i := k - 3) ?_)
                rw [List.getElem?_drop, show 3 + (k - 3) = k by omega]
                exact hq
              have hlt : μ < 176 := (List.getElem?_eq_some_iff.mp hd).1
              exact key μ hlt (by omega) dd hd z
            · exact z
          refine Met.ofW (cc := dd.c) (maxL := dd.ml) (ret := dd.rt) hplain rfl ?_
          intro p e s m args below meth c s₁ B hml hv
          obtain ⟨rfl, hP, hK⟩ := hv
          have hx := B.exec
          have hb := B.bytes
          have hr := B.returns
          have hts0 := atoms_spec (ws := wsM dd) B.pre
          have hts : ∀ w ∈ BW, w.before (vs.map (tr ad sp)).toArray s = true := fun w hw => hts0 w (List.mem_cons_of_mem _ hw)
          have hown : s.vm.findClass (cn dd.own) = some m.cls := by rw [← f3]; exact findClass_of_methodNamed B.named
          have hlocks := B.notSynchronized
          have hBO : BodyOk p l (rmD d) s m (vs.map (tr ad sp)).toArray c 0 0 D ad sp cI cO S (AD ad) (arun S d n) dd.own dd.c dd.ml := ⟨⟨hsp, hx, hb, hml⟩, ⟨hown, hts, hK, fun _ h => h⟩, ⟨Nat.zero_le _, Nat.zero_le _⟩, ih n (rmD d) (Nat.le_refl _) (Nat.le_refl _), hinj⟩
          have hle := lv_entry (vs.map (tr ad sp)) (n := dd.ml) (by rw [awd_sl hsp]; exact hw)
          rw [lg_entry_eq]
          generalize (lg_sl (vs.map (tr ad sp)) ++ List.replicate (dd.ml - (lg_sl (vs.map (tr ad sp))).length) Slot.unset).toArray = la at hle ⊢
          have hlh := lh_ent hsp hw hle
          refine ab_sound hBO (r := r) (mem' := mem') (rt := dd.rt) ?_ n 0 _ [] mem h s.heap [] la hP va_S.rf hlh
          intro pc st i H locs la' hdg hre hP' hS'
          have fin : ∀ t : State, t.heap = H → s.WarmedH t.vm → QC D ad sp cI cO r mem' (vs.map (tr ad sp)).toArray s (.returned (r.map (tr ad sp))) t := fun t ht _ => ⟨rfl, by rw [ht]; exact hP', hS'.F ht⟩
          rcases arets_ret hre with ⟨v, ty, rfl, e2, rfl, rfl, e5, e6⟩ | ⟨v, rfl, e2, rfl, rfl⟩ | ⟨nm, o, rfl, e2, rfl, e4, rfl⟩ | ⟨rfl, e2, rfl, rfl⟩
          · rcases e6 with rfl | rfl | rfl | rfl
            · exact W.iret hx hb (hr.trans e2) fin hS'.2.2 hdg
            · exact W.zret hx hb (hr.trans e2) e5 fin hS'.2.2 hdg
            · exact W.zret hx hb (hr.trans e2) e5 fin hS'.2.2 hdg
            · exact W.zret hx hb (hr.trans e2) e5 fin hS'.2.2 hdg
          · exact W.lret hx hb (hr.trans e2) fin hS'.2.2 hdg
          · exact W.aret hx hb (hr.trans e2) (Or.inl ⟨_, rfl⟩) (tr_ref_or hsp o) fin hS'.2.2 hdg
          · exact W.vret hx hb (hr.trans e2) fin hS'.2.2 hdg
        next => cases h
      next => cases h
end RUN
end
section
/-! runs of the small machine that end, told by what they end in -/
def cle (c1 c2 : Cf) : Prop := ∀ μ vs mem r, c1 μ vs mem = some r → c2 μ vs mem = some r
theorem acall_mono {c1 c2 : Cf} (h : cle c1 c2) {d : MD} {μ pc : Nat} {ls : Lo} {st : List Value} {mem : Mm} {o : Rz ⊕ S5} (q : acall c1 d μ pc ls st mem = some o) : acall c2 d μ pc ls st mem = some o := by
  unfold acall at q ⊢
  generalize (if d.st = true then d.na else d.na + 1) = n at q ⊢
  dsimp only at q ⊢
  split at q
  next hn =>
    rw [if_pos hn]
    split at q
    next r m' hc =>
      rw [h _ _ _ _ hc]
      exact q
    next => cases q
  next => cases q
theorem aex_mono {c1 c2 : Cf} (h : cle c1 c2) {S : Sc} {own : Nat} {rt : Option FieldType} {i : Instr} {len pc : Nat} {ls : Lo} {st : List Value} {mem : Mm} {o : Rz ⊕ S5} (q : aex c1 S own rt i len pc ls st mem = some o) : aex c2 S own rt i len pc ls st mem = some o := by
  cases i
  case invokestatic k =>
    simp only [aex] at q ⊢
    split at q
    next nst μ hs =>
      split at q
      next d hd =>
        split at q
        next hst => rw [if_pos hst]; exact acall_mono h q
        next => cases q
      next => cases q
    next => cases q
  case invokevirtual k =>
    simp only [aex] at q ⊢
    split at q
    next nst μ hs =>
      split at q
      next d hd =>
        split at q
        next hst => rw [if_pos hst]; exact acall_mono h q
        next => cases q
      next => cases q
    next => cases q
  all_goals exact q
theorem astep_mono {c1 c2 : Cf} (h : cle c1 c2) {S : Sc} {own : Nat} {cc : ByteArray} {rt : Option FieldType} {s : S5} {o : Rz ⊕ S5} (q : astep c1 S own cc rt s = some o) : astep c2 S own cc rt s = some o := by
  unfold astep at q ⊢
  split at q
  next i len hd =>
    split at q
    next hl => rw [if_pos hl]; exact aex_mono h q
    next => cases q
  next => cases q
theorem aloop_mono {c1 c2 : Cf} (h : cle c1 c2) {S : Sc} {own : Nat} {cc : ByteArray} {rt : Option FieldType} {r : Rz} : ∀ (n k : Nat) (s : S5), aloop c1 S own cc rt n s = some r → aloop c2 S own cc rt (n + k) s = some r := by
  intro n
  induction n with
  | zero => intro k s q; cases q
  | succ n ih =>
    intro k s q
    rw [show n + 1 + k = (n + k) + 1 by omega]
    unfold aloop at q ⊢
    cases hz : astep c1 S own cc rt s with
    | none => rw [hz] at q; cases q
    | some o =>
      rw [hz] at q
      rw [astep_mono h hz]
      cases o with
      | inl r1 => exact q
      | inr s1 => exact ih k s1 q
theorem arun_mono {S : Sc} (d n k : Nat) : cle (arun S d n) (arun S d (n + k)) := by
  induction d with
  | zero => intro μ vs mem r q; cases q
  | succ d ih =>
    intro μ vs mem r q
    unfold arun at q ⊢
    by_cases hμ : μ < 3
    · rw [if_pos hμ] at q ⊢; exact q
    · rw [if_neg hμ] at q ⊢
      split at q
      next D hD =>
        split at q
        next hw => rw [if_pos hw]; exact aloop_mono ih n k _ q
        next => cases q
      next => cases q
theorem cle_refl (c : Cf) : cle c c := fun _ _ _ _ h => h
def lsub (ls ls2 : Lo) : Prop := ls.length = ls2.length ∧ ∀ (k : Nat) (v : Value), ls[k]? = some (some v) → ls2[k]? = some (some v)
theorem lsub_refl (ls : Lo) : lsub ls ls := ⟨rfl, fun _ _ h => h⟩
theorem lsub_get {ls ls2 : Lo} (h : lsub ls ls2) {k : Nat} {v : Value} (hk : aget ls k = some v) : aget ls2 k = some v := by
  have h1 : ls[k]? = some (some v) := by
    unfold aget at hk
    split at hk
    next w hw => cases hk; exact hw
    next => cases hk
  unfold aget
  rw [h.2 k v h1]
theorem aset_get : ∀ (ls : Lo) (i k : Nat) (v w : Value), i < ls.length → ((k = i ∧ w = v) ∨ (k ≠ i ∧ ls[k]? = some (some w) ∧ ¬ (k + 1 = i ∧ w.category = 2) ∧ ¬ (v.category = 2 ∧ k = i + 1))) → (aset ls i v)[k]? = some (some w)
  | [], i, k, v, w, hi, h => by simp at hi
  | a :: t, 0, k, v, w, hi, h => by
    rw [aset_0]
    rcases h with ⟨rfl, rfl⟩ | ⟨h1, h2, h3, h4⟩
    · rfl
    · cases k with
      | zero => exact absurd rfl h1
      | succ k =>
        rw [List.getElem?_cons_succ] at h2 ⊢
        by_cases hc : v.category = 2
        · rw [if_pos hc]
          cases t with
          | nil => simp at h2
          | cons b t =>
            cases k with
            | zero => exact absurd ⟨hc, rfl⟩ h4
            | succ k => simpa using h2
        · rw [if_neg hc]; exact h2
  | a :: t, i + 1, k, v, w, hi, h => by
    rw [aset_s]
    cases k with
    | zero =>
      rw [List.getElem?_cons_zero]
      rcases h with ⟨h1, -⟩ | ⟨h1, h2, h3, h4⟩
      · cases h1
      · have ha : a = some w := by simpa using h2
        subst ha
        rw [if_neg]
        rintro ⟨q1, q2⟩
        have : w.category = 2 := by simpa [is2] using q2
        exact h3 ⟨by omega, this⟩
    | succ k =>
      rw [List.getElem?_cons_succ]
      refine aset_get t i k v w (by simpa using hi) ?_
      rcases h with ⟨h1, h2⟩ | ⟨h1, h2, h3, h4⟩
      · exact Or.inl ⟨by omega, h2⟩
      · exact Or.inr ⟨by omega, by simpa using h2, fun z => h3 ⟨by omega, z.2⟩, fun z => h4 ⟨z.1, by omega⟩⟩
theorem lsub_set {ls ls2 : Lo} (h : lsub ls ls2) {i : Nat} {v : Value} (hi : i < ls.length) : lsub (aset ls i v) (aset ls2 i v) := by
  refine ⟨by rw [aset_len, aset_len]; exact h.1, fun k w hk => ?_⟩
  refine aset_get ls2 i k v w (by rw [← h.1]; exact hi) ?_
  rcases aset_at ls i k v w hk with q | ⟨q1, q2, q3, q4⟩
  · exact Or.inl q
  · exact Or.inr ⟨q1, h.2 k w q2, q3, q4⟩
abbrev Po : Type := Option Value → Mm → Prop
/-- from here the body comes to an end, with Q -/
def Ev (S : Sc) (d own : Nat) (cc : ByteArray) (rt : Option FieldType) (pc : Nat) (ls : Lo) (st : List Value) (mem : Mm) (Q : Po) : Prop := ∀ ls2, lsub ls ls2 → ∃ n r, aloop (arun S d n) S own cc rt n (pc, ls2, st, mem) = some r ∧ Q r.1 r.2
/-- this call comes to an end, with Q -/
def Ca (S : Sc) (d μ : Nat) (vs : List Value) (mem : Mm) (Q : Po) : Prop := ∃ n r, arun S d n μ vs mem = some r ∧ Q r.1 r.2
section EV
variable {S : Sc} {d own : Nat} {cc : ByteArray} {rt : Option FieldType} {pc pc' : Nat} {ls ls' : Lo} {st rest : List Value} {mem mem' : Mm} {Q : Po}
theorem ev_sub {ls0 : Lo} (h : lsub ls0 ls) (k : Ev S d own cc rt pc ls0 st mem Q) : Ev S d own cc rt pc ls st mem Q := fun ls2 h2 => k ls2 ⟨h.1.trans h2.1, fun a b c => h2.2 a b (h.2 a b c)⟩
theorem ev_nx {i : Instr} {len : Nat} {st' : List Value} (hd : decode cc pc = .ok (i, len)) (hl : len = wlen i len) (h : ∀ (call : Cf) (ls2 : Lo), lsub ls ls2 → ∃ ls3, aex call S own rt i len pc ls2 st mem = some (.inr (pc', ls3, st', mem')) ∧ lsub ls' ls3) (k : Ev S d own cc rt pc' ls' st' mem' Q) : Ev S d own cc rt pc ls st mem Q := by
  intro ls2 h2
  obtain ⟨ls3, -, h4⟩ := h (fun _ _ _ => none) ls2 h2
  obtain ⟨ls3, h3, h4⟩ := h (fun _ _ _ => none) ls2 h2
  obtain ⟨n, r, h5, h6⟩ := k ls3 h4
  refine ⟨n + 1, r, ?_, h6⟩
  have h7 : aex (arun S d (n + 1)) S own rt i len pc ls2 st mem = some (.inr (pc', ls3, st', mem')) := aex_mono (fun _ _ _ _ q => by cases q) h3
  have h8 : astep (arun S d (n + 1)) S own cc rt (pc, ls2, st, mem) = some (.inr (pc', ls3, st', mem')) := by
    unfold astep
    dsimp only
    rw [hd]
    dsimp only
    rw [if_pos hl]
    exact h7
  unfold aloop
  rw [h8]
  exact aloop_mono (arun_mono d n 1) n 0 _ h5
theorem ev_rt {i : Instr} {r : Option Value} (hd : decode cc pc = .ok (i, 1)) (hl : 1 = wlen i 1) (h : ∀ (call : Cf) (ls2 : Lo), aex call S own rt i 1 pc ls2 st mem = some (.inl (r, mem))) (k : Q r mem) : Ev S d own cc rt pc ls st mem Q := by
  intro ls2 h2
  refine ⟨1, (r, mem), ?_, k⟩
  have h8 : astep (arun S d 1) S own cc rt (pc, ls2, st, mem) = some (.inl (r, mem)) := by
    unfold astep
    dsimp only
    rw [hd]
    dsimp only
    rw [if_pos hl]
    exact h _ _
  unfold aloop
  rw [h8]
/-- a call: from what the callee comes to -/
theorem ev_inv {i : Instr} {D : MD} {μ : Nat} {vs : List Value} (hd : decode cc pc = .ok (i, 3)) (hl : 3 = wlen i 3) (hi : ∀ (call : Cf) (ls2 : Lo), aex call S own rt i 3 pc ls2 st mem = acall call D μ pc ls2 st mem) (hn : ∃ n, n = (if D.st = true then D.na else D.na + 1) ∧ n ≤ st.length ∧ awd (st.drop n) ≤ 8 ∧ (st.take n).reverse = vs ∧ st.drop n = rest) (hp : pc + 3 = pc')
    (k : Ca S d μ vs mem (fun r m' => Ev S d own cc rt pc' ls (r.toList ++ rest) m' Q)) : Ev S d own cc rt pc ls st mem Q := by
  intro ls2 h2
  subst hp
  obtain ⟨n1, r1, h3, h4⟩ := k
  obtain ⟨n2, r2, h5, h6⟩ := h4 ls2 h2
  obtain ⟨n, hn0, hn1, hn2, hn3, hn4⟩ := hn
  refine ⟨n1 + n2 + 1, r2, ?_, h6⟩
  have h7 : arun S d (n1 + n2 + 1) μ vs mem = some r1 := by
    have := arun_mono (S := S) d n1 (n2 + 1) μ vs mem r1 h3
    rw [show n1 + (n2 + 1) = n1 + n2 + 1 by omega] at this
    exact this
  have h8 : astep (arun S d (n1 + n2 + 1)) S own cc rt (pc, ls2, st, mem) = some (.inr (pc + 3, ls2, r1.1.toList ++ rest, r1.2)) := by
    unfold astep
    dsimp only
    rw [hd]
    dsimp only
    rw [if_pos hl, hi]
    unfold acall
    rw [← hn0]
    dsimp only
    rw [if_pos ⟨hn1, hn2⟩, hn3, h7, hn4]
  unfold aloop
  rw [h8]
  have := aloop_mono (S := S) (own := own) (cc := cc) (rt := rt) (r := r2) (arun_mono (S := S) d n2 (n1 + 1)) n2 n1 _ h5
  rw [show n2 + (n1 + 1) = n1 + n2 + 1 by omega, show n2 + n1 = n1 + n2 by omega] at this
  exact this
theorem ca_in {D : MD} {μ : Nat} {vs : List Value} (hμ : 3 ≤ μ) (hD : mTL[μ]? = some D) (hw : awd vs ≤ D.ml) (k : Ev S d D.own D.c D.rt 0 (aent D.ml vs) [] mem Q) : Ca S (d + 1) μ vs mem Q := by
  obtain ⟨n, r, h1, h2⟩ := k _ (lsub_refl _)
  refine ⟨n, r, ?_, h2⟩
  unfold arun
  rw [if_neg (by omega), hD]
  dsimp only
  rw [if_pos hw]
  exact h1
theorem ca_math {μ : Nat} {vs : List Value} {r : Option Value} (hμ : μ < 3) (h : amath μ vs = some r) (k : Q r mem) : Ca S (d + 1) μ vs mem Q := by
  refine ⟨0, (r, mem), ?_, k⟩
  unfold arun
  rw [if_pos hμ, h]
theorem ca_mono {μ : Nat} {vs : List Value} {Q2 : Po} (h : Ca S d μ vs mem Q) (hq : ∀ r m, Q r m → Q2 r m) : Ca S d μ vs mem Q2 := by
  obtain ⟨n, r, h1, h2⟩ := h
  exact ⟨n, r, h1, hq _ _ h2⟩
theorem ev_topi {x : Int32} (k : ∀ y, y = x → Ev S d own cc rt pc ls (.int y :: rest) mem Q) : Ev S d own cc rt pc ls (.int x :: rest) mem Q := k x rfl
theorem ev_topl {x : Int64} (k : ∀ y, y = x → Ev S d own cc rt pc ls (.long y :: rest) mem Q) : Ev S d own cc rt pc ls (.long x :: rest) mem Q := k x rfl
theorem ev_topm (k : ∀ m, m = mem → Ev S d own cc rt pc ls st m Q) : Ev S d own cc rt pc ls st mem Q := k mem rfl
end EV
end
section
section EVR
variable {S : Sc} {d own : Nat} {cc : ByteArray} {rt : Option FieldType} {pc pc' : Nat} {ls ls' : Lo} {st rest : List Value} {mem mem' : Mm} {Q : Po}
theorem ev_iconst {n : Int} {v : Int32} (hd : decode cc pc = .ok (.iconst n, 1)) (hp : pc + 1 = pc') (hv : Int32.ofInt n = v) (k : Ev S d own cc rt pc' ls (.int v :: st) mem Q) : Ev S d own cc rt pc ls (st) mem Q := by
  subst hp
  exact ev_nx hd rfl (fun call ls2 q => ⟨ls2, by rw [← hv]; rfl, q⟩) k
theorem ev_bipush {n : Int} {v : Int32} (hd : decode cc pc = .ok (.bipush n, 2)) (hp : pc + 2 = pc') (hv : (Int8.ofInt n).toInt32 = v) (k : Ev S d own cc rt pc' ls (.int v :: st) mem Q) : Ev S d own cc rt pc ls (st) mem Q := by
  subst hp
  exact ev_nx hd rfl (fun call ls2 q => ⟨ls2, by rw [← hv]; rfl, q⟩) k
theorem ev_sipush {n : Int} {v : Int32} (hd : decode cc pc = .ok (.sipush n, 3)) (hp : pc + 3 = pc') (hv : (Int16.ofInt n).toInt32 = v) (k : Ev S d own cc rt pc' ls (.int v :: st) mem Q) : Ev S d own cc rt pc ls (st) mem Q := by
  subst hp
  exact ev_nx hd rfl (fun call ls2 q => ⟨ls2, by rw [← hv]; rfl, q⟩) k
theorem ev_lconst {n : Fin 2} {v : Int64} (hd : decode cc pc = .ok (.lconst n, 1)) (hp : pc + 1 = pc') (hv : Int64.ofNat (n : Nat) = v) (k : Ev S d own cc rt pc' ls (.long v :: st) mem Q) : Ev S d own cc rt pc ls (st) mem Q := by
  subst hp
  exact ev_nx hd rfl (fun call ls2 q => ⟨ls2, by rw [← hv]; rfl, q⟩) k
theorem ev_iload_n {i : Fin 4} {x : Int32} (hd : decode cc pc = .ok (.iload_n i, 1)) (hp : pc + 1 = pc') (hx : aget ls (i : Nat) = some (.int x)) (k : Ev S d own cc rt pc' ls (.int x :: st) mem Q) : Ev S d own cc rt pc ls (st) mem Q := by
  subst hp
  exact ev_nx hd rfl (fun call ls2 q => ⟨ls2, by show aload1 ls2 (i : Nat) pc 1 st mem isI = _; unfold aload1; rw [lsub_get q hx]; rfl, q⟩) k
theorem ev_istore_n {i : Fin 4} {x : Int32} (hd : decode cc pc = .ok (.istore_n i, 1)) (hp : pc + 1 = pc') (hi : (i : Nat) + 1 ≤ ls.length) (hl : aset ls (i : Nat) (.int x) = ls') (k : Ev S d own cc rt pc' ls' st mem Q) : Ev S d own cc rt pc ls (.int x :: st) mem Q := by
  subst hp
  subst hl
  refine ev_nx hd rfl (fun call ls2 q => ⟨aset ls2 (i : Nat) (.int x), ?_, lsub_set q (by omega)⟩) k
  show astore1 ls2 (i : Nat) pc 1 (.int x :: st) mem isI = _
  unfold astore1
  have hi2 : (i : Nat) + (Value.int x).category ≤ ls2.length := by rw [← q.1]; exact hi
  exact if_pos ⟨rfl, hi2⟩
theorem ev_iload {i : Nat} {x : Int32} (hd : decode cc pc = .ok (.iload i, 2)) (hp : pc + 2 = pc') (hx : aget ls (i : Nat) = some (.int x)) (k : Ev S d own cc rt pc' ls (.int x :: st) mem Q) : Ev S d own cc rt pc ls (st) mem Q := by
  subst hp
  exact ev_nx hd rfl (fun call ls2 q => ⟨ls2, by show aload1 ls2 (i : Nat) pc 2 st mem isI = _; unfold aload1; rw [lsub_get q hx]; rfl, q⟩) k
theorem ev_istore {i : Nat} {x : Int32} (hd : decode cc pc = .ok (.istore i, 2)) (hp : pc + 2 = pc') (hi : (i : Nat) + 1 ≤ ls.length) (hl : aset ls (i : Nat) (.int x) = ls') (k : Ev S d own cc rt pc' ls' st mem Q) : Ev S d own cc rt pc ls (.int x :: st) mem Q := by
  subst hp
  subst hl
  refine ev_nx hd rfl (fun call ls2 q => ⟨aset ls2 (i : Nat) (.int x), ?_, lsub_set q (by omega)⟩) k
  show astore1 ls2 (i : Nat) pc 2 (.int x :: st) mem isI = _
  unfold astore1
  have hi2 : (i : Nat) + (Value.int x).category ≤ ls2.length := by rw [← q.1]; exact hi
  exact if_pos ⟨rfl, hi2⟩
theorem ev_lload_n {i : Fin 4} {x : Int64} (hd : decode cc pc = .ok (.lload_n i, 1)) (hp : pc + 1 = pc') (hx : aget ls (i : Nat) = some (.long x)) (k : Ev S d own cc rt pc' ls (.long x :: st) mem Q) : Ev S d own cc rt pc ls (st) mem Q := by
  subst hp
  exact ev_nx hd rfl (fun call ls2 q => ⟨ls2, by show aload1 ls2 (i : Nat) pc 1 st mem isL = _; unfold aload1; rw [lsub_get q hx]; rfl, q⟩) k
theorem ev_lstore_n {i : Fin 4} {x : Int64} (hd : decode cc pc = .ok (.lstore_n i, 1)) (hp : pc + 1 = pc') (hi : (i : Nat) + 2 ≤ ls.length) (hl : aset ls (i : Nat) (.long x) = ls') (k : Ev S d own cc rt pc' ls' st mem Q) : Ev S d own cc rt pc ls (.long x :: st) mem Q := by
  subst hp
  subst hl
  refine ev_nx hd rfl (fun call ls2 q => ⟨aset ls2 (i : Nat) (.long x), ?_, lsub_set q (by omega)⟩) k
  show astore1 ls2 (i : Nat) pc 1 (.long x :: st) mem isL = _
  unfold astore1
  have hi2 : (i : Nat) + (Value.long x).category ≤ ls2.length := by rw [← q.1]; exact hi
  exact if_pos ⟨rfl, hi2⟩
theorem ev_lload {i : Nat} {x : Int64} (hd : decode cc pc = .ok (.lload i, 2)) (hp : pc + 2 = pc') (hx : aget ls (i : Nat) = some (.long x)) (k : Ev S d own cc rt pc' ls (.long x :: st) mem Q) : Ev S d own cc rt pc ls (st) mem Q := by
  subst hp
  exact ev_nx hd rfl (fun call ls2 q => ⟨ls2, by show aload1 ls2 (i : Nat) pc 2 st mem isL = _; unfold aload1; rw [lsub_get q hx]; rfl, q⟩) k
theorem ev_lstore {i : Nat} {x : Int64} (hd : decode cc pc = .ok (.lstore i, 2)) (hp : pc + 2 = pc') (hi : (i : Nat) + 2 ≤ ls.length) (hl : aset ls (i : Nat) (.long x) = ls') (k : Ev S d own cc rt pc' ls' st mem Q) : Ev S d own cc rt pc ls (.long x :: st) mem Q := by
  subst hp
  subst hl
  refine ev_nx hd rfl (fun call ls2 q => ⟨aset ls2 (i : Nat) (.long x), ?_, lsub_set q (by omega)⟩) k
  show astore1 ls2 (i : Nat) pc 2 (.long x :: st) mem isL = _
  unfold astore1
  have hi2 : (i : Nat) + (Value.long x).category ≤ ls2.length := by rw [← q.1]; exact hi
  exact if_pos ⟨rfl, hi2⟩
theorem ev_aload_n {i : Fin 4} {x : Nat} (hd : decode cc pc = .ok (.aload_n i, 1)) (hp : pc + 1 = pc') (hx : aget ls (i : Nat) = some (.ref x)) (k : Ev S d own cc rt pc' ls (.ref x :: st) mem Q) : Ev S d own cc rt pc ls (st) mem Q := by
  subst hp
  exact ev_nx hd rfl (fun call ls2 q => ⟨ls2, by show aload1 ls2 (i : Nat) pc 1 st mem isR = _; unfold aload1; rw [lsub_get q hx]; rfl, q⟩) k
theorem ev_astore_n {i : Fin 4} {x : Nat} (hd : decode cc pc = .ok (.astore_n i, 1)) (hp : pc + 1 = pc') (hi : (i : Nat) + 1 ≤ ls.length) (hl : aset ls (i : Nat) (.ref x) = ls') (k : Ev S d own cc rt pc' ls' st mem Q) : Ev S d own cc rt pc ls (.ref x :: st) mem Q := by
  subst hp
  subst hl
  refine ev_nx hd rfl (fun call ls2 q => ⟨aset ls2 (i : Nat) (.ref x), ?_, lsub_set q (by omega)⟩) k
  show astore1 ls2 (i : Nat) pc 1 (.ref x :: st) mem isR = _
  unfold astore1
  have hi2 : (i : Nat) + (Value.ref x).category ≤ ls2.length := by rw [← q.1]; exact hi
  exact if_pos ⟨rfl, hi2⟩
theorem ev_aload {i : Nat} {x : Nat} (hd : decode cc pc = .ok (.aload i, 2)) (hp : pc + 2 = pc') (hx : aget ls (i : Nat) = some (.ref x)) (k : Ev S d own cc rt pc' ls (.ref x :: st) mem Q) : Ev S d own cc rt pc ls (st) mem Q := by
  subst hp
  exact ev_nx hd rfl (fun call ls2 q => ⟨ls2, by show aload1 ls2 (i : Nat) pc 2 st mem isR = _; unfold aload1; rw [lsub_get q hx]; rfl, q⟩) k
theorem ev_astore {i : Nat} {x : Nat} (hd : decode cc pc = .ok (.astore i, 2)) (hp : pc + 2 = pc') (hi : (i : Nat) + 1 ≤ ls.length) (hl : aset ls (i : Nat) (.ref x) = ls') (k : Ev S d own cc rt pc' ls' st mem Q) : Ev S d own cc rt pc ls (.ref x :: st) mem Q := by
  subst hp
  subst hl
  refine ev_nx hd rfl (fun call ls2 q => ⟨aset ls2 (i : Nat) (.ref x), ?_, lsub_set q (by omega)⟩) k
  show astore1 ls2 (i : Nat) pc 2 (.ref x :: st) mem isR = _
  unfold astore1
  have hi2 : (i : Nat) + (Value.ref x).category ≤ ls2.length := by rw [← q.1]; exact hi
  exact if_pos ⟨rfl, hi2⟩
theorem ev_iinc {i : Nat} {n : Int} {x v : Int32} (hd : decode cc pc = .ok (.iinc i n, 3)) (hp : pc + 3 = pc') (hx : aget ls i = some (.int x)) (hv : x + Int32.ofInt n = v) (hi : i < ls.length) (hl : aset ls i (.int v) = ls') (k : Ev S d own cc rt pc' ls' st mem Q) : Ev S d own cc rt pc ls st mem Q := by
  subst hp
  subst hl
  subst hv
  refine ev_nx hd rfl (fun call ls2 q => ⟨aset ls2 i (.int (x + Int32.ofInt n)), ?_, lsub_set q hi⟩) k
  simp only [aex]
  rw [lsub_get q hx]
theorem ev_iadd {x y : Int32} (hd : decode cc pc = .ok (.iadd, 1)) (hp : pc + 1 = pc')  (k : Ev S d own cc rt pc' ls (.int (x + y) :: rest) mem Q) : Ev S d own cc rt pc ls (.int y :: .int x :: rest) mem Q := by
  subst hp
  exact ev_nx hd rfl (fun call ls2 q => ⟨ls2, rfl, q⟩) k
theorem ev_isub {x y : Int32} (hd : decode cc pc = .ok (.isub, 1)) (hp : pc + 1 = pc')  (k : Ev S d own cc rt pc' ls (.int (x - y) :: rest) mem Q) : Ev S d own cc rt pc ls (.int y :: .int x :: rest) mem Q := by
  subst hp
  exact ev_nx hd rfl (fun call ls2 q => ⟨ls2, rfl, q⟩) k
theorem ev_imul {x y : Int32} (hd : decode cc pc = .ok (.imul, 1)) (hp : pc + 1 = pc')  (k : Ev S d own cc rt pc' ls (.int (x * y) :: rest) mem Q) : Ev S d own cc rt pc ls (.int y :: .int x :: rest) mem Q := by
  subst hp
  exact ev_nx hd rfl (fun call ls2 q => ⟨ls2, rfl, q⟩) k
theorem ev_iand {x y : Int32} (hd : decode cc pc = .ok (.iand, 1)) (hp : pc + 1 = pc')  (k : Ev S d own cc rt pc' ls (.int (x &&& y) :: rest) mem Q) : Ev S d own cc rt pc ls (.int y :: .int x :: rest) mem Q := by
  subst hp
  exact ev_nx hd rfl (fun call ls2 q => ⟨ls2, rfl, q⟩) k
theorem ev_ior {x y : Int32} (hd : decode cc pc = .ok (.ior, 1)) (hp : pc + 1 = pc')  (k : Ev S d own cc rt pc' ls (.int (x ||| y) :: rest) mem Q) : Ev S d own cc rt pc ls (.int y :: .int x :: rest) mem Q := by
  subst hp
  exact ev_nx hd rfl (fun call ls2 q => ⟨ls2, rfl, q⟩) k
theorem ev_ishl {x y : Int32} (hd : decode cc pc = .ok (.ishl, 1)) (hp : pc + 1 = pc')  (k : Ev S d own cc rt pc' ls (.int (x <<< (y &&& 31)) :: rest) mem Q) : Ev S d own cc rt pc ls (.int y :: .int x :: rest) mem Q := by
  subst hp
  exact ev_nx hd rfl (fun call ls2 q => ⟨ls2, rfl, q⟩) k
theorem ev_ishr {x y : Int32} (hd : decode cc pc = .ok (.ishr, 1)) (hp : pc + 1 = pc')  (k : Ev S d own cc rt pc' ls (.int (x >>> (y &&& 31)) :: rest) mem Q) : Ev S d own cc rt pc ls (.int y :: .int x :: rest) mem Q := by
  subst hp
  exact ev_nx hd rfl (fun call ls2 q => ⟨ls2, rfl, q⟩) k
theorem ev_iushr {x y : Int32} (hd : decode cc pc = .ok (.iushr, 1)) (hp : pc + 1 = pc')  (k : Ev S d own cc rt pc' ls (.int (aiush x y) :: rest) mem Q) : Ev S d own cc rt pc ls (.int y :: .int x :: rest) mem Q := by
  subst hp
  exact ev_nx hd rfl (fun call ls2 q => ⟨ls2, rfl, q⟩) k
theorem ev_ladd {x y : Int64} (hd : decode cc pc = .ok (.ladd, 1)) (hp : pc + 1 = pc')  (k : Ev S d own cc rt pc' ls (.long (x + y) :: rest) mem Q) : Ev S d own cc rt pc ls (.long y :: .long x :: rest) mem Q := by
  subst hp
  exact ev_nx hd rfl (fun call ls2 q => ⟨ls2, rfl, q⟩) k
theorem ev_lsub {x y : Int64} (hd : decode cc pc = .ok (.lsub, 1)) (hp : pc + 1 = pc')  (k : Ev S d own cc rt pc' ls (.long (x - y) :: rest) mem Q) : Ev S d own cc rt pc ls (.long y :: .long x :: rest) mem Q := by
  subst hp
  exact ev_nx hd rfl (fun call ls2 q => ⟨ls2, rfl, q⟩) k
theorem ev_lmul {x y : Int64} (hd : decode cc pc = .ok (.lmul, 1)) (hp : pc + 1 = pc')  (k : Ev S d own cc rt pc' ls (.long (x * y) :: rest) mem Q) : Ev S d own cc rt pc ls (.long y :: .long x :: rest) mem Q := by
  subst hp
  exact ev_nx hd rfl (fun call ls2 q => ⟨ls2, rfl, q⟩) k
theorem ev_idiv {x y : Int32} (hd : decode cc pc = .ok (.idiv, 1)) (hp : pc + 1 = pc') (hy : ¬ y = 0) (k : Ev S d own cc rt pc' ls (.int (x / y) :: rest) mem Q) : Ev S d own cc rt pc ls (.int y :: .int x :: rest) mem Q := by
  subst hp
  exact ev_nx hd rfl (fun call ls2 q => ⟨ls2, if_neg hy, q⟩) k
theorem ev_irem {x y : Int32} (hd : decode cc pc = .ok (.irem, 1)) (hp : pc + 1 = pc') (hy : ¬ y = 0) (k : Ev S d own cc rt pc' ls (.int (airem x y) :: rest) mem Q) : Ev S d own cc rt pc ls (.int y :: .int x :: rest) mem Q := by
  subst hp
  exact ev_nx hd rfl (fun call ls2 q => ⟨ls2, if_neg hy, q⟩) k
theorem ev_ldiv {x y : Int64} (hd : decode cc pc = .ok (.ldiv, 1)) (hp : pc + 1 = pc') (hy : ¬ y = 0) (k : Ev S d own cc rt pc' ls (.long (x / y) :: rest) mem Q) : Ev S d own cc rt pc ls (.long y :: .long x :: rest) mem Q := by
  subst hp
  exact ev_nx hd rfl (fun call ls2 q => ⟨ls2, if_neg hy, q⟩) k
theorem ev_lrem {x y : Int64} (hd : decode cc pc = .ok (.lrem, 1)) (hp : pc + 1 = pc') (hy : ¬ y = 0) (k : Ev S d own cc rt pc' ls (.long (airemL x y) :: rest) mem Q) : Ev S d own cc rt pc ls (.long y :: .long x :: rest) mem Q := by
  subst hp
  exact ev_nx hd rfl (fun call ls2 q => ⟨ls2, if_neg hy, q⟩) k
theorem ev_ineg {x : Int32} (hd : decode cc pc = .ok (.ineg, 1)) (hp : pc + 1 = pc')  (k : Ev S d own cc rt pc' ls (.int (-x) :: rest) mem Q) : Ev S d own cc rt pc ls (.int x :: rest) mem Q := by
  subst hp
  exact ev_nx hd rfl (fun call ls2 q => ⟨ls2, rfl, q⟩) k
theorem ev_i2l {x : Int32} (hd : decode cc pc = .ok (.i2l, 1)) (hp : pc + 1 = pc')  (k : Ev S d own cc rt pc' ls (.long x.toInt64 :: rest) mem Q) : Ev S d own cc rt pc ls (.int x :: rest) mem Q := by
  subst hp
  exact ev_nx hd rfl (fun call ls2 q => ⟨ls2, rfl, q⟩) k
theorem ev_i2c {x : Int32} (hd : decode cc pc = .ok (.i2c, 1)) (hp : pc + 1 = pc')  (k : Ev S d own cc rt pc' ls (.int (x.toUInt32 % 65536).toInt32 :: rest) mem Q) : Ev S d own cc rt pc ls (.int x :: rest) mem Q := by
  subst hp
  exact ev_nx hd rfl (fun call ls2 q => ⟨ls2, rfl, q⟩) k
theorem ev_i2b {x : Int32} (hd : decode cc pc = .ok (.i2b, 1)) (hp : pc + 1 = pc')  (k : Ev S d own cc rt pc' ls (.int x.toInt8.toInt32 :: rest) mem Q) : Ev S d own cc rt pc ls (.int x :: rest) mem Q := by
  subst hp
  exact ev_nx hd rfl (fun call ls2 q => ⟨ls2, rfl, q⟩) k
theorem ev_lcmp {x y : Int64} (hd : decode cc pc = .ok (.lcmp, 1)) (hp : pc + 1 = pc')  (k : Ev S d own cc rt pc' ls (.int (lg_cmp x y) :: rest) mem Q) : Ev S d own cc rt pc ls (.long y :: .long x :: rest) mem Q := by
  subst hp
  exact ev_nx hd rfl (fun call ls2 q => ⟨ls2, rfl, q⟩) k
theorem ev_dup {v : Value} (hd : decode cc pc = .ok (.dup, 1)) (hp : pc + 1 = pc') (hv : v.category = 1) (k : Ev S d own cc rt pc' ls (v :: v :: rest) mem Q) : Ev S d own cc rt pc ls (v :: rest) mem Q := by
  subst hp
  exact ev_nx hd rfl (fun call ls2 q => ⟨ls2, if_pos hv, q⟩) k
theorem ev_pop {v : Value} (hd : decode cc pc = .ok (.pop, 1)) (hp : pc + 1 = pc') (hv : v.category = 1) (k : Ev S d own cc rt pc' ls (rest) mem Q) : Ev S d own cc rt pc ls (v :: rest) mem Q := by
  subst hp
  exact ev_nx hd rfl (fun call ls2 q => ⟨ls2, if_pos hv, q⟩) k
theorem ev_dup2 {a b : Value} (hd : decode cc pc = .ok (.dup2, 1)) (hp : pc + 1 = pc') (ha : a.category = 1) (hb : b.category = 1) (k : Ev S d own cc rt pc' ls (a :: b :: a :: b :: rest) mem Q) : Ev S d own cc rt pc ls (a :: b :: rest) mem Q := by
  subst hp
  exact ev_nx hd rfl (fun call ls2 q => ⟨ls2, if_pos ⟨ha, hb⟩, q⟩) k
theorem ev_if_eq {x : Int32} {off : Int} {t : Nat} (hd : decode cc pc = .ok (.ifCond .eq off, 3)) (hp : pc + 3 = pc') (ht : ajmp pc off = some t) (kt : x = 0 → Ev S d own cc rt t ls rest mem Q) (kf : ¬ (x = 0) → Ev S d own cc rt pc' ls rest mem Q) : Ev S d own cc rt pc ls (.int x :: rest) mem Q := by
  subst hp
  by_cases c : x = 0
  · refine ev_nx hd rfl (fun call ls2 q => ⟨ls2, ?_, q⟩) (kt c)
    simp only [aex, ht]
    exact if_pos (by simp only [acnd, decide_eq_true_eq]; exact c)
  · refine ev_nx hd rfl (fun call ls2 q => ⟨ls2, ?_, q⟩) (kf c)
    simp only [aex, ht]
    exact if_neg (by simp only [acnd, decide_eq_true_eq]; exact c)
theorem ev_if_ne {x : Int32} {off : Int} {t : Nat} (hd : decode cc pc = .ok (.ifCond .ne off, 3)) (hp : pc + 3 = pc') (ht : ajmp pc off = some t) (kt : ¬ x = 0 → Ev S d own cc rt t ls rest mem Q) (kf : x = 0 → Ev S d own cc rt pc' ls rest mem Q) : Ev S d own cc rt pc ls (.int x :: rest) mem Q := by
  subst hp
  by_cases c : ¬ x = 0
  · refine ev_nx hd rfl (fun call ls2 q => ⟨ls2, ?_, q⟩) (kt c)
    simp only [aex, ht]
    exact if_pos (by simp only [acnd, decide_eq_true_eq]; exact c)
  · refine ev_nx hd rfl (fun call ls2 q => ⟨ls2, ?_, q⟩) (kf (Decidable.not_not.mp c))
    simp only [aex, ht]
    exact if_neg (by simp only [acnd, decide_eq_true_eq]; exact c)
theorem ev_if_lt {x : Int32} {off : Int} {t : Nat} (hd : decode cc pc = .ok (.ifCond .lt off, 3)) (hp : pc + 3 = pc') (ht : ajmp pc off = some t) (kt : x < 0 → Ev S d own cc rt t ls rest mem Q) (kf : ¬ (x < 0) → Ev S d own cc rt pc' ls rest mem Q) : Ev S d own cc rt pc ls (.int x :: rest) mem Q := by
  subst hp
  by_cases c : x < 0
  · refine ev_nx hd rfl (fun call ls2 q => ⟨ls2, ?_, q⟩) (kt c)
    simp only [aex, ht]
    exact if_pos (by simp only [acnd, decide_eq_true_eq]; exact c)
  · refine ev_nx hd rfl (fun call ls2 q => ⟨ls2, ?_, q⟩) (kf c)
    simp only [aex, ht]
    exact if_neg (by simp only [acnd, decide_eq_true_eq]; exact c)
theorem ev_if_ge {x : Int32} {off : Int} {t : Nat} (hd : decode cc pc = .ok (.ifCond .ge off, 3)) (hp : pc + 3 = pc') (ht : ajmp pc off = some t) (kt : 0 ≤ x → Ev S d own cc rt t ls rest mem Q) (kf : ¬ (0 ≤ x) → Ev S d own cc rt pc' ls rest mem Q) : Ev S d own cc rt pc ls (.int x :: rest) mem Q := by
  subst hp
  by_cases c : 0 ≤ x
  · refine ev_nx hd rfl (fun call ls2 q => ⟨ls2, ?_, q⟩) (kt c)
    simp only [aex, ht]
    exact if_pos (by simp only [acnd, decide_eq_true_eq]; exact c)
  · refine ev_nx hd rfl (fun call ls2 q => ⟨ls2, ?_, q⟩) (kf c)
    simp only [aex, ht]
    exact if_neg (by simp only [acnd, decide_eq_true_eq]; exact c)
theorem ev_if_gt {x : Int32} {off : Int} {t : Nat} (hd : decode cc pc = .ok (.ifCond .gt off, 3)) (hp : pc + 3 = pc') (ht : ajmp pc off = some t) (kt : 0 < x → Ev S d own cc rt t ls rest mem Q) (kf : ¬ (0 < x) → Ev S d own cc rt pc' ls rest mem Q) : Ev S d own cc rt pc ls (.int x :: rest) mem Q := by
  subst hp
  by_cases c : 0 < x
  · refine ev_nx hd rfl (fun call ls2 q => ⟨ls2, ?_, q⟩) (kt c)
    simp only [aex, ht]
    exact if_pos (by simp only [acnd, decide_eq_true_eq]; exact c)
  · refine ev_nx hd rfl (fun call ls2 q => ⟨ls2, ?_, q⟩) (kf c)
    simp only [aex, ht]
    exact if_neg (by simp only [acnd, decide_eq_true_eq]; exact c)
theorem ev_if_le {x : Int32} {off : Int} {t : Nat} (hd : decode cc pc = .ok (.ifCond .le off, 3)) (hp : pc + 3 = pc') (ht : ajmp pc off = some t) (kt : x ≤ 0 → Ev S d own cc rt t ls rest mem Q) (kf : ¬ (x ≤ 0) → Ev S d own cc rt pc' ls rest mem Q) : Ev S d own cc rt pc ls (.int x :: rest) mem Q := by
  subst hp
  by_cases c : x ≤ 0
  · refine ev_nx hd rfl (fun call ls2 q => ⟨ls2, ?_, q⟩) (kt c)
    simp only [aex, ht]
    exact if_pos (by simp only [acnd, decide_eq_true_eq]; exact c)
  · refine ev_nx hd rfl (fun call ls2 q => ⟨ls2, ?_, q⟩) (kf c)
    simp only [aex, ht]
    exact if_neg (by simp only [acnd, decide_eq_true_eq]; exact c)
theorem ev_icmp_eq {x y : Int32} {off : Int} {t : Nat} (hd : decode cc pc = .ok (.if_icmp .eq off, 3)) (hp : pc + 3 = pc') (ht : ajmp pc off = some t) (kt : x = y → Ev S d own cc rt t ls rest mem Q) (kf : ¬ (x = y) → Ev S d own cc rt pc' ls rest mem Q) : Ev S d own cc rt pc ls (.int y :: .int x :: rest) mem Q := by
  subst hp
  by_cases c : x = y
  · refine ev_nx hd rfl (fun call ls2 q => ⟨ls2, ?_, q⟩) (kt c)
    simp only [aex, ht]
    exact if_pos (by simp only [acnd, decide_eq_true_eq]; exact c)
  · refine ev_nx hd rfl (fun call ls2 q => ⟨ls2, ?_, q⟩) (kf c)
    simp only [aex, ht]
    exact if_neg (by simp only [acnd, decide_eq_true_eq]; exact c)
theorem ev_icmp_ne {x y : Int32} {off : Int} {t : Nat} (hd : decode cc pc = .ok (.if_icmp .ne off, 3)) (hp : pc + 3 = pc') (ht : ajmp pc off = some t) (kt : ¬ x = y → Ev S d own cc rt t ls rest mem Q) (kf : x = y → Ev S d own cc rt pc' ls rest mem Q) : Ev S d own cc rt pc ls (.int y :: .int x :: rest) mem Q := by
  subst hp
  by_cases c : ¬ x = y
  · refine ev_nx hd rfl (fun call ls2 q => ⟨ls2, ?_, q⟩) (kt c)
    simp only [aex, ht]
    exact if_pos (by simp only [acnd, decide_eq_true_eq]; exact c)
  · refine ev_nx hd rfl (fun call ls2 q => ⟨ls2, ?_, q⟩) (kf (Decidable.not_not.mp c))
    simp only [aex, ht]
    exact if_neg (by simp only [acnd, decide_eq_true_eq]; exact c)
theorem ev_icmp_lt {x y : Int32} {off : Int} {t : Nat} (hd : decode cc pc = .ok (.if_icmp .lt off, 3)) (hp : pc + 3 = pc') (ht : ajmp pc off = some t) (kt : x < y → Ev S d own cc rt t ls rest mem Q) (kf : ¬ (x < y) → Ev S d own cc rt pc' ls rest mem Q) : Ev S d own cc rt pc ls (.int y :: .int x :: rest) mem Q := by
  subst hp
  by_cases c : x < y
  · refine ev_nx hd rfl (fun call ls2 q => ⟨ls2, ?_, q⟩) (kt c)
    simp only [aex, ht]
    exact if_pos (by simp only [acnd, decide_eq_true_eq]; exact c)
  · refine ev_nx hd rfl (fun call ls2 q => ⟨ls2, ?_, q⟩) (kf c)
    simp only [aex, ht]
    exact if_neg (by simp only [acnd, decide_eq_true_eq]; exact c)
theorem ev_icmp_ge {x y : Int32} {off : Int} {t : Nat} (hd : decode cc pc = .ok (.if_icmp .ge off, 3)) (hp : pc + 3 = pc') (ht : ajmp pc off = some t) (kt : y ≤ x → Ev S d own cc rt t ls rest mem Q) (kf : ¬ (y ≤ x) → Ev S d own cc rt pc' ls rest mem Q) : Ev S d own cc rt pc ls (.int y :: .int x :: rest) mem Q := by
  subst hp
  by_cases c : y ≤ x
  · refine ev_nx hd rfl (fun call ls2 q => ⟨ls2, ?_, q⟩) (kt c)
    simp only [aex, ht]
    exact if_pos (by simp only [acnd, decide_eq_true_eq]; exact c)
  · refine ev_nx hd rfl (fun call ls2 q => ⟨ls2, ?_, q⟩) (kf c)
    simp only [aex, ht]
    exact if_neg (by simp only [acnd, decide_eq_true_eq]; exact c)
theorem ev_icmp_gt {x y : Int32} {off : Int} {t : Nat} (hd : decode cc pc = .ok (.if_icmp .gt off, 3)) (hp : pc + 3 = pc') (ht : ajmp pc off = some t) (kt : y < x → Ev S d own cc rt t ls rest mem Q) (kf : ¬ (y < x) → Ev S d own cc rt pc' ls rest mem Q) : Ev S d own cc rt pc ls (.int y :: .int x :: rest) mem Q := by
  subst hp
  by_cases c : y < x
  · refine ev_nx hd rfl (fun call ls2 q => ⟨ls2, ?_, q⟩) (kt c)
    simp only [aex, ht]
    exact if_pos (by simp only [acnd, decide_eq_true_eq]; exact c)
  · refine ev_nx hd rfl (fun call ls2 q => ⟨ls2, ?_, q⟩) (kf c)
    simp only [aex, ht]
    exact if_neg (by simp only [acnd, decide_eq_true_eq]; exact c)
theorem ev_icmp_le {x y : Int32} {off : Int} {t : Nat} (hd : decode cc pc = .ok (.if_icmp .le off, 3)) (hp : pc + 3 = pc') (ht : ajmp pc off = some t) (kt : x ≤ y → Ev S d own cc rt t ls rest mem Q) (kf : ¬ (x ≤ y) → Ev S d own cc rt pc' ls rest mem Q) : Ev S d own cc rt pc ls (.int y :: .int x :: rest) mem Q := by
  subst hp
  by_cases c : x ≤ y
  · refine ev_nx hd rfl (fun call ls2 q => ⟨ls2, ?_, q⟩) (kt c)
    simp only [aex, ht]
    exact if_pos (by simp only [acnd, decide_eq_true_eq]; exact c)
  · refine ev_nx hd rfl (fun call ls2 q => ⟨ls2, ?_, q⟩) (kf c)
    simp only [aex, ht]
    exact if_neg (by simp only [acnd, decide_eq_true_eq]; exact c)
theorem ev_goto {off : Int} {t : Nat} (hd : decode cc pc = .ok (.goto off, 3)) (ht : ajmp pc off = some t) (k : Ev S d own cc rt t ls st mem Q) : Ev S d own cc rt pc ls st mem Q := ev_nx hd rfl (fun call ls2 q => ⟨ls2, by simp only [aex, ajm, ht], q⟩) k
theorem ev_ifnonnull {x : Nat} {off : Int} {t : Nat} (hd : decode cc pc = .ok (.ifnonnull off, 3)) (hx : x < 99) (ht : ajmp pc off = some t) (k : Ev S d own cc rt t ls rest mem Q) : Ev S d own cc rt pc ls (.ref x :: rest) mem Q := by
  have h9 : ¬ x = 99 := by omega
  refine ev_nx hd rfl (fun call ls2 q => ⟨ls2, ?_, q⟩) k
  simp only [aex, ajm, ht]
  exact if_neg h9
theorem ev_lookup {x : Int32} {dflt off : Int} {ps : Array (Int × Int)} {len t : Nat} (hd : decode cc pc = .ok (.lookupswitch dflt ps, len)) (hz : (ps.toList.zip (ps.toList.drop 1)).all (fun (a, next) => a.1 < next.1) = true) (ho : Op.lookupswitch.offset ps.toList dflt x.toInt = off) (ht : ajmp pc off = some t) (k : Ev S d own cc rt t ls rest mem Q) : Ev S d own cc rt pc ls (.int x :: rest) mem Q := by
  refine ev_nx hd rfl (fun call ls2 q => ⟨ls2, ?_, q⟩) k
  simp only [aex, ajm, ho, ht]
  exact if_pos hz
theorem ev_tableOut {x : Int32} {dflt lo hi : Int} {offs : Array Int} {len t : Nat} (hd : decode cc pc = .ok (.tableswitch dflt lo hi offs, len)) (h : x.toInt < lo ∨ hi < x.toInt) (ht : ajmp pc dflt = some t) (k : Ev S d own cc rt t ls rest mem Q) : Ev S d own cc rt pc ls (.int x :: rest) mem Q := by
  refine ev_nx hd rfl (fun call ls2 q => ⟨ls2, ?_, q⟩) k
  simp only [aex, ajm, ht]
  exact if_pos h
theorem ev_tableIn {x v : Int32} {dflt lo hi off : Int} {offs : Array Int} {len t : Nat} (hd : decode cc pc = .ok (.tableswitch dflt lo hi offs, len)) (hx : x = v) (h : ¬ (v.toInt < lo ∨ hi < v.toInt)) (ho : offs[(v.toInt - lo).toNat]? = some off) (ht : ajmp pc off = some t) (k : Ev S d own cc rt t ls rest mem Q) : Ev S d own cc rt pc ls (.int x :: rest) mem Q := by
  subst hx
  refine ev_nx hd rfl (fun call ls2 q => ⟨ls2, ?_, q⟩) k
  simp only [aex, ajm]
  rw [if_neg h, ho]
  dsimp only
  rw [ht]
theorem ev_ldc {i : Nat} {v : Int32} (hd : decode cc pc = .ok (.ldc i, 2)) (hp : pc + 2 = pc') (hv : lk2 iTL own i = some v) (k : Ev S d own cc rt pc' ls (.int v :: st) mem Q) : Ev S d own cc rt pc ls (st) mem Q := by
  subst hp
  exact ev_nx hd rfl (fun call ls2 q => ⟨ls2, by simp only [aex, hv], q⟩) k
theorem ev_ldcS {i v : Nat} (hd : decode cc pc = .ok (.ldc i, 2)) (hp : pc + 2 = pc') (hn : lk2 iTL own i = none) (hv : lk2 xTL own i = some v) (k : Ev S d own cc rt pc' ls (.ref (50 + v) :: st) mem Q) : Ev S d own cc rt pc ls (st) mem Q := by
  subst hp
  exact ev_nx hd rfl (fun call ls2 q => ⟨ls2, by simp only [aex, hn, hv], q⟩) k
theorem ev_ldc_w {i : Nat} {v : Int32} (hd : decode cc pc = .ok (.ldc_w i, 3)) (hp : pc + 3 = pc') (hv : lk2 iTL own i = some v) (k : Ev S d own cc rt pc' ls (.int v :: st) mem Q) : Ev S d own cc rt pc ls (st) mem Q := by
  subst hp
  exact ev_nx hd rfl (fun call ls2 q => ⟨ls2, by simp only [aex, hv], q⟩) k
theorem ev_ldc2 {i : Nat} {v : Int64} (hd : decode cc pc = .ok (.ldc2_w i, 3)) (hp : pc + 3 = pc') (hv : lk2 lTL own i = some v) (k : Ev S d own cc rt pc' ls (.long v :: st) mem Q) : Ev S d own cc rt pc ls (st) mem Q := by
  subst hp
  exact ev_nx hd rfl (fun call ls2 q => ⟨ls2, by simp only [aex, hv], q⟩) k
theorem ev_getsC  (hd : decode cc pc = .ok (.getstatic 38, 3)) (hp : pc + 3 = pc') (ho : own = 10) (k : Ev S d own cc rt pc' ls (.int 1 :: st) mem Q) : Ev S d own cc rt pc ls (st) mem Q := by
  subst hp
  exact ev_nx hd rfl (fun call ls2 q => ⟨ls2, by subst ho; rfl, q⟩) k
theorem ev_getsF  (hd : decode cc pc = .ok (.getstatic 1053, 3)) (hp : pc + 3 = pc') (ho : own = 10) (k : Ev S d own cc rt pc' ls (.ref 99 :: st) mem Q) : Ev S d own cc rt pc ls (st) mem Q := by
  subst hp
  exact ev_nx hd rfl (fun call ls2 q => ⟨ls2, by subst ho; rfl, q⟩) k
theorem ev_get {i x ci f : Nat} (hd : decode cc pc = .ok (.getfield i, 3)) (hp : pc + 3 = pc') (hf : lk2 fTL own i = some (ci, f)) (hk : kdp x ci) (hr : rfT ci f x = none) (k : Ev S d own cc rt pc' ls (.int (mem x f) :: rest) mem Q) : Ev S d own cc rt pc ls (.ref x :: rest) mem Q := by
  subst hp
  exact ev_nx hd rfl (fun call ls2 q => ⟨ls2, by simp only [aex, hf]; rw [if_pos hk]; simp only [fv, hr], q⟩) k
theorem ev_getR {i x y ci f : Nat} (hd : decode cc pc = .ok (.getfield i, 3)) (hp : pc + 3 = pc') (hf : lk2 fTL own i = some (ci, f)) (hk : kdp x ci) (hr : rfT ci f x = some y) (k : Ev S d own cc rt pc' ls (.ref y :: rest) mem Q) : Ev S d own cc rt pc ls (.ref x :: rest) mem Q := by
  subst hp
  exact ev_nx hd rfl (fun call ls2 q => ⟨ls2, by simp only [aex, hf]; rw [if_pos hk]; simp only [fv, hr], q⟩) k
theorem ev_getV {x : Nat} (hd : decode cc pc = .ok (.getfield 9, 3)) (hp : pc + 3 = pc') (ho : own = 10) (hk : kd x = 7) (k : Ev S d own cc rt pc' ls (.ref (x + 10) :: rest) mem Q) : Ev S d own cc rt pc ls (.ref x :: rest) mem Q := by
  subst hp
  exact ev_nx hd rfl (fun call ls2 q => ⟨ls2, by subst ho; simp only [aex, show lk2 fTL 10 9 = none from by decide +kernel]; rw [if_pos ⟨trivial, hk⟩, if_pos trivial], q⟩) k
theorem ev_getC {x : Nat} (hd : decode cc pc = .ok (.getfield 15, 3)) (hp : pc + 3 = pc') (ho : own = 10) (hk : kd x = 7) (k : Ev S d own cc rt pc' ls (.int 0 :: rest) mem Q) : Ev S d own cc rt pc ls (.ref x :: rest) mem Q := by
  subst hp
  exact ev_nx hd rfl (fun call ls2 q => ⟨ls2, by subst ho; simp only [aex, show lk2 fTL 10 15 = none from by decide +kernel]; rw [if_pos ⟨trivial, hk⟩, if_neg (by decide), if_pos trivial], q⟩) k
theorem ev_put {i x ci f : Nat} {v : Int32} (hd : decode cc pc = .ok (.putfield i, 3)) (hp : pc + 3 = pc') (hf : lk2 fTL own i = some (ci, f)) (hk : kdp x ci) (hr : rfT ci f x = none) (hv : pok ci f v) (k : Ev S d own cc rt pc' ls (rest) (mset mem x f v) Q) : Ev S d own cc rt pc ls (.int v :: .ref x :: rest) mem Q := by
  subst hp
  exact ev_nx hd rfl (fun call ls2 q => ⟨ls2, by simp only [aex, hf]; exact if_pos ⟨hk, hr, hv⟩, q⟩) k
theorem ev_iald {x : Nat} {i : Int32} (hd : decode cc pc = .ok (.iaload, 1)) (hp : pc + 1 = pc') (hk : kdp x 5) (hi : vin i (ln x)) (k : Ev S d own cc rt pc' ls (.int (mem x i.toNatClampNeg) :: rest) mem Q) : Ev S d own cc rt pc ls (.int i :: .ref x :: rest) mem Q := by
  subst hp
  exact ev_nx hd rfl (fun call ls2 q => ⟨ls2, if_pos ⟨hk, hi⟩, q⟩) k
theorem ev_sald {i : Int32} (hd : decode cc pc = .ok (.iaload, 1)) (hp : pc + 1 = pc') (hi : vin i S.1) (k : Ev S d own cc rt pc' ls (.int (S.2 i.toNatClampNeg) :: rest) mem Q) : Ev S d own cc rt pc ls (.int i :: .ref 90 :: rest) mem Q := by
  subst hp
  exact ev_nx hd rfl (fun call ls2 q => ⟨ls2, by simp only [aex]; rw [if_neg (by rintro ⟨⟨-, z⟩, -⟩; omega)]; exact if_pos ⟨trivial, hi⟩, q⟩) k
theorem ev_iast {x : Nat} {i v : Int32} (hd : decode cc pc = .ok (.iastore, 1)) (hp : pc + 1 = pc') (hk : kdp x 5) (hi : vin i (ln x)) (k : Ev S d own cc rt pc' ls (rest) (mset mem x i.toNatClampNeg v) Q) : Ev S d own cc rt pc ls (.int v :: .int i :: .ref x :: rest) mem Q := by
  subst hp
  exact ev_nx hd rfl (fun call ls2 q => ⟨ls2, if_pos ⟨hk, hi⟩, q⟩) k
theorem ev_aald {x : Nat} {i : Int32} (hd : decode cc pc = .ok (.aaload, 1)) (hp : pc + 1 = pc') (hk : kdp x 6) (hi : vin i 7) (k : Ev S d own cc rt pc' ls (.ref (x + 1 + i.toNatClampNeg) :: rest) mem Q) : Ev S d own cc rt pc ls (.int i :: .ref x :: rest) mem Q := by
  subst hp
  exact ev_nx hd rfl (fun call ls2 q => ⟨ls2, if_pos ⟨hk, hi⟩, q⟩) k
theorem ev_bald {x : Nat} {i : Int32} (hd : decode cc pc = .ok (.baload, 1)) (hp : pc + 1 = pc') (hk : kd x = 8) (hi : vin i (ablen x)) (k : Ev S d own cc rt pc' ls (.int (abyt x i.toNatClampNeg) :: rest) mem Q) : Ev S d own cc rt pc ls (.int i :: .ref x :: rest) mem Q := by
  subst hp
  exact ev_nx hd rfl (fun call ls2 q => ⟨ls2, if_pos ⟨hk, hi⟩, q⟩) k
theorem ev_alen {x : Nat} {n : Int32} (hd : decode cc pc = .ok (.arraylength, 1)) (hp : pc + 1 = pc') (hk : kdp x 5) (hn : Int32.ofNat (ln x) = n) (k : Ev S d own cc rt pc' ls (.int n :: rest) mem Q) : Ev S d own cc rt pc ls (.ref x :: rest) mem Q := by
  subst hp
  exact ev_nx hd rfl (fun call ls2 q => ⟨ls2, by rw [← hn]; exact if_pos hk, q⟩) k
theorem ev_alenC {x : Nat} (hd : decode cc pc = .ok (.arraylength, 1)) (hp : pc + 1 = pc') (hk : kdp x 6) (k : Ev S d own cc rt pc' ls (.int 7 :: rest) mem Q) : Ev S d own cc rt pc ls (.ref x :: rest) mem Q := by
  subst hp
  exact ev_nx hd rfl (fun call ls2 q => ⟨ls2, by simp only [aex]; rw [if_neg (by rintro ⟨z, -⟩; rw [hk.1] at z; cases z)]; exact if_pos hk, q⟩) k
theorem ev_alenB {x : Nat} (hd : decode cc pc = .ok (.arraylength, 1)) (hp : pc + 1 = pc') (hk : kd x = 8) (k : Ev S d own cc rt pc' ls (.int (Int32.ofNat (ablen x)) :: rest) mem Q) : Ev S d own cc rt pc ls (.ref x :: rest) mem Q := by
  subst hp
  exact ev_nx hd rfl (fun call ls2 q => ⟨ls2, by simp only [aex]; rw [if_neg (by rintro ⟨z, -⟩; rw [hk] at z; cases z), if_neg (by rintro ⟨z, -⟩; rw [hk] at z; cases z)]; exact if_pos hk, q⟩) k
theorem ev_alenS  (hd : decode cc pc = .ok (.arraylength, 1)) (hp : pc + 1 = pc')  (k : Ev S d own cc rt pc' ls (.int (Int32.ofNat S.1) :: rest) mem Q) : Ev S d own cc rt pc ls (.ref 90 :: rest) mem Q := by
  subst hp
  exact ev_nx hd rfl (fun call ls2 q => ⟨ls2, rfl, q⟩) k
theorem ev_invS {i μ : Nat} {b : Bool} {D : MD} {vs : List Value} (hd : decode cc pc = .ok (.invokestatic i, 3)) (hp : pc + 3 = pc') (hs : lk2 sTL own i = some (b, μ)) (hD : mTL[μ]? = some D) (hst : D.st = true) (hn : ∃ n, n = (if D.st = true then D.na else D.na + 1) ∧ n ≤ st.length ∧ awd (st.drop n) ≤ 8 ∧ (st.take n).reverse = vs ∧ st.drop n = rest) (k : Ca S d μ vs mem (fun r m' => Ev S d own cc rt pc' ls (r.toList ++ rest) m' Q)) : Ev S d own cc rt pc ls st mem Q := ev_inv hd rfl (fun call ls2 => by simp only [aex, hs, hD]; exact if_pos hst) hn hp k
theorem ev_invV {i μ : Nat} {b : Bool} {D : MD} {vs : List Value} (hd : decode cc pc = .ok (.invokevirtual i, 3)) (hp : pc + 3 = pc') (hs : lk2 sTL own i = some (b, μ)) (hD : mTL[μ]? = some D) (hst : D.st = false) (hr : arecv D st = true) (hn : ∃ n, n = (if D.st = true then D.na else D.na + 1) ∧ n ≤ st.length ∧ awd (st.drop n) ≤ 8 ∧ (st.take n).reverse = vs ∧ st.drop n = rest) (k : Ca S d μ vs mem (fun r m' => Ev S d own cc rt pc' ls (r.toList ++ rest) m' Q)) : Ev S d own cc rt pc ls st mem Q := ev_inv hd rfl (fun call ls2 => by simp only [aex, hs, hD]; exact if_pos ⟨hst, hr⟩) hn hp k
theorem arecv_ob {D : MD} {st : List Value} {x ci : Nat} (h1 : st[D.na]? = some (.ref x)) (h2 : D.own = ci) (h5 : ci < 5) (hk : kdp x ci) : arecv D st = true := by
  subst h2
  unfold arecv
  rw [h1]
  dsimp only
  rw [if_pos h5]
  exact decide_eq_true hk
theorem arecv_tx {D : MD} {st : List Value} {x : Nat} (h1 : st[D.na]? = some (.ref x)) (h2 : D.own = 10) (hk : kd x = 7) : arecv D st = true := by
  unfold arecv
  rw [h1]
  dsimp only
  rw [if_neg (by omega)]
  exact decide_eq_true ⟨h2, hk⟩
theorem ev_ireturn {v : Int32} (hd : decode cc pc = .ok (.ireturn, 1)) (hr : aret rt [.int v] = some (some (.int v))) (k : Q (some (.int v)) mem) : Ev S d own cc rt pc ls [.int v] mem Q := ev_rt hd rfl (fun call ls2 => by simp only [aex, arets, hr]) k
theorem aret_i {v : Int32} : aret (some .int) [.int v] = some (some (.int v)) := rfl
theorem aret_z {v : Int32} (h : v = 0 ∨ v = 1) : aret (some .boolean) [.int v] = some (some (.int v)) := if_pos h
theorem aret_b {v : Int32} (h : v.toInt8.toInt32 = v) : aret (some .byte) [.int v] = some (some (.int v)) := if_pos h
theorem aret_c {v : Int32} (h : v.toUInt32.toUInt16.toUInt32.toInt32 = v) : aret (some .char) [.int v] = some (some (.int v)) := if_pos h
theorem ev_lreturn {v : Int64} (hd : decode cc pc = .ok (.lreturn, 1)) (hr : rt = some .long) (k : Q (some (.long v)) mem) : Ev S d own cc rt pc ls [.long v] mem Q := by
  subst hr
  exact ev_rt hd rfl (fun call ls2 => rfl) k
theorem ev_areturn {x : Nat} {n : String} (hd : decode cc pc = .ok (.areturn, 1)) (hr : rt = some (.object n)) (hx : x < 99) (k : Q (some (.ref x)) mem) : Ev S d own cc rt pc ls [.ref x] mem Q := by
  subst hr
  have h9 : ¬ x = 99 := by omega
  exact ev_rt hd rfl (fun call ls2 => by simp only [aex, arets]; rw [if_neg h9]) k
theorem ev_return (hd : decode cc pc = .ok (.return_, 1)) (hr : rt = none) (k : Q none mem) : Ev S d own cc rt pc ls [] mem Q := by
  subst hr
  exact ev_rt hd rfl (fun call ls2 => rfl) k
end EVR
/-- the words of the pure functions: a call that may fail, a guard, a name -/
def ob {α β : Type} (x : Option α) (k : α → Option β) : Option β := match x with
  | some y => k y
  | none => none
theorem ob_of {α β : Type} {x : Option α} {k : α → Option β} {r : β} (h : ob x k = some r) : ∃ y, x = some y ∧ k y = some r := by
  unfold ob at h
  split at h
  next y => exact ⟨y, rfl, h⟩
  next => cases h
def nm {α β : Type} (x : α) (k : α → β) : β := k x
theorem nm_at {α β : Type} {x y : α} {k : α → β} {r : β} (e : y = x) (h : nm x k = r) : k y = r := by subst e; exact h
def gd {β : Type} (c : Prop) [Decidable c] (k : Option β) : Option β := if c then k else none
theorem gd_of {β : Type} {c : Prop} [Decidable c] {k : Option β} {r : β} (h : gd c k = some r) : c ∧ k = some r := by
  unfold gd at h
  split at h
  next hc => exact ⟨hc, h⟩
  next => cases h
theorem it_t {α : Sort _} {c : Prop} [Decidable c] {a b r : α} (hc : c) (h : (if c then a else b) = r) : a = r := (if_pos hc).symm.trans h
theorem it_f {α : Sort _} {c : Prop} [Decidable c] {a b r : α} (hc : ¬ c) (h : (if c then a else b) = r) : b = r := (if_neg hc).symm.trans h
theorem kd_town {o : Nat} (h : kdp o 2) : kdp (o + 1) 6 ∧ kdp (o + 9) 0 ∧ ∀ i, i < 7 → kdp (o + 1 + 1 + i) 0 := by
  have key : ∀ k, k < 44 → kdp k 2 → kdp (k + 1) 6 ∧ kdp (k + 9) 0 ∧ ∀ i, i < 7 → kdp (k + 1 + 1 + i) 0 := by decide +kernel
  exact key o h.2 h
theorem kd_lett {o : Nat} (h : kdp o 1) : kdp (o + 1) 5 ∧ ln (o + 1) = 96 := by
  have key : ∀ k, k < 44 → kdp k 1 → kdp (k + 1) 5 ∧ ln (k + 1) = 96 := by decide +kernel
  exact key o h.2 h
def LF : Nat := 4000
/-- a call that may fail and writes -/
def ob2 {α β γ : Type} (x : Option (α × β)) (k : α → β → Option γ) : Option γ := match x with
  | some y => k y.1 y.2
  | none => none
theorem ob2_of {α β γ : Type} {x : Option (α × β)} {k : α → β → Option γ} {r : γ} (h : ob2 x k = some r) : ∃ y m, x = some (y, m) ∧ k y m = some r := by
  unfold ob2 at h
  split at h
  next y => exact ⟨y.1, y.2, rfl, h⟩
  next => cases h
def nm2 {α β γ : Type} (x : α × β) (k : α → β → γ) : γ := k x.1 x.2
theorem nm2_of {α β γ : Type} {x : α × β} {k : α → β → γ} {r : γ} (h : nm2 x k = r) : ∃ y m, x = (y, m) ∧ k y m = r := ⟨x.1, x.2, rfl, h⟩
theorem lsub_nil : lsub [] [] := lsub_refl _
theorem lsub_c {a : Option Value} {l1 l2 : Lo} (h : lsub l1 l2) : lsub (a :: l1) (a :: l2) := by
  refine ⟨by rw [List.length_cons, List.length_cons, h.1], fun k v hk => ?_⟩
  cases k with
  | zero => exact hk
  | succ k =>
    rw [List.getElem?_cons_succ] at hk ⊢
    exact h.2 k v hk
theorem lsub_n {a : Option Value} {l1 l2 : Lo} (h : lsub l1 l2) : lsub (none :: l1) (a :: l2) := by
  refine ⟨by rw [List.length_cons, List.length_cons, h.1], fun k v hk => ?_⟩
  cases k with
  | zero => simp at hk
  | succ k =>
    rw [List.getElem?_cons_succ] at hk ⊢
    exact h.2 k v hk
section EVR2
variable {S : Sc} {d own : Nat} {cc : ByteArray} {rt : Option FieldType} {pc pc' : Nat} {ls ls' : Lo} {st rest : List Value} {mem mem' : Mm} {Q : Po}
theorem ev_r1 {v : Value} (k : Ev S d own cc rt pc ls (v :: rest) mem Q) : Ev S d own cc rt pc ls ((some v).toList ++ rest) mem Q := k
theorem ev_r0 (k : Ev S d own cc rt pc ls rest mem Q) : Ev S d own cc rt pc ls ((none : Option Value).toList ++ rest) mem Q := k
theorem ev_ialdK {x k0 : Nat} {i : Int32} (hd : decode cc pc = .ok (.iaload, 1)) (hp : pc + 1 = pc') (hk : kdp x 5) (hi : vin i (ln x)) (hk0 : i.toNatClampNeg = k0) (k : Ev S d own cc rt pc' ls (.int (mem x k0) :: rest) mem Q) : Ev S d own cc rt pc ls (.int i :: .ref x :: rest) mem Q := by
  subst hk0
  exact ev_iald hd hp hk hi k
theorem ev_iastK {x k0 : Nat} {i v : Int32} (hd : decode cc pc = .ok (.iastore, 1)) (hp : pc + 1 = pc') (hk : kdp x 5) (hi : vin i (ln x)) (hk0 : i.toNatClampNeg = k0) (k : Ev S d own cc rt pc' ls rest (mset mem x k0 v) Q) : Ev S d own cc rt pc ls (.int v :: .int i :: .ref x :: rest) mem Q := by
  subst hk0
  exact ev_iast hd hp hk hi k
theorem ev_lookupIn {x v : Int32} {dflt off : Int} {ps : Array (Int × Int)} {len t : Nat} (hd : decode cc pc = .ok (.lookupswitch dflt ps, len)) (hz : (ps.toList.zip (ps.toList.drop 1)).all (fun (a, next) => a.1 < next.1) = true) (hx : x = v) (ho : Op.lookupswitch.offset ps.toList dflt v.toInt = off) (ht : ajmp pc off = some t) (k : Ev S d own cc rt t ls rest mem Q) : Ev S d own cc rt pc ls (.int x :: rest) mem Q := by
  subst hx
  exact ev_lookup hd hz ho ht k
theorem lsw_def : ∀ (ps : List (Int × Int)) (Ls : List Int32) (x : Int32) (dflt : Int), ps.map (fun q => q.1) = Ls.map (fun v => v.toInt) → (∀ v ∈ Ls, ¬ x = v) → Op.lookupswitch.offset ps dflt x.toInt = dflt
  | [], _, _, _, _, _ => rfl
  | (a, o) :: ps, [], x, dflt, h, _ => by simp at h
  | (a, o) :: ps, v :: Ls, x, dflt, h, hx => by
    have h1 : a = v.toInt := by simpa using (List.cons.inj h).1
    have h2 : ps.map (fun q => q.1) = Ls.map (fun v => v.toInt) := (List.cons.inj h).2
    rw [lv_osw (hx v List.mem_cons_self) h1.symm]
    exact lsw_def ps Ls x dflt h2 (fun w hw => hx w (List.mem_cons_of_mem _ hw))
theorem ev_lookupDef {x : Int32} {dflt : Int} {ps : Array (Int × Int)} {len t : Nat} (hd : decode cc pc = .ok (.lookupswitch dflt ps, len)) (hz : (ps.toList.zip (ps.toList.drop 1)).all (fun (a, next) => a.1 < next.1) = true) (Ls : List Int32) (hm : ps.toList.map (fun q => q.1) = Ls.map (fun v => v.toInt)) (hx : ∀ v ∈ Ls, ¬ x = v) (ht : ajmp pc dflt = some t) (k : Ev S d own cc rt t ls rest mem Q) : Ev S d own cc rt pc ls (.int x :: rest) mem Q :=
  ev_lookup hd hz (lsw_def _ Ls x dflt hm hx) ht k
theorem ev_tableDef {x : Int32} {dflt lo hi : Int} {offs : Array Int} {len t : Nat} (hd : decode cc pc = .ok (.tableswitch dflt lo hi offs, len)) (Ls : List Int32) (hm : ∀ k, k < (hi - lo + 1).toNat → (lo + (k : Int)) ∈ Ls.map (fun v => v.toInt) ∨ offs[k]? = some dflt) (hx : ∀ v ∈ Ls, ¬ x = v) (ht : ajmp pc dflt = some t) (k : Ev S d own cc rt t ls rest mem Q) : Ev S d own cc rt pc ls (.int x :: rest) mem Q := by
  by_cases h : x.toInt < lo ∨ hi < x.toInt
  · exact ev_tableOut hd h ht k
  · refine ev_nx hd rfl (fun call ls2 q => ⟨ls2, ?_, q⟩) k
    simp only [aex, ajm]
    rw [if_neg h]
    have hno : x.toInt ∉ Ls.map (fun v => v.toInt) := by
      intro z
      obtain ⟨v, hv, e⟩ := List.mem_map.mp z
      exact hx v hv (Int32.toInt_inj.mp e.symm)
    rcases hm (x.toInt - lo).toNat (by omega) with z | z
    · exfalso
      apply hno
      rw [show lo + (((x.toInt - lo).toNat : Nat) : Int) = x.toInt by omega] at z
      exact z
    · rw [z]
      dsimp only
      rw [ht]
end EVR2
def mabs (x : Int32) : Int32 := if 0 ≤ x then x else 0 - x
def mmax (x y : Int32) : Int32 := if x < y then y else x
def mmin (x y : Int32) : Int32 := if y < x then y else x
theorem kd78 {o : Nat} (h : kd o = 7) : kd (o + 10) = 8 := by
  have h1 := kd7 h
  have key : ∀ k, k < 8 → kd (60 + k) = 8 := by decide
  have := key (o - 50) (by omega)
  rw [show 60 + (o - 50) = o + 10 by omega] at this
  exact this
theorem kn_0 : kdp 0 3 := by decide
theorem kn_1 : kdp 1 2 := by decide
theorem kn_2 : kdp 2 6 := by decide
theorem kn_3 : kdp 3 0 := by decide
theorem kn_4 : kdp 4 0 := by decide
theorem kn_5 : kdp 5 0 := by decide
theorem kn_6 : kdp 6 0 := by decide
theorem kn_7 : kdp 7 0 := by decide
theorem kn_8 : kdp 8 0 := by decide
theorem kn_9 : kdp 9 0 := by decide
theorem kn_10 : kdp 10 0 := by decide
theorem kn_11 : kdp 11 2 := by decide
theorem kn_12 : kdp 12 6 := by decide
theorem kn_13 : kdp 13 0 := by decide
theorem kn_14 : kdp 14 0 := by decide
theorem kn_15 : kdp 15 0 := by decide
theorem kn_16 : kdp 16 0 := by decide
theorem kn_17 : kdp 17 0 := by decide
theorem kn_18 : kdp 18 0 := by decide
theorem kn_19 : kdp 19 0 := by decide
theorem kn_20 : kdp 20 0 := by decide
theorem kn_21 : kdp 21 2 := by decide
theorem kn_22 : kdp 22 6 := by decide
theorem kn_23 : kdp 23 0 := by decide
theorem kn_24 : kdp 24 0 := by decide
theorem kn_25 : kdp 25 0 := by decide
theorem kn_26 : kdp 26 0 := by decide
theorem kn_27 : kdp 27 0 := by decide
theorem kn_28 : kdp 28 0 := by decide
theorem kn_29 : kdp 29 0 := by decide
theorem kn_30 : kdp 30 0 := by decide
theorem kn_31 : kdp 31 1 := by decide
theorem kn_32 : kdp 32 5 := by decide
theorem kn_33 : kdp 33 5 := by decide
theorem kn_34 : kdp 34 5 := by decide
theorem kn_35 : kdp 35 4 := by decide
theorem kn_36 : kdp 36 5 := by decide
theorem kn_37 : kdp 37 5 := by decide
theorem kn_38 : kdp 38 5 := by decide
theorem kn_39 : kdp 39 5 := by decide
theorem kn_40 : kdp 40 5 := by decide
theorem kn_41 : kdp 41 5 := by decide
theorem kn_42 : kdp 42 5 := by decide
theorem kn_43 : kdp 43 5 := by decide
end
section
theorem dX0_init_0 : decode cX0_init 0 = .ok (.aload_n 0, 1) := by decide +kernel
theorem dX0_init_1 : decode cX0_init 1 = .ok (.invokespecial 3, 3) := by decide +kernel
theorem dX0_init_4 : decode cX0_init 4 = .ok (.return_, 1) := by decide +kernel
theorem dX1_init_0 : decode cX1_init 0 = .ok (.aload_n 0, 1) := by decide +kernel
theorem dX1_init_1 : decode cX1_init 1 = .ok (.invokespecial 3, 3) := by decide +kernel
theorem dX1_init_4 : decode cX1_init 4 = .ok (.aload_n 0, 1) := by decide +kernel
theorem dX1_init_5 : decode cX1_init 5 = .ok (.bipush 96, 2) := by decide +kernel
theorem dX1_init_7 : decode cX1_init 7 = .ok (.newarray .int, 2) := by decide +kernel
theorem dX1_init_9 : decode cX1_init 9 = .ok (.putfield 9, 3) := by decide +kernel
theorem dX1_init_12 : decode cX1_init 12 = .ok (.aload_n 0, 1) := by decide +kernel
theorem dX1_init_13 : decode cX1_init 13 = .ok (.iconst 0, 1) := by decide +kernel
theorem dX1_init_14 : decode cX1_init 14 = .ok (.putfield 15, 3) := by decide +kernel
theorem dX1_init_17 : decode cX1_init 17 = .ok (.return_, 1) := by decide +kernel
theorem dX2_init_0 : decode cX2_init 0 = .ok (.aload_n 0, 1) := by decide +kernel
theorem dX2_init_1 : decode cX2_init 1 = .ok (.invokespecial 3, 3) := by decide +kernel
theorem dX2_init_4 : decode cX2_init 4 = .ok (.aload_n 0, 1) := by decide +kernel
theorem dX2_init_5 : decode cX2_init 5 = .ok (.bipush 7, 2) := by decide +kernel
theorem dX2_init_7 : decode cX2_init 7 = .ok (.anewarray 9, 3) := by decide +kernel
theorem dX2_init_10 : decode cX2_init 10 = .ok (.putfield 11, 3) := by decide +kernel
theorem dX2_init_13 : decode cX2_init 13 = .ok (.aload_n 0, 1) := by decide +kernel
theorem dX2_init_14 : decode cX2_init 14 = .ok (.new 9, 3) := by decide +kernel
theorem dX2_init_17 : decode cX2_init 17 = .ok (.dup, 1) := by decide +kernel
theorem dX2_init_18 : decode cX2_init 18 = .ok (.invokespecial 17, 3) := by decide +kernel
theorem dX2_init_21 : decode cX2_init 21 = .ok (.putfield 18, 3) := by decide +kernel
theorem dX2_init_24 : decode cX2_init 24 = .ok (.aload_n 0, 1) := by decide +kernel
theorem dX2_init_25 : decode cX2_init 25 = .ok (.iconst 0, 1) := by decide +kernel
theorem dX2_init_26 : decode cX2_init 26 = .ok (.putfield 22, 3) := by decide +kernel
theorem dX2_init_29 : decode cX2_init 29 = .ok (.aload_n 0, 1) := by decide +kernel
theorem dX2_init_30 : decode cX2_init 30 = .ok (.bipush 10, 2) := by decide +kernel
theorem dX2_init_32 : decode cX2_init 32 = .ok (.putfield 26, 3) := by decide +kernel
theorem dX2_init_35 : decode cX2_init 35 = .ok (.aload_n 0, 1) := by decide +kernel
theorem dX2_init_36 : decode cX2_init 36 = .ok (.iconst 4, 1) := by decide +kernel
theorem dX2_init_37 : decode cX2_init 37 = .ok (.putfield 29, 3) := by decide +kernel
theorem dX2_init_40 : decode cX2_init 40 = .ok (.aload_n 0, 1) := by decide +kernel
theorem dX2_init_41 : decode cX2_init 41 = .ok (.iconst 2, 1) := by decide +kernel
theorem dX2_init_42 : decode cX2_init 42 = .ok (.putfield 32, 3) := by decide +kernel
theorem dX2_init_45 : decode cX2_init 45 = .ok (.aload_n 0, 1) := by decide +kernel
theorem dX2_init_46 : decode cX2_init 46 = .ok (.iconst 0, 1) := by decide +kernel
theorem dX2_init_47 : decode cX2_init 47 = .ok (.putfield 35, 3) := by decide +kernel
theorem dX2_init_50 : decode cX2_init 50 = .ok (.iconst 0, 1) := by decide +kernel
theorem dX2_init_51 : decode cX2_init 51 = .ok (.istore_n 1, 1) := by decide +kernel
theorem dX2_init_52 : decode cX2_init 52 = .ok (.iload_n 1, 1) := by decide +kernel
theorem dX2_init_53 : decode cX2_init 53 = .ok (.aload_n 0, 1) := by decide +kernel
theorem dX2_init_54 : decode cX2_init 54 = .ok (.getfield 11, 3) := by decide +kernel
theorem dX2_init_57 : decode cX2_init 57 = .ok (.arraylength, 1) := by decide +kernel
theorem dX2_init_58 : decode cX2_init 58 = .ok (.if_icmp .ge 22, 3) := by decide +kernel
theorem dX2_init_61 : decode cX2_init 61 = .ok (.aload_n 0, 1) := by decide +kernel
theorem dX2_init_62 : decode cX2_init 62 = .ok (.getfield 11, 3) := by decide +kernel
theorem dX2_init_65 : decode cX2_init 65 = .ok (.iload_n 1, 1) := by decide +kernel
theorem dX2_init_66 : decode cX2_init 66 = .ok (.new 9, 3) := by decide +kernel
theorem dX2_init_69 : decode cX2_init 69 = .ok (.dup, 1) := by decide +kernel
theorem dX2_init_70 : decode cX2_init 70 = .ok (.invokespecial 17, 3) := by decide +kernel
theorem dX2_init_73 : decode cX2_init 73 = .ok (.aastore, 1) := by decide +kernel
theorem dX2_init_74 : decode cX2_init 74 = .ok (.iinc 1 1, 3) := by decide +kernel
theorem dX2_init_77 : decode cX2_init 77 = .ok (.goto (-25), 3) := by decide +kernel
theorem dX2_init_80 : decode cX2_init 80 = .ok (.return_, 1) := by decide +kernel
theorem dX3_init_0 : decode cX3_init 0 = .ok (.aload_n 0, 1) := by decide +kernel
theorem dX3_init_1 : decode cX3_init 1 = .ok (.invokespecial 1, 3) := by decide +kernel
theorem dX3_init_4 : decode cX3_init 4 = .ok (.aload_n 0, 1) := by decide +kernel
theorem dX3_init_5 : decode cX3_init 5 = .ok (.new 7, 3) := by decide +kernel
theorem dX3_init_8 : decode cX3_init 8 = .ok (.dup, 1) := by decide +kernel
theorem dX3_init_9 : decode cX3_init 9 = .ok (.invokespecial 9, 3) := by decide +kernel
theorem dX3_init_12 : decode cX3_init 12 = .ok (.putfield 10, 3) := by decide +kernel
theorem dX3_init_15 : decode cX3_init 15 = .ok (.aload_n 0, 1) := by decide +kernel
theorem dX3_init_16 : decode cX3_init 16 = .ok (.new 7, 3) := by decide +kernel
theorem dX3_init_19 : decode cX3_init 19 = .ok (.dup, 1) := by decide +kernel
theorem dX3_init_20 : decode cX3_init 20 = .ok (.invokespecial 9, 3) := by decide +kernel
theorem dX3_init_23 : decode cX3_init 23 = .ok (.putfield 16, 3) := by decide +kernel
theorem dX3_init_26 : decode cX3_init 26 = .ok (.aload_n 0, 1) := by decide +kernel
theorem dX3_init_27 : decode cX3_init 27 = .ok (.new 7, 3) := by decide +kernel
theorem dX3_init_30 : decode cX3_init 30 = .ok (.dup, 1) := by decide +kernel
theorem dX3_init_31 : decode cX3_init 31 = .ok (.invokespecial 9, 3) := by decide +kernel
theorem dX3_init_34 : decode cX3_init 34 = .ok (.putfield 19, 3) := by decide +kernel
theorem dX3_init_37 : decode cX3_init 37 = .ok (.aload_n 0, 1) := by decide +kernel
theorem dX3_init_38 : decode cX3_init 38 = .ok (.iconst 0, 1) := by decide +kernel
theorem dX3_init_39 : decode cX3_init 39 = .ok (.putfield 22, 3) := by decide +kernel
theorem dX3_init_42 : decode cX3_init 42 = .ok (.aload_n 0, 1) := by decide +kernel
theorem dX3_init_43 : decode cX3_init 43 = .ok (.new 26, 3) := by decide +kernel
theorem dX3_init_46 : decode cX3_init 46 = .ok (.dup, 1) := by decide +kernel
theorem dX3_init_47 : decode cX3_init 47 = .ok (.invokespecial 28, 3) := by decide +kernel
theorem dX3_init_50 : decode cX3_init 50 = .ok (.putfield 29, 3) := by decide +kernel
theorem dX3_init_53 : decode cX3_init 53 = .ok (.aload_n 0, 1) := by decide +kernel
theorem dX3_init_54 : decode cX3_init 54 = .ok (.bipush 12, 2) := by decide +kernel
theorem dX3_init_56 : decode cX3_init 56 = .ok (.newarray .int, 2) := by decide +kernel
theorem dX3_init_58 : decode cX3_init 58 = .ok (.putfield 33, 3) := by decide +kernel
theorem dX3_init_61 : decode cX3_init 61 = .ok (.aload_n 0, 1) := by decide +kernel
theorem dX3_init_62 : decode cX3_init 62 = .ok (.iconst 0, 1) := by decide +kernel
theorem dX3_init_63 : decode cX3_init 63 = .ok (.putfield 37, 3) := by decide +kernel
theorem dX3_init_66 : decode cX3_init 66 = .ok (.aload_n 0, 1) := by decide +kernel
theorem dX3_init_67 : decode cX3_init 67 = .ok (.bipush 7, 2) := by decide +kernel
theorem dX3_init_69 : decode cX3_init 69 = .ok (.newarray .int, 2) := by decide +kernel
theorem dX3_init_71 : decode cX3_init 71 = .ok (.putfield 41, 3) := by decide +kernel
theorem dX3_init_74 : decode cX3_init 74 = .ok (.return_, 1) := by decide +kernel
theorem dX4_init_0 : decode cX4_init 0 = .ok (.aload_n 0, 1) := by decide +kernel
theorem dX4_init_1 : decode cX4_init 1 = .ok (.invokespecial 1, 3) := by decide +kernel
theorem dX4_init_4 : decode cX4_init 4 = .ok (.aload_n 0, 1) := by decide +kernel
theorem dX4_init_5 : decode cX4_init 5 = .ok (.bipush 47, 2) := by decide +kernel
theorem dX4_init_7 : decode cX4_init 7 = .ok (.newarray .int, 2) := by decide +kernel
theorem dX4_init_9 : decode cX4_init 9 = .ok (.putfield 9, 3) := by decide +kernel
theorem dX4_init_12 : decode cX4_init 12 = .ok (.aload_n 0, 1) := by decide +kernel
theorem dX4_init_13 : decode cX4_init 13 = .ok (.bipush 47, 2) := by decide +kernel
theorem dX4_init_15 : decode cX4_init 15 = .ok (.newarray .int, 2) := by decide +kernel
theorem dX4_init_17 : decode cX4_init 17 = .ok (.putfield 13, 3) := by decide +kernel
theorem dX4_init_20 : decode cX4_init 20 = .ok (.aload_n 0, 1) := by decide +kernel
theorem dX4_init_21 : decode cX4_init 21 = .ok (.bipush 47, 2) := by decide +kernel
theorem dX4_init_23 : decode cX4_init 23 = .ok (.newarray .int, 2) := by decide +kernel
theorem dX4_init_25 : decode cX4_init 25 = .ok (.putfield 16, 3) := by decide +kernel
theorem dX4_init_28 : decode cX4_init 28 = .ok (.aload_n 0, 1) := by decide +kernel
theorem dX4_init_29 : decode cX4_init 29 = .ok (.bipush 47, 2) := by decide +kernel
theorem dX4_init_31 : decode cX4_init 31 = .ok (.newarray .int, 2) := by decide +kernel
theorem dX4_init_33 : decode cX4_init 33 = .ok (.putfield 19, 3) := by decide +kernel
theorem dX4_init_36 : decode cX4_init 36 = .ok (.aload_n 0, 1) := by decide +kernel
theorem dX4_init_37 : decode cX4_init 37 = .ok (.bipush 96, 2) := by decide +kernel
theorem dX4_init_39 : decode cX4_init 39 = .ok (.newarray .int, 2) := by decide +kernel
theorem dX4_init_41 : decode cX4_init 41 = .ok (.putfield 22, 3) := by decide +kernel
theorem dX4_init_44 : decode cX4_init 44 = .ok (.aload_n 0, 1) := by decide +kernel
theorem dX4_init_45 : decode cX4_init 45 = .ok (.bipush 12, 2) := by decide +kernel
theorem dX4_init_47 : decode cX4_init 47 = .ok (.newarray .int, 2) := by decide +kernel
theorem dX4_init_49 : decode cX4_init 49 = .ok (.putfield 25, 3) := by decide +kernel
theorem dX4_init_52 : decode cX4_init 52 = .ok (.aload_n 0, 1) := by decide +kernel
theorem dX4_init_53 : decode cX4_init 53 = .ok (.bipush 7, 2) := by decide +kernel
theorem dX4_init_55 : decode cX4_init 55 = .ok (.newarray .int, 2) := by decide +kernel
theorem dX4_init_57 : decode cX4_init 57 = .ok (.putfield 28, 3) := by decide +kernel
theorem dX4_init_60 : decode cX4_init 60 = .ok (.aload_n 0, 1) := by decide +kernel
theorem dX4_init_61 : decode cX4_init 61 = .ok (.iconst 5, 1) := by decide +kernel
theorem dX4_init_62 : decode cX4_init 62 = .ok (.newarray .int, 2) := by decide +kernel
theorem dX4_init_64 : decode cX4_init 64 = .ok (.putfield 31, 3) := by decide +kernel
theorem dX4_init_67 : decode cX4_init 67 = .ok (.aload_n 0, 1) := by decide +kernel
theorem dX4_init_68 : decode cX4_init 68 = .ok (.getfield 9, 3) := by decide +kernel
theorem dX4_init_71 : decode cX4_init 71 = .ok (.iconst 2, 1) := by decide +kernel
theorem dX4_init_72 : decode cX4_init 72 = .ok (.bipush 10, 2) := by decide +kernel
theorem dX4_init_74 : decode cX4_init 74 = .ok (.iastore, 1) := by decide +kernel
theorem dX4_init_75 : decode cX4_init 75 = .ok (.aload_n 0, 1) := by decide +kernel
theorem dX4_init_76 : decode cX4_init 76 = .ok (.getfield 9, 3) := by decide +kernel
theorem dX4_init_79 : decode cX4_init 79 = .ok (.iconst 3, 1) := by decide +kernel
theorem dX4_init_80 : decode cX4_init 80 = .ok (.iconst 4, 1) := by decide +kernel
theorem dX4_init_81 : decode cX4_init 81 = .ok (.iastore, 1) := by decide +kernel
theorem dX4_init_82 : decode cX4_init 82 = .ok (.aload_n 0, 1) := by decide +kernel
theorem dX4_init_83 : decode cX4_init 83 = .ok (.getfield 9, 3) := by decide +kernel
theorem dX4_init_86 : decode cX4_init 86 = .ok (.iconst 4, 1) := by decide +kernel
theorem dX4_init_87 : decode cX4_init 87 = .ok (.iconst 2, 1) := by decide +kernel
theorem dX4_init_88 : decode cX4_init 88 = .ok (.iastore, 1) := by decide +kernel
theorem dX4_init_89 : decode cX4_init 89 = .ok (.return_, 1) := by decide +kernel
theorem dX0_become_0 : decode cX0_become 0 = .ok (.aload_n 0, 1) := by decide +kernel
theorem dX0_become_1 : decode cX0_become 1 = .ok (.aload_n 1, 1) := by decide +kernel
theorem dX0_become_2 : decode cX0_become 2 = .ok (.getfield 9, 3) := by decide +kernel
theorem dX0_become_5 : decode cX0_become 5 = .ok (.putfield 9, 3) := by decide +kernel
theorem dX0_become_8 : decode cX0_become 8 = .ok (.aload_n 0, 1) := by decide +kernel
theorem dX0_become_9 : decode cX0_become 9 = .ok (.aload_n 1, 1) := by decide +kernel
theorem dX0_become_10 : decode cX0_become 10 = .ok (.getfield 15, 3) := by decide +kernel
theorem dX0_become_13 : decode cX0_become 13 = .ok (.putfield 15, 3) := by decide +kernel
theorem dX0_become_16 : decode cX0_become 16 = .ok (.aload_n 0, 1) := by decide +kernel
theorem dX0_become_17 : decode cX0_become 17 = .ok (.aload_n 1, 1) := by decide +kernel
theorem dX0_become_18 : decode cX0_become 18 = .ok (.getfield 18, 3) := by decide +kernel
theorem dX0_become_21 : decode cX0_become 21 = .ok (.putfield 18, 3) := by decide +kernel
theorem dX0_become_24 : decode cX0_become 24 = .ok (.aload_n 0, 1) := by decide +kernel
theorem dX0_become_25 : decode cX0_become 25 = .ok (.aload_n 1, 1) := by decide +kernel
theorem dX0_become_26 : decode cX0_become 26 = .ok (.getfield 21, 3) := by decide +kernel
theorem dX0_become_29 : decode cX0_become 29 = .ok (.putfield 21, 3) := by decide +kernel
theorem dX0_become_32 : decode cX0_become 32 = .ok (.aload_n 0, 1) := by decide +kernel
theorem dX0_become_33 : decode cX0_become 33 = .ok (.aload_n 1, 1) := by decide +kernel
theorem dX0_become_34 : decode cX0_become 34 = .ok (.getfield 24, 3) := by decide +kernel
theorem dX0_become_37 : decode cX0_become 37 = .ok (.putfield 24, 3) := by decide +kernel
theorem dX0_become_40 : decode cX0_become 40 = .ok (.aload_n 0, 1) := by decide +kernel
theorem dX0_become_41 : decode cX0_become 41 = .ok (.aload_n 1, 1) := by decide +kernel
theorem dX0_become_42 : decode cX0_become 42 = .ok (.getfield 27, 3) := by decide +kernel
theorem dX0_become_45 : decode cX0_become 45 = .ok (.putfield 27, 3) := by decide +kernel
theorem dX0_become_48 : decode cX0_become 48 = .ok (.return_, 1) := by decide +kernel
theorem dX0_angelsPart_0 : decode cX0_angelsPart 0 = .ok (.iload_n 1, 1) := by decide +kernel
theorem dX0_angelsPart_1 : decode cX0_angelsPart 1 = .ok (.iload_n 2, 1) := by decide +kernel
theorem dX0_angelsPart_2 : decode cX0_angelsPart 2 = .ok (.imul, 1) := by decide +kernel
theorem dX0_angelsPart_3 : decode cX0_angelsPart 3 = .ok (.bipush 100, 2) := by decide +kernel
theorem dX0_angelsPart_5 : decode cX0_angelsPart 5 = .ok (.idiv, 1) := by decide +kernel
theorem dX0_angelsPart_6 : decode cX0_angelsPart 6 = .ok (.istore_n 3, 1) := by decide +kernel
theorem dX0_angelsPart_7 : decode cX0_angelsPart 7 = .ok (.aload_n 0, 1) := by decide +kernel
theorem dX0_angelsPart_8 : decode cX0_angelsPart 8 = .ok (.getfield 9, 3) := by decide +kernel
theorem dX0_angelsPart_11 : decode cX0_angelsPart 11 = .ok (.tableswitch 70 1 5 #[33, 70, 37, 39, 50], 33) := by decide +kernel
theorem dX0_angelsPart_44 : decode cX0_angelsPart 44 = .ok (.iload_n 3, 1) := by decide +kernel
theorem dX0_angelsPart_45 : decode cX0_angelsPart 45 = .ok (.iconst 2, 1) := by decide +kernel
theorem dX0_angelsPart_46 : decode cX0_angelsPart 46 = .ok (.idiv, 1) := by decide +kernel
theorem dX0_angelsPart_47 : decode cX0_angelsPart 47 = .ok (.ireturn, 1) := by decide +kernel
theorem dX0_angelsPart_48 : decode cX0_angelsPart 48 = .ok (.iconst 0, 1) := by decide +kernel
theorem dX0_angelsPart_49 : decode cX0_angelsPart 49 = .ok (.ireturn, 1) := by decide +kernel
theorem dX0_angelsPart_50 : decode cX0_angelsPart 50 = .ok (.iload_n 3, 1) := by decide +kernel
theorem dX0_angelsPart_51 : decode cX0_angelsPart 51 = .ok (.aload_n 0, 1) := by decide +kernel
theorem dX0_angelsPart_52 : decode cX0_angelsPart 52 = .ok (.getfield 24, 3) := by decide +kernel
theorem dX0_angelsPart_55 : decode cX0_angelsPart 55 = .ok (.iadd, 1) := by decide +kernel
theorem dX0_angelsPart_56 : decode cX0_angelsPart 56 = .ok (.iload_n 1, 1) := by decide +kernel
theorem dX0_angelsPart_57 : decode cX0_angelsPart 57 = .ok (.invokestatic 30, 3) := by decide +kernel
theorem dX0_angelsPart_60 : decode cX0_angelsPart 60 = .ok (.ireturn, 1) := by decide +kernel
theorem dX0_angelsPart_61 : decode cX0_angelsPart 61 = .ok (.aload_n 0, 1) := by decide +kernel
theorem dX0_angelsPart_62 : decode cX0_angelsPart 62 = .ok (.getfield 27, 3) := by decide +kernel
theorem dX0_angelsPart_65 : decode cX0_angelsPart 65 = .ok (.iload_n 1, 1) := by decide +kernel
theorem dX0_angelsPart_66 : decode cX0_angelsPart 66 = .ok (.if_icmp .le 9, 3) := by decide +kernel
theorem dX0_angelsPart_69 : decode cX0_angelsPart 69 = .ok (.iconst 2, 1) := by decide +kernel
theorem dX0_angelsPart_70 : decode cX0_angelsPart 70 = .ok (.iload_n 3, 1) := by decide +kernel
theorem dX0_angelsPart_71 : decode cX0_angelsPart 71 = .ok (.imul, 1) := by decide +kernel
theorem dX0_angelsPart_72 : decode cX0_angelsPart 72 = .ok (.goto 4, 3) := by decide +kernel
theorem dX0_angelsPart_75 : decode cX0_angelsPart 75 = .ok (.iload_n 3, 1) := by decide +kernel
theorem dX0_angelsPart_76 : decode cX0_angelsPart 76 = .ok (.iload_n 1, 1) := by decide +kernel
theorem dX0_angelsPart_77 : decode cX0_angelsPart 77 = .ok (.invokestatic 30, 3) := by decide +kernel
theorem dX0_angelsPart_80 : decode cX0_angelsPart 80 = .ok (.ireturn, 1) := by decide +kernel
theorem dX0_angelsPart_81 : decode cX0_angelsPart 81 = .ok (.iload_n 3, 1) := by decide +kernel
theorem dX0_angelsPart_82 : decode cX0_angelsPart 82 = .ok (.ireturn, 1) := by decide +kernel
theorem dX0_strengthIn_0 : decode cX0_strengthIn 0 = .ok (.aload_n 0, 1) := by decide +kernel
theorem dX0_strengthIn_1 : decode cX0_strengthIn 1 = .ok (.getfield 9, 3) := by decide +kernel
theorem dX0_strengthIn_4 : decode cX0_strengthIn 4 = .ok (.tableswitch 84 1 5 #[36, 47, 84, 47, 72], 36) := by decide +kernel
theorem dX0_strengthIn_40 : decode cX0_strengthIn 40 = .ok (.aload_n 0, 1) := by decide +kernel
theorem dX0_strengthIn_41 : decode cX0_strengthIn 41 = .ok (.getfield 21, 3) := by decide +kernel
theorem dX0_strengthIn_44 : decode cX0_strengthIn 44 = .ok (.iconst 1, 1) := by decide +kernel
theorem dX0_strengthIn_45 : decode cX0_strengthIn 45 = .ok (.isub, 1) := by decide +kernel
theorem dX0_strengthIn_46 : decode cX0_strengthIn 46 = .ok (.iconst 0, 1) := by decide +kernel
theorem dX0_strengthIn_47 : decode cX0_strengthIn 47 = .ok (.invokestatic 36, 3) := by decide +kernel
theorem dX0_strengthIn_50 : decode cX0_strengthIn 50 = .ok (.ireturn, 1) := by decide +kernel
theorem dX0_strengthIn_51 : decode cX0_strengthIn 51 = .ok (.iload_n 1, 1) := by decide +kernel
theorem dX0_strengthIn_52 : decode cX0_strengthIn 52 = .ok (.iconst 5, 1) := by decide +kernel
theorem dX0_strengthIn_53 : decode cX0_strengthIn 53 = .ok (.irem, 1) := by decide +kernel
theorem dX0_strengthIn_54 : decode cX0_strengthIn 54 = .ok (.ifCond .ne 17, 3) := by decide +kernel
theorem dX0_strengthIn_57 : decode cX0_strengthIn 57 = .ok (.aload_n 0, 1) := by decide +kernel
theorem dX0_strengthIn_58 : decode cX0_strengthIn 58 = .ok (.getfield 21, 3) := by decide +kernel
theorem dX0_strengthIn_61 : decode cX0_strengthIn 61 = .ok (.iconst 1, 1) := by decide +kernel
theorem dX0_strengthIn_62 : decode cX0_strengthIn 62 = .ok (.iadd, 1) := by decide +kernel
theorem dX0_strengthIn_63 : decode cX0_strengthIn 63 = .ok (.bipush 99, 2) := by decide +kernel
theorem dX0_strengthIn_65 : decode cX0_strengthIn 65 = .ok (.invokestatic 30, 3) := by decide +kernel
theorem dX0_strengthIn_68 : decode cX0_strengthIn 68 = .ok (.goto 7, 3) := by decide +kernel
theorem dX0_strengthIn_71 : decode cX0_strengthIn 71 = .ok (.aload_n 0, 1) := by decide +kernel
theorem dX0_strengthIn_72 : decode cX0_strengthIn 72 = .ok (.getfield 21, 3) := by decide +kernel
theorem dX0_strengthIn_75 : decode cX0_strengthIn 75 = .ok (.ireturn, 1) := by decide +kernel
theorem dX0_strengthIn_76 : decode cX0_strengthIn 76 = .ok (.aload_n 0, 1) := by decide +kernel
theorem dX0_strengthIn_77 : decode cX0_strengthIn 77 = .ok (.getfield 21, 3) := by decide +kernel
theorem dX0_strengthIn_80 : decode cX0_strengthIn 80 = .ok (.iconst 1, 1) := by decide +kernel
theorem dX0_strengthIn_81 : decode cX0_strengthIn 81 = .ok (.iadd, 1) := by decide +kernel
theorem dX0_strengthIn_82 : decode cX0_strengthIn 82 = .ok (.bipush 99, 2) := by decide +kernel
theorem dX0_strengthIn_84 : decode cX0_strengthIn 84 = .ok (.invokestatic 30, 3) := by decide +kernel
theorem dX0_strengthIn_87 : decode cX0_strengthIn 87 = .ok (.ireturn, 1) := by decide +kernel
theorem dX0_strengthIn_88 : decode cX0_strengthIn 88 = .ok (.aload_n 0, 1) := by decide +kernel
theorem dX0_strengthIn_89 : decode cX0_strengthIn 89 = .ok (.getfield 21, 3) := by decide +kernel
theorem dX0_strengthIn_92 : decode cX0_strengthIn 92 = .ok (.ireturn, 1) := by decide +kernel
theorem dX0_sentBackIn_0 : decode cX0_sentBackIn 0 = .ok (.iload_n 1, 1) := by decide +kernel
theorem dX0_sentBackIn_1 : decode cX0_sentBackIn 1 = .ok (.bipush 7, 2) := by decide +kernel
theorem dX0_sentBackIn_3 : decode cX0_sentBackIn 3 = .ok (.irem, 1) := by decide +kernel
theorem dX0_sentBackIn_4 : decode cX0_sentBackIn 4 = .ok (.ifCond .eq 5, 3) := by decide +kernel
theorem dX0_sentBackIn_7 : decode cX0_sentBackIn 7 = .ok (.iconst 0, 1) := by decide +kernel
theorem dX0_sentBackIn_8 : decode cX0_sentBackIn 8 = .ok (.ireturn, 1) := by decide +kernel
theorem dX0_sentBackIn_9 : decode cX0_sentBackIn 9 = .ok (.aload_n 0, 1) := by decide +kernel
theorem dX0_sentBackIn_10 : decode cX0_sentBackIn 10 = .ok (.getfield 9, 3) := by decide +kernel
theorem dX0_sentBackIn_13 : decode cX0_sentBackIn 13 = .ok (.tableswitch 64 1 5 #[62, 35, 62, 55, 62], 35) := by decide +kernel
theorem dX0_sentBackIn_48 : decode cX0_sentBackIn 48 = .ok (.aload_n 0, 1) := by decide +kernel
theorem dX0_sentBackIn_49 : decode cX0_sentBackIn 49 = .ok (.getfield 27, 3) := by decide +kernel
theorem dX0_sentBackIn_52 : decode cX0_sentBackIn 52 = .ok (.aload_n 0, 1) := by decide +kernel
theorem dX0_sentBackIn_53 : decode cX0_sentBackIn 53 = .ok (.getfield 24, 3) := by decide +kernel
theorem dX0_sentBackIn_56 : decode cX0_sentBackIn 56 = .ok (.if_icmp .lt 10, 3) := by decide +kernel
theorem dX0_sentBackIn_59 : decode cX0_sentBackIn 59 = .ok (.aload_n 0, 1) := by decide +kernel
theorem dX0_sentBackIn_60 : decode cX0_sentBackIn 60 = .ok (.getfield 24, 3) := by decide +kernel
theorem dX0_sentBackIn_63 : decode cX0_sentBackIn 63 = .ok (.goto 4, 3) := by decide +kernel
theorem dX0_sentBackIn_66 : decode cX0_sentBackIn 66 = .ok (.iconst 0, 1) := by decide +kernel
theorem dX0_sentBackIn_67 : decode cX0_sentBackIn 67 = .ok (.ireturn, 1) := by decide +kernel
theorem dX0_sentBackIn_68 : decode cX0_sentBackIn 68 = .ok (.aload_n 0, 1) := by decide +kernel
theorem dX0_sentBackIn_69 : decode cX0_sentBackIn 69 = .ok (.getfield 27, 3) := by decide +kernel
theorem dX0_sentBackIn_72 : decode cX0_sentBackIn 72 = .ok (.iconst 3, 1) := by decide +kernel
theorem dX0_sentBackIn_73 : decode cX0_sentBackIn 73 = .ok (.idiv, 1) := by decide +kernel
theorem dX0_sentBackIn_74 : decode cX0_sentBackIn 74 = .ok (.ireturn, 1) := by decide +kernel
theorem dX0_sentBackIn_75 : decode cX0_sentBackIn 75 = .ok (.iconst 0, 1) := by decide +kernel
theorem dX0_sentBackIn_76 : decode cX0_sentBackIn 76 = .ok (.ireturn, 1) := by decide +kernel
theorem dX0_sentBackIn_77 : decode cX0_sentBackIn 77 = .ok (.aload_n 0, 1) := by decide +kernel
theorem dX0_sentBackIn_78 : decode cX0_sentBackIn 78 = .ok (.getfield 27, 3) := by decide +kernel
theorem dX0_sentBackIn_81 : decode cX0_sentBackIn 81 = .ok (.iconst 2, 1) := by decide +kernel
theorem dX0_sentBackIn_82 : decode cX0_sentBackIn 82 = .ok (.idiv, 1) := by decide +kernel
theorem dX0_sentBackIn_83 : decode cX0_sentBackIn 83 = .ok (.ireturn, 1) := by decide +kernel
theorem dX0_goOn_0 : decode cX0_goOn 0 = .ok (.aload_n 0, 1) := by decide +kernel
theorem dX0_goOn_1 : decode cX0_goOn 1 = .ok (.aload_n 0, 1) := by decide +kernel
theorem dX0_goOn_2 : decode cX0_goOn 2 = .ok (.getfield 18, 3) := by decide +kernel
theorem dX0_goOn_5 : decode cX0_goOn 5 = .ok (.iload_n 1, 1) := by decide +kernel
theorem dX0_goOn_6 : decode cX0_goOn 6 = .ok (.invokevirtual 39, 3) := by decide +kernel
theorem dX0_goOn_9 : decode cX0_goOn 9 = .ok (.istore_n 3, 1) := by decide +kernel
theorem dX0_goOn_10 : decode cX0_goOn 10 = .ok (.aload_n 0, 1) := by decide +kernel
theorem dX0_goOn_11 : decode cX0_goOn 11 = .ok (.dup, 1) := by decide +kernel
theorem dX0_goOn_12 : decode cX0_goOn 12 = .ok (.getfield 27, 3) := by decide +kernel
theorem dX0_goOn_15 : decode cX0_goOn 15 = .ok (.iload_n 3, 1) := by decide +kernel
theorem dX0_goOn_16 : decode cX0_goOn 16 = .ok (.iadd, 1) := by decide +kernel
theorem dX0_goOn_17 : decode cX0_goOn 17 = .ok (.putfield 27, 3) := by decide +kernel
theorem dX0_goOn_20 : decode cX0_goOn 20 = .ok (.aload_n 0, 1) := by decide +kernel
theorem dX0_goOn_21 : decode cX0_goOn 21 = .ok (.dup, 1) := by decide +kernel
theorem dX0_goOn_22 : decode cX0_goOn 22 = .ok (.getfield 18, 3) := by decide +kernel
theorem dX0_goOn_25 : decode cX0_goOn 25 = .ok (.iload_n 3, 1) := by decide +kernel
theorem dX0_goOn_26 : decode cX0_goOn 26 = .ok (.isub, 1) := by decide +kernel
theorem dX0_goOn_27 : decode cX0_goOn 27 = .ok (.putfield 18, 3) := by decide +kernel
theorem dX0_goOn_30 : decode cX0_goOn 30 = .ok (.aload_n 0, 1) := by decide +kernel
theorem dX0_goOn_31 : decode cX0_goOn 31 = .ok (.aload_n 0, 1) := by decide +kernel
theorem dX0_goOn_32 : decode cX0_goOn 32 = .ok (.iload_n 2, 1) := by decide +kernel
theorem dX0_goOn_33 : decode cX0_goOn 33 = .ok (.invokevirtual 42, 3) := by decide +kernel
theorem dX0_goOn_36 : decode cX0_goOn 36 = .ok (.putfield 21, 3) := by decide +kernel
theorem dX0_goOn_39 : decode cX0_goOn 39 = .ok (.aload_n 0, 1) := by decide +kernel
theorem dX0_goOn_40 : decode cX0_goOn 40 = .ok (.iload_n 2, 1) := by decide +kernel
theorem dX0_goOn_41 : decode cX0_goOn 41 = .ok (.invokevirtual 46, 3) := by decide +kernel
theorem dX0_goOn_44 : decode cX0_goOn 44 = .ok (.aload_n 0, 1) := by decide +kernel
theorem dX0_goOn_45 : decode cX0_goOn 45 = .ok (.getfield 15, 3) := by decide +kernel
theorem dX0_goOn_48 : decode cX0_goOn 48 = .ok (.aload_n 0, 1) := by decide +kernel
theorem dX0_goOn_49 : decode cX0_goOn 49 = .ok (.getfield 18, 3) := by decide +kernel
theorem dX0_goOn_52 : decode cX0_goOn 52 = .ok (.isub, 1) := by decide +kernel
theorem dX0_goOn_53 : decode cX0_goOn 53 = .ok (.invokestatic 30, 3) := by decide +kernel
theorem dX0_goOn_56 : decode cX0_goOn 56 = .ok (.istore 4, 2) := by decide +kernel
theorem dX0_goOn_58 : decode cX0_goOn 58 = .ok (.aload_n 0, 1) := by decide +kernel
theorem dX0_goOn_59 : decode cX0_goOn 59 = .ok (.dup, 1) := by decide +kernel
theorem dX0_goOn_60 : decode cX0_goOn 60 = .ok (.getfield 27, 3) := by decide +kernel
theorem dX0_goOn_63 : decode cX0_goOn 63 = .ok (.iload 4, 2) := by decide +kernel
theorem dX0_goOn_65 : decode cX0_goOn 65 = .ok (.isub, 1) := by decide +kernel
theorem dX0_goOn_66 : decode cX0_goOn 66 = .ok (.putfield 27, 3) := by decide +kernel
theorem dX0_goOn_69 : decode cX0_goOn 69 = .ok (.aload_n 0, 1) := by decide +kernel
theorem dX0_goOn_70 : decode cX0_goOn 70 = .ok (.dup, 1) := by decide +kernel
theorem dX0_goOn_71 : decode cX0_goOn 71 = .ok (.getfield 18, 3) := by decide +kernel
theorem dX0_goOn_74 : decode cX0_goOn 74 = .ok (.iload 4, 2) := by decide +kernel
theorem dX0_goOn_76 : decode cX0_goOn 76 = .ok (.iadd, 1) := by decide +kernel
theorem dX0_goOn_77 : decode cX0_goOn 77 = .ok (.putfield 18, 3) := by decide +kernel
theorem dX0_goOn_80 : decode cX0_goOn 80 = .ok (.return_, 1) := by decide +kernel
theorem dX0_isHalfTheirs_0 : decode cX0_isHalfTheirs 0 = .ok (.aload_n 0, 1) := by decide +kernel
theorem dX0_isHalfTheirs_1 : decode cX0_isHalfTheirs 1 = .ok (.getfield 27, 3) := by decide +kernel
theorem dX0_isHalfTheirs_4 : decode cX0_isHalfTheirs 4 = .ok (.ifCond .le 18, 3) := by decide +kernel
theorem dX0_isHalfTheirs_7 : decode cX0_isHalfTheirs 7 = .ok (.aload_n 0, 1) := by decide +kernel
theorem dX0_isHalfTheirs_8 : decode cX0_isHalfTheirs 8 = .ok (.getfield 27, 3) := by decide +kernel
theorem dX0_isHalfTheirs_11 : decode cX0_isHalfTheirs 11 = .ok (.aload_n 0, 1) := by decide +kernel
theorem dX0_isHalfTheirs_12 : decode cX0_isHalfTheirs 12 = .ok (.getfield 18, 3) := by decide +kernel
theorem dX0_isHalfTheirs_15 : decode cX0_isHalfTheirs 15 = .ok (.if_icmp .lt 7, 3) := by decide +kernel
theorem dX0_isHalfTheirs_18 : decode cX0_isHalfTheirs 18 = .ok (.iconst 1, 1) := by decide +kernel
theorem dX0_isHalfTheirs_19 : decode cX0_isHalfTheirs 19 = .ok (.goto 4, 3) := by decide +kernel
theorem dX0_isHalfTheirs_22 : decode cX0_isHalfTheirs 22 = .ok (.iconst 0, 1) := by decide +kernel
theorem dX0_isHalfTheirs_23 : decode cX0_isHalfTheirs 23 = .ok (.ireturn, 1) := by decide +kernel
theorem dX0_worth_0 : decode cX0_worth 0 = .ok (.aload_n 0, 1) := by decide +kernel
theorem dX0_worth_1 : decode cX0_worth 1 = .ok (.getfield 18, 3) := by decide +kernel
theorem dX0_worth_4 : decode cX0_worth 4 = .ok (.aload_n 0, 1) := by decide +kernel
theorem dX0_worth_5 : decode cX0_worth 5 = .ok (.getfield 21, 3) := by decide +kernel
theorem dX0_worth_8 : decode cX0_worth 8 = .ok (.imul, 1) := by decide +kernel
theorem dX0_worth_9 : decode cX0_worth 9 = .ok (.ireturn, 1) := by decide +kernel
theorem dX1_isFull_0 : decode cX1_isFull 0 = .ok (.aload_n 0, 1) := by decide +kernel
theorem dX1_isFull_1 : decode cX1_isFull 1 = .ok (.getfield 15, 3) := by decide +kernel
theorem dX1_isFull_4 : decode cX1_isFull 4 = .ok (.bipush 96, 2) := by decide +kernel
theorem dX1_isFull_6 : decode cX1_isFull 6 = .ok (.if_icmp .lt 7, 3) := by decide +kernel
theorem dX1_isFull_9 : decode cX1_isFull 9 = .ok (.iconst 1, 1) := by decide +kernel
theorem dX1_isFull_10 : decode cX1_isFull 10 = .ok (.goto 4, 3) := by decide +kernel
theorem dX1_isFull_13 : decode cX1_isFull 13 = .ok (.iconst 0, 1) := by decide +kernel
theorem dX1_isFull_14 : decode cX1_isFull 14 = .ok (.ireturn, 1) := by decide +kernel
theorem dX1_add_0 : decode cX1_add 0 = .ok (.aload_n 0, 1) := by decide +kernel
theorem dX1_add_1 : decode cX1_add 1 = .ok (.getfield 15, 3) := by decide +kernel
theorem dX1_add_4 : decode cX1_add 4 = .ok (.ifCond .lt 35, 3) := by decide +kernel
theorem dX1_add_7 : decode cX1_add 7 = .ok (.aload_n 0, 1) := by decide +kernel
theorem dX1_add_8 : decode cX1_add 8 = .ok (.getfield 15, 3) := by decide +kernel
theorem dX1_add_11 : decode cX1_add 11 = .ok (.aload_n 0, 1) := by decide +kernel
theorem dX1_add_12 : decode cX1_add 12 = .ok (.getfield 9, 3) := by decide +kernel
theorem dX1_add_15 : decode cX1_add 15 = .ok (.arraylength, 1) := by decide +kernel
theorem dX1_add_16 : decode cX1_add 16 = .ok (.if_icmp .ge 23, 3) := by decide +kernel
theorem dX1_add_19 : decode cX1_add 19 = .ok (.aload_n 0, 1) := by decide +kernel
theorem dX1_add_20 : decode cX1_add 20 = .ok (.getfield 9, 3) := by decide +kernel
theorem dX1_add_23 : decode cX1_add 23 = .ok (.aload_n 0, 1) := by decide +kernel
theorem dX1_add_24 : decode cX1_add 24 = .ok (.getfield 15, 3) := by decide +kernel
theorem dX1_add_27 : decode cX1_add 27 = .ok (.iload_n 1, 1) := by decide +kernel
theorem dX1_add_28 : decode cX1_add 28 = .ok (.iastore, 1) := by decide +kernel
theorem dX1_add_29 : decode cX1_add 29 = .ok (.aload_n 0, 1) := by decide +kernel
theorem dX1_add_30 : decode cX1_add 30 = .ok (.dup, 1) := by decide +kernel
theorem dX1_add_31 : decode cX1_add 31 = .ok (.getfield 15, 3) := by decide +kernel
theorem dX1_add_34 : decode cX1_add 34 = .ok (.iconst 1, 1) := by decide +kernel
theorem dX1_add_35 : decode cX1_add 35 = .ok (.iadd, 1) := by decide +kernel
theorem dX1_add_36 : decode cX1_add 36 = .ok (.putfield 15, 3) := by decide +kernel
theorem dX1_add_39 : decode cX1_add 39 = .ok (.aload_n 0, 1) := by decide +kernel
theorem dX1_add_40 : decode cX1_add 40 = .ok (.getfield 15, 3) := by decide +kernel
theorem dX1_add_43 : decode cX1_add 43 = .ok (.ireturn, 1) := by decide +kernel
theorem dX1_forget_0 : decode cX1_forget 0 = .ok (.aload_n 0, 1) := by decide +kernel
theorem dX1_forget_1 : decode cX1_forget 1 = .ok (.iconst 0, 1) := by decide +kernel
theorem dX1_forget_2 : decode cX1_forget 2 = .ok (.putfield 15, 3) := by decide +kernel
theorem dX1_forget_5 : decode cX1_forget 5 = .ok (.return_, 1) := by decide +kernel
theorem dX1_at_0 : decode cX1_at 0 = .ok (.iload_n 1, 1) := by decide +kernel
theorem dX1_at_1 : decode cX1_at 1 = .ok (.ifCond .lt 29, 3) := by decide +kernel
theorem dX1_at_4 : decode cX1_at 4 = .ok (.iload_n 1, 1) := by decide +kernel
theorem dX1_at_5 : decode cX1_at 5 = .ok (.aload_n 0, 1) := by decide +kernel
theorem dX1_at_6 : decode cX1_at 6 = .ok (.getfield 15, 3) := by decide +kernel
theorem dX1_at_9 : decode cX1_at 9 = .ok (.if_icmp .ge 21, 3) := by decide +kernel
theorem dX1_at_12 : decode cX1_at 12 = .ok (.iload_n 1, 1) := by decide +kernel
theorem dX1_at_13 : decode cX1_at 13 = .ok (.aload_n 0, 1) := by decide +kernel
theorem dX1_at_14 : decode cX1_at 14 = .ok (.getfield 9, 3) := by decide +kernel
theorem dX1_at_17 : decode cX1_at 17 = .ok (.arraylength, 1) := by decide +kernel
theorem dX1_at_18 : decode cX1_at 18 = .ok (.if_icmp .ge 12, 3) := by decide +kernel
theorem dX1_at_21 : decode cX1_at 21 = .ok (.aload_n 0, 1) := by decide +kernel
theorem dX1_at_22 : decode cX1_at 22 = .ok (.getfield 9, 3) := by decide +kernel
theorem dX1_at_25 : decode cX1_at 25 = .ok (.iload_n 1, 1) := by decide +kernel
theorem dX1_at_26 : decode cX1_at 26 = .ok (.iaload, 1) := by decide +kernel
theorem dX1_at_27 : decode cX1_at 27 = .ok (.goto 4, 3) := by decide +kernel
theorem dX1_at_30 : decode cX1_at 30 = .ok (.iconst (-1), 1) := by decide +kernel
theorem dX1_at_31 : decode cX1_at 31 = .ok (.ireturn, 1) := by decide +kernel
theorem dX1_kind_0 : decode cX1_kind 0 = .ok (.aload_n 0, 1) := by decide +kernel
theorem dX1_kind_1 : decode cX1_kind 1 = .ok (.iload_n 1, 1) := by decide +kernel
theorem dX1_kind_2 : decode cX1_kind 2 = .ok (.invokevirtual 19, 3) := by decide +kernel
theorem dX1_kind_5 : decode cX1_kind 5 = .ok (.istore_n 2, 1) := by decide +kernel
theorem dX1_kind_6 : decode cX1_kind 6 = .ok (.iload_n 2, 1) := by decide +kernel
theorem dX1_kind_7 : decode cX1_kind 7 = .ok (.ifCond .ge 7, 3) := by decide +kernel
theorem dX1_kind_10 : decode cX1_kind 10 = .ok (.iconst (-1), 1) := by decide +kernel
theorem dX1_kind_11 : decode cX1_kind 11 = .ok (.goto 10, 3) := by decide +kernel
theorem dX1_kind_14 : decode cX1_kind 14 = .ok (.ldc 23, 2) := by decide +kernel
theorem dX1_kind_16 : decode cX1_kind 16 = .ok (.iload_n 2, 1) := by decide +kernel
theorem dX1_kind_17 : decode cX1_kind 17 = .ok (.i2c, 1) := by decide +kernel
theorem dX1_kind_18 : decode cX1_kind 18 = .ok (.invokevirtual 25, 3) := by decide +kernel
theorem dX1_kind_21 : decode cX1_kind 21 = .ok (.ireturn, 1) := by decide +kernel
theorem dX1_number_0 : decode cX1_number 0 = .ok (.iconst 0, 1) := by decide +kernel
theorem dX1_number_1 : decode cX1_number 1 = .ok (.istore_n 3, 1) := by decide +kernel
theorem dX1_number_2 : decode cX1_number 2 = .ok (.iconst 0, 1) := by decide +kernel
theorem dX1_number_3 : decode cX1_number 3 = .ok (.istore 4, 2) := by decide +kernel
theorem dX1_number_5 : decode cX1_number 5 = .ok (.iload 4, 2) := by decide +kernel
theorem dX1_number_7 : decode cX1_number 7 = .ok (.iload_n 2, 1) := by decide +kernel
theorem dX1_number_8 : decode cX1_number 8 = .ok (.if_icmp .ge 26, 3) := by decide +kernel
theorem dX1_number_11 : decode cX1_number 11 = .ok (.bipush 10, 2) := by decide +kernel
theorem dX1_number_13 : decode cX1_number 13 = .ok (.iload_n 3, 1) := by decide +kernel
theorem dX1_number_14 : decode cX1_number 14 = .ok (.imul, 1) := by decide +kernel
theorem dX1_number_15 : decode cX1_number 15 = .ok (.aload_n 0, 1) := by decide +kernel
theorem dX1_number_16 : decode cX1_number 16 = .ok (.iload_n 1, 1) := by decide +kernel
theorem dX1_number_17 : decode cX1_number 17 = .ok (.iload 4, 2) := by decide +kernel
theorem dX1_number_19 : decode cX1_number 19 = .ok (.iadd, 1) := by decide +kernel
theorem dX1_number_20 : decode cX1_number 20 = .ok (.invokevirtual 19, 3) := by decide +kernel
theorem dX1_number_23 : decode cX1_number 23 = .ok (.iadd, 1) := by decide +kernel
theorem dX1_number_24 : decode cX1_number 24 = .ok (.bipush 48, 2) := by decide +kernel
theorem dX1_number_26 : decode cX1_number 26 = .ok (.isub, 1) := by decide +kernel
theorem dX1_number_27 : decode cX1_number 27 = .ok (.istore_n 3, 1) := by decide +kernel
theorem dX1_number_28 : decode cX1_number 28 = .ok (.iinc 4 1, 3) := by decide +kernel
theorem dX1_number_31 : decode cX1_number 31 = .ok (.goto (-26), 3) := by decide +kernel
theorem dX1_number_34 : decode cX1_number 34 = .ok (.iload_n 3, 1) := by decide +kernel
theorem dX1_number_35 : decode cX1_number 35 = .ok (.ireturn, 1) := by decide +kernel
theorem dX1_firstWrong_0 : decode cX1_firstWrong 0 = .ok (.ldc 30, 2) := by decide +kernel
theorem dX1_firstWrong_2 : decode cX1_firstWrong 2 = .ok (.astore_n 1, 1) := by decide +kernel
theorem dX1_firstWrong_3 : decode cX1_firstWrong 3 = .ok (.iconst 0, 1) := by decide +kernel
theorem dX1_firstWrong_4 : decode cX1_firstWrong 4 = .ok (.istore_n 2, 1) := by decide +kernel
theorem dX1_firstWrong_5 : decode cX1_firstWrong 5 = .ok (.iconst 0, 1) := by decide +kernel
theorem dX1_firstWrong_6 : decode cX1_firstWrong 6 = .ok (.istore_n 3, 1) := by decide +kernel
theorem dX1_firstWrong_7 : decode cX1_firstWrong 7 = .ok (.iload_n 3, 1) := by decide +kernel
theorem dX1_firstWrong_8 : decode cX1_firstWrong 8 = .ok (.aload_n 0, 1) := by decide +kernel
theorem dX1_firstWrong_9 : decode cX1_firstWrong 9 = .ok (.getfield 15, 3) := by decide +kernel
theorem dX1_firstWrong_12 : decode cX1_firstWrong 12 = .ok (.if_icmp .ge 54, 3) := by decide +kernel
theorem dX1_firstWrong_15 : decode cX1_firstWrong 15 = .ok (.iload_n 2, 1) := by decide +kernel
theorem dX1_firstWrong_16 : decode cX1_firstWrong 16 = .ok (.aload_n 1, 1) := by decide +kernel
theorem dX1_firstWrong_17 : decode cX1_firstWrong 17 = .ok (.invokevirtual 32, 3) := by decide +kernel
theorem dX1_firstWrong_20 : decode cX1_firstWrong 20 = .ok (.if_icmp .ne 14, 3) := by decide +kernel
theorem dX1_firstWrong_23 : decode cX1_firstWrong 23 = .ok (.aload_n 0, 1) := by decide +kernel
theorem dX1_firstWrong_24 : decode cX1_firstWrong 24 = .ok (.iload_n 3, 1) := by decide +kernel
theorem dX1_firstWrong_25 : decode cX1_firstWrong 25 = .ok (.invokevirtual 19, 3) := by decide +kernel
theorem dX1_firstWrong_28 : decode cX1_firstWrong 28 = .ok (.invokestatic 35, 3) := by decide +kernel
theorem dX1_firstWrong_31 : decode cX1_firstWrong 31 = .ok (.astore_n 1, 1) := by decide +kernel
theorem dX1_firstWrong_32 : decode cX1_firstWrong 32 = .ok (.iconst 0, 1) := by decide +kernel
theorem dX1_firstWrong_33 : decode cX1_firstWrong 33 = .ok (.istore_n 2, 1) := by decide +kernel
theorem dX1_firstWrong_34 : decode cX1_firstWrong 34 = .ok (.iload_n 2, 1) := by decide +kernel
theorem dX1_firstWrong_35 : decode cX1_firstWrong 35 = .ok (.aload_n 1, 1) := by decide +kernel
theorem dX1_firstWrong_36 : decode cX1_firstWrong 36 = .ok (.invokevirtual 32, 3) := by decide +kernel
theorem dX1_firstWrong_39 : decode cX1_firstWrong 39 = .ok (.if_icmp .ge 16, 3) := by decide +kernel
theorem dX1_firstWrong_42 : decode cX1_firstWrong 42 = .ok (.aload_n 0, 1) := by decide +kernel
theorem dX1_firstWrong_43 : decode cX1_firstWrong 43 = .ok (.iload_n 3, 1) := by decide +kernel
theorem dX1_firstWrong_44 : decode cX1_firstWrong 44 = .ok (.aload_n 1, 1) := by decide +kernel
theorem dX1_firstWrong_45 : decode cX1_firstWrong 45 = .ok (.iload_n 2, 1) := by decide +kernel
theorem dX1_firstWrong_46 : decode cX1_firstWrong 46 = .ok (.invokevirtual 39, 3) := by decide +kernel
theorem dX1_firstWrong_49 : decode cX1_firstWrong 49 = .ok (.invokevirtual 43, 3) := by decide +kernel
theorem dX1_firstWrong_52 : decode cX1_firstWrong 52 = .ok (.ifCond .ne 5, 3) := by decide +kernel
theorem dX1_firstWrong_55 : decode cX1_firstWrong 55 = .ok (.iload_n 3, 1) := by decide +kernel
theorem dX1_firstWrong_56 : decode cX1_firstWrong 56 = .ok (.ireturn, 1) := by decide +kernel
theorem dX1_firstWrong_57 : decode cX1_firstWrong 57 = .ok (.iinc 2 1, 3) := by decide +kernel
theorem dX1_firstWrong_60 : decode cX1_firstWrong 60 = .ok (.iinc 3 1, 3) := by decide +kernel
theorem dX1_firstWrong_63 : decode cX1_firstWrong 63 = .ok (.goto (-56), 3) := by decide +kernel
theorem dX1_firstWrong_66 : decode cX1_firstWrong 66 = .ok (.aload_n 0, 1) := by decide +kernel
theorem dX1_firstWrong_67 : decode cX1_firstWrong 67 = .ok (.getfield 15, 3) := by decide +kernel
theorem dX1_firstWrong_70 : decode cX1_firstWrong 70 = .ok (.ifCond .le 16, 3) := by decide +kernel
theorem dX1_firstWrong_73 : decode cX1_firstWrong 73 = .ok (.iload_n 2, 1) := by decide +kernel
theorem dX1_firstWrong_74 : decode cX1_firstWrong 74 = .ok (.aload_n 1, 1) := by decide +kernel
theorem dX1_firstWrong_75 : decode cX1_firstWrong 75 = .ok (.invokevirtual 32, 3) := by decide +kernel
theorem dX1_firstWrong_78 : decode cX1_firstWrong 78 = .ok (.if_icmp .ne 8, 3) := by decide +kernel
theorem dX1_firstWrong_81 : decode cX1_firstWrong 81 = .ok (.bipush (-9), 2) := by decide +kernel
theorem dX1_firstWrong_83 : decode cX1_firstWrong 83 = .ok (.goto 7, 3) := by decide +kernel
theorem dX1_firstWrong_86 : decode cX1_firstWrong 86 = .ok (.aload_n 0, 1) := by decide +kernel
theorem dX1_firstWrong_87 : decode cX1_firstWrong 87 = .ok (.getfield 15, 3) := by decide +kernel
theorem dX1_firstWrong_90 : decode cX1_firstWrong 90 = .ok (.ireturn, 1) := by decide +kernel
theorem dX1_fits_0 : decode cX1_fits 0 = .ok (.aload_n 0, 1) := by decide +kernel
theorem dX1_fits_1 : decode cX1_fits 1 = .ok (.iload_n 1, 1) := by decide +kernel
theorem dX1_fits_2 : decode cX1_fits 2 = .ok (.invokevirtual 19, 3) := by decide +kernel
theorem dX1_fits_5 : decode cX1_fits 5 = .ok (.istore_n 3, 1) := by decide +kernel
theorem dX1_fits_6 : decode cX1_fits 6 = .ok (.iload_n 2, 1) := by decide +kernel
theorem dX1_fits_7 : decode cX1_fits 7 = .ok (.lookupswitch 57 #[(57, 25), (107, 43)], 25) := by decide +kernel
theorem dX1_fits_32 : decode cX1_fits 32 = .ok (.iload_n 3, 1) := by decide +kernel
theorem dX1_fits_33 : decode cX1_fits 33 = .ok (.bipush 48, 2) := by decide +kernel
theorem dX1_fits_35 : decode cX1_fits 35 = .ok (.if_icmp .lt 13, 3) := by decide +kernel
theorem dX1_fits_38 : decode cX1_fits 38 = .ok (.iload_n 3, 1) := by decide +kernel
theorem dX1_fits_39 : decode cX1_fits 39 = .ok (.bipush 57, 2) := by decide +kernel
theorem dX1_fits_41 : decode cX1_fits 41 = .ok (.if_icmp .gt 7, 3) := by decide +kernel
theorem dX1_fits_44 : decode cX1_fits 44 = .ok (.iconst 1, 1) := by decide +kernel
theorem dX1_fits_45 : decode cX1_fits 45 = .ok (.goto 4, 3) := by decide +kernel
theorem dX1_fits_48 : decode cX1_fits 48 = .ok (.iconst 0, 1) := by decide +kernel
theorem dX1_fits_49 : decode cX1_fits 49 = .ok (.ireturn, 1) := by decide +kernel
theorem dX1_fits_50 : decode cX1_fits 50 = .ok (.aload_n 0, 1) := by decide +kernel
theorem dX1_fits_51 : decode cX1_fits 51 = .ok (.iload_n 1, 1) := by decide +kernel
theorem dX1_fits_52 : decode cX1_fits 52 = .ok (.invokevirtual 47, 3) := by decide +kernel
theorem dX1_fits_55 : decode cX1_fits 55 = .ok (.ifCond .lt 7, 3) := by decide +kernel
theorem dX1_fits_58 : decode cX1_fits 58 = .ok (.iconst 1, 1) := by decide +kernel
theorem dX1_fits_59 : decode cX1_fits 59 = .ok (.goto 4, 3) := by decide +kernel
theorem dX1_fits_62 : decode cX1_fits 62 = .ok (.iconst 0, 1) := by decide +kernel
theorem dX1_fits_63 : decode cX1_fits 63 = .ok (.ireturn, 1) := by decide +kernel
theorem dX1_fits_64 : decode cX1_fits 64 = .ok (.iload_n 3, 1) := by decide +kernel
theorem dX1_fits_65 : decode cX1_fits 65 = .ok (.iload_n 2, 1) := by decide +kernel
theorem dX1_fits_66 : decode cX1_fits 66 = .ok (.if_icmp .ne 7, 3) := by decide +kernel
theorem dX1_fits_69 : decode cX1_fits 69 = .ok (.iconst 1, 1) := by decide +kernel
theorem dX1_fits_70 : decode cX1_fits 70 = .ok (.goto 4, 3) := by decide +kernel
theorem dX1_fits_73 : decode cX1_fits 73 = .ok (.iconst 0, 1) := by decide +kernel
theorem dX1_fits_74 : decode cX1_fits 74 = .ok (.ireturn, 1) := by decide +kernel
theorem dX1_shapeOf_0 : decode cX1_shapeOf 0 = .ok (.iload_n 0, 1) := by decide +kernel
theorem dX1_shapeOf_1 : decode cX1_shapeOf 1 = .ok (.lookupswitch 77 #[(99, 59), (101, 68), (108, 65), (112, 71), (114, 62), (121, 74)], 59) := by decide +kernel
theorem dX1_shapeOf_60 : decode cX1_shapeOf 60 = .ok (.ldc 50, 2) := by decide +kernel
theorem dX1_shapeOf_62 : decode cX1_shapeOf 62 = .ok (.areturn, 1) := by decide +kernel
theorem dX1_shapeOf_63 : decode cX1_shapeOf 63 = .ok (.ldc 52, 2) := by decide +kernel
theorem dX1_shapeOf_65 : decode cX1_shapeOf 65 = .ok (.areturn, 1) := by decide +kernel
theorem dX1_shapeOf_66 : decode cX1_shapeOf 66 = .ok (.ldc 54, 2) := by decide +kernel
theorem dX1_shapeOf_68 : decode cX1_shapeOf 68 = .ok (.areturn, 1) := by decide +kernel
theorem dX1_shapeOf_69 : decode cX1_shapeOf 69 = .ok (.ldc 56, 2) := by decide +kernel
theorem dX1_shapeOf_71 : decode cX1_shapeOf 71 = .ok (.areturn, 1) := by decide +kernel
theorem dX1_shapeOf_72 : decode cX1_shapeOf 72 = .ok (.ldc 58, 2) := by decide +kernel
theorem dX1_shapeOf_74 : decode cX1_shapeOf 74 = .ok (.areturn, 1) := by decide +kernel
theorem dX1_shapeOf_75 : decode cX1_shapeOf 75 = .ok (.ldc 60, 2) := by decide +kernel
theorem dX1_shapeOf_77 : decode cX1_shapeOf 77 = .ok (.areturn, 1) := by decide +kernel
theorem dX1_shapeOf_78 : decode cX1_shapeOf 78 = .ok (.ldc 30, 2) := by decide +kernel
theorem dX1_shapeOf_80 : decode cX1_shapeOf 80 = .ok (.areturn, 1) := by decide +kernel
theorem dX2_at_0 : decode cX2_at 0 = .ok (.iload_n 1, 1) := by decide +kernel
theorem dX2_at_1 : decode cX2_at 1 = .ok (.ifCond .lt 21, 3) := by decide +kernel
theorem dX2_at_4 : decode cX2_at 4 = .ok (.iload_n 1, 1) := by decide +kernel
theorem dX2_at_5 : decode cX2_at 5 = .ok (.aload_n 0, 1) := by decide +kernel
theorem dX2_at_6 : decode cX2_at 6 = .ok (.getfield 11, 3) := by decide +kernel
theorem dX2_at_9 : decode cX2_at 9 = .ok (.arraylength, 1) := by decide +kernel
theorem dX2_at_10 : decode cX2_at 10 = .ok (.if_icmp .ge 12, 3) := by decide +kernel
theorem dX2_at_13 : decode cX2_at 13 = .ok (.aload_n 0, 1) := by decide +kernel
theorem dX2_at_14 : decode cX2_at 14 = .ok (.getfield 11, 3) := by decide +kernel
theorem dX2_at_17 : decode cX2_at 17 = .ok (.iload_n 1, 1) := by decide +kernel
theorem dX2_at_18 : decode cX2_at 18 = .ok (.aaload, 1) := by decide +kernel
theorem dX2_at_19 : decode cX2_at 19 = .ok (.goto 7, 3) := by decide +kernel
theorem dX2_at_22 : decode cX2_at 22 = .ok (.aload_n 0, 1) := by decide +kernel
theorem dX2_at_23 : decode cX2_at 23 = .ok (.getfield 18, 3) := by decide +kernel
theorem dX2_at_26 : decode cX2_at 26 = .ok (.astore_n 2, 1) := by decide +kernel
theorem dX2_at_27 : decode cX2_at 27 = .ok (.aload_n 2, 1) := by decide +kernel
theorem dX2_at_28 : decode cX2_at 28 = .ok (.ifnonnull 10, 3) := by decide +kernel
theorem dX2_at_31 : decode cX2_at 31 = .ok (.aload_n 0, 1) := by decide +kernel
theorem dX2_at_32 : decode cX2_at 32 = .ok (.getfield 18, 3) := by decide +kernel
theorem dX2_at_35 : decode cX2_at 35 = .ok (.goto 4, 3) := by decide +kernel
theorem dX2_at_38 : decode cX2_at 38 = .ok (.aload_n 2, 1) := by decide +kernel
theorem dX2_at_39 : decode cX2_at 39 = .ok (.areturn, 1) := by decide +kernel
theorem dX2_become_0 : decode cX2_become 0 = .ok (.aload_n 0, 1) := by decide +kernel
theorem dX2_become_1 : decode cX2_become 1 = .ok (.aload_n 1, 1) := by decide +kernel
theorem dX2_become_2 : decode cX2_become 2 = .ok (.getfield 22, 3) := by decide +kernel
theorem dX2_become_5 : decode cX2_become 5 = .ok (.putfield 22, 3) := by decide +kernel
theorem dX2_become_8 : decode cX2_become 8 = .ok (.aload_n 0, 1) := by decide +kernel
theorem dX2_become_9 : decode cX2_become 9 = .ok (.aload_n 1, 1) := by decide +kernel
theorem dX2_become_10 : decode cX2_become 10 = .ok (.getfield 26, 3) := by decide +kernel
theorem dX2_become_13 : decode cX2_become 13 = .ok (.putfield 26, 3) := by decide +kernel
theorem dX2_become_16 : decode cX2_become 16 = .ok (.aload_n 0, 1) := by decide +kernel
theorem dX2_become_17 : decode cX2_become 17 = .ok (.aload_n 1, 1) := by decide +kernel
theorem dX2_become_18 : decode cX2_become 18 = .ok (.getfield 29, 3) := by decide +kernel
theorem dX2_become_21 : decode cX2_become 21 = .ok (.putfield 29, 3) := by decide +kernel
theorem dX2_become_24 : decode cX2_become 24 = .ok (.aload_n 0, 1) := by decide +kernel
theorem dX2_become_25 : decode cX2_become 25 = .ok (.aload_n 1, 1) := by decide +kernel
theorem dX2_become_26 : decode cX2_become 26 = .ok (.getfield 32, 3) := by decide +kernel
theorem dX2_become_29 : decode cX2_become 29 = .ok (.putfield 32, 3) := by decide +kernel
theorem dX2_become_32 : decode cX2_become 32 = .ok (.aload_n 0, 1) := by decide +kernel
theorem dX2_become_33 : decode cX2_become 33 = .ok (.aload_n 1, 1) := by decide +kernel
theorem dX2_become_34 : decode cX2_become 34 = .ok (.getfield 35, 3) := by decide +kernel
theorem dX2_become_37 : decode cX2_become 37 = .ok (.putfield 35, 3) := by decide +kernel
theorem dX2_become_40 : decode cX2_become 40 = .ok (.iconst 0, 1) := by decide +kernel
theorem dX2_become_41 : decode cX2_become 41 = .ok (.istore_n 2, 1) := by decide +kernel
theorem dX2_become_42 : decode cX2_become 42 = .ok (.iload_n 2, 1) := by decide +kernel
theorem dX2_become_43 : decode cX2_become 43 = .ok (.aload_n 0, 1) := by decide +kernel
theorem dX2_become_44 : decode cX2_become 44 = .ok (.getfield 22, 3) := by decide +kernel
theorem dX2_become_47 : decode cX2_become 47 = .ok (.if_icmp .ge 22, 3) := by decide +kernel
theorem dX2_become_50 : decode cX2_become 50 = .ok (.aload_n 0, 1) := by decide +kernel
theorem dX2_become_51 : decode cX2_become 51 = .ok (.iload_n 2, 1) := by decide +kernel
theorem dX2_become_52 : decode cX2_become 52 = .ok (.invokevirtual 38, 3) := by decide +kernel
theorem dX2_become_55 : decode cX2_become 55 = .ok (.aload_n 1, 1) := by decide +kernel
theorem dX2_become_56 : decode cX2_become 56 = .ok (.iload_n 2, 1) := by decide +kernel
theorem dX2_become_57 : decode cX2_become 57 = .ok (.invokevirtual 38, 3) := by decide +kernel
theorem dX2_become_60 : decode cX2_become 60 = .ok (.invokevirtual 42, 3) := by decide +kernel
theorem dX2_become_63 : decode cX2_become 63 = .ok (.iinc 2 1, 3) := by decide +kernel
theorem dX2_become_66 : decode cX2_become 66 = .ok (.goto (-24), 3) := by decide +kernel
theorem dX2_become_69 : decode cX2_become 69 = .ok (.return_, 1) := by decide +kernel
theorem dX2_caskFault_0 : decode cX2_caskFault 0 = .ok (.iload_n 1, 1) := by decide +kernel
theorem dX2_caskFault_1 : decode cX2_caskFault 1 = .ok (.ifCond .lt 11, 3) := by decide +kernel
theorem dX2_caskFault_4 : decode cX2_caskFault 4 = .ok (.iload_n 1, 1) := by decide +kernel
theorem dX2_caskFault_5 : decode cX2_caskFault 5 = .ok (.aload_n 0, 1) := by decide +kernel
theorem dX2_caskFault_6 : decode cX2_caskFault 6 = .ok (.getfield 22, 3) := by decide +kernel
theorem dX2_caskFault_9 : decode cX2_caskFault 9 = .ok (.if_icmp .lt 7, 3) := by decide +kernel
theorem dX2_caskFault_12 : decode cX2_caskFault 12 = .ok (.iconst (-1), 1) := by decide +kernel
theorem dX2_caskFault_13 : decode cX2_caskFault 13 = .ok (.goto 4, 3) := by decide +kernel
theorem dX2_caskFault_16 : decode cX2_caskFault 16 = .ok (.iconst 0, 1) := by decide +kernel
theorem dX2_caskFault_17 : decode cX2_caskFault 17 = .ok (.ireturn, 1) := by decide +kernel
theorem dX2_addCask_0 : decode cX2_addCask 0 = .ok (.iload_n 2, 1) := by decide +kernel
theorem dX2_addCask_1 : decode cX2_addCask 1 = .ok (.iconst 1, 1) := by decide +kernel
theorem dX2_addCask_2 : decode cX2_addCask 2 = .ok (.sipush 400, 3) := by decide +kernel
theorem dX2_addCask_5 : decode cX2_addCask 5 = .ok (.invokestatic 46, 3) := by decide +kernel
theorem dX2_addCask_8 : decode cX2_addCask 8 = .ok (.iload_n 3, 1) := by decide +kernel
theorem dX2_addCask_9 : decode cX2_addCask 9 = .ok (.iconst 0, 1) := by decide +kernel
theorem dX2_addCask_10 : decode cX2_addCask 10 = .ok (.iload_n 2, 1) := by decide +kernel
theorem dX2_addCask_11 : decode cX2_addCask 11 = .ok (.invokestatic 46, 3) := by decide +kernel
theorem dX2_addCask_14 : decode cX2_addCask 14 = .ok (.aload_n 0, 1) := by decide +kernel
theorem dX2_addCask_15 : decode cX2_addCask 15 = .ok (.getfield 22, 3) := by decide +kernel
theorem dX2_addCask_18 : decode cX2_addCask 18 = .ok (.bipush 7, 2) := by decide +kernel
theorem dX2_addCask_20 : decode cX2_addCask 20 = .ok (.if_icmp .lt 8, 3) := by decide +kernel
theorem dX2_addCask_23 : decode cX2_addCask 23 = .ok (.bipush (-6), 2) := by decide +kernel
theorem dX2_addCask_25 : decode cX2_addCask 25 = .ok (.goto 4, 3) := by decide +kernel
theorem dX2_addCask_28 : decode cX2_addCask 28 = .ok (.iconst 0, 1) := by decide +kernel
theorem dX2_addCask_29 : decode cX2_addCask 29 = .ok (.invokestatic 50, 3) := by decide +kernel
theorem dX2_addCask_32 : decode cX2_addCask 32 = .ok (.istore 6, 2) := by decide +kernel
theorem dX2_addCask_34 : decode cX2_addCask 34 = .ok (.iload 6, 2) := by decide +kernel
theorem dX2_addCask_36 : decode cX2_addCask 36 = .ok (.ifCond .eq 6, 3) := by decide +kernel
theorem dX2_addCask_39 : decode cX2_addCask 39 = .ok (.iload 6, 2) := by decide +kernel
theorem dX2_addCask_41 : decode cX2_addCask 41 = .ok (.ireturn, 1) := by decide +kernel
theorem dX2_addCask_42 : decode cX2_addCask 42 = .ok (.aload_n 0, 1) := by decide +kernel
theorem dX2_addCask_43 : decode cX2_addCask 43 = .ok (.aload_n 0, 1) := by decide +kernel
theorem dX2_addCask_44 : decode cX2_addCask 44 = .ok (.getfield 22, 3) := by decide +kernel
theorem dX2_addCask_47 : decode cX2_addCask 47 = .ok (.invokevirtual 38, 3) := by decide +kernel
theorem dX2_addCask_50 : decode cX2_addCask 50 = .ok (.astore 7, 2) := by decide +kernel
theorem dX2_addCask_52 : decode cX2_addCask 52 = .ok (.aload 7, 2) := by decide +kernel
theorem dX2_addCask_54 : decode cX2_addCask 54 = .ok (.iload_n 1, 1) := by decide +kernel
theorem dX2_addCask_55 : decode cX2_addCask 55 = .ok (.putfield 53, 3) := by decide +kernel
theorem dX2_addCask_58 : decode cX2_addCask 58 = .ok (.aload 7, 2) := by decide +kernel
theorem dX2_addCask_60 : decode cX2_addCask 60 = .ok (.iload_n 2, 1) := by decide +kernel
theorem dX2_addCask_61 : decode cX2_addCask 61 = .ok (.putfield 56, 3) := by decide +kernel
theorem dX2_addCask_64 : decode cX2_addCask 64 = .ok (.aload 7, 2) := by decide +kernel
theorem dX2_addCask_66 : decode cX2_addCask 66 = .ok (.iload_n 3, 1) := by decide +kernel
theorem dX2_addCask_67 : decode cX2_addCask 67 = .ok (.putfield 59, 3) := by decide +kernel
theorem dX2_addCask_70 : decode cX2_addCask 70 = .ok (.aload 7, 2) := by decide +kernel
theorem dX2_addCask_72 : decode cX2_addCask 72 = .ok (.iload 4, 2) := by decide +kernel
theorem dX2_addCask_74 : decode cX2_addCask 74 = .ok (.putfield 62, 3) := by decide +kernel
theorem dX2_addCask_77 : decode cX2_addCask 77 = .ok (.aload 7, 2) := by decide +kernel
theorem dX2_addCask_79 : decode cX2_addCask 79 = .ok (.iload 5, 2) := by decide +kernel
theorem dX2_addCask_81 : decode cX2_addCask 81 = .ok (.putfield 65, 3) := by decide +kernel
theorem dX2_addCask_84 : decode cX2_addCask 84 = .ok (.aload 7, 2) := by decide +kernel
theorem dX2_addCask_86 : decode cX2_addCask 86 = .ok (.iconst 0, 1) := by decide +kernel
theorem dX2_addCask_87 : decode cX2_addCask 87 = .ok (.putfield 68, 3) := by decide +kernel
theorem dX2_addCask_90 : decode cX2_addCask 90 = .ok (.aload_n 0, 1) := by decide +kernel
theorem dX2_addCask_91 : decode cX2_addCask 91 = .ok (.dup, 1) := by decide +kernel
theorem dX2_addCask_92 : decode cX2_addCask 92 = .ok (.getfield 22, 3) := by decide +kernel
theorem dX2_addCask_95 : decode cX2_addCask 95 = .ok (.iconst 1, 1) := by decide +kernel
theorem dX2_addCask_96 : decode cX2_addCask 96 = .ok (.iadd, 1) := by decide +kernel
theorem dX2_addCask_97 : decode cX2_addCask 97 = .ok (.putfield 22, 3) := by decide +kernel
theorem dX2_addCask_100 : decode cX2_addCask 100 = .ok (.iconst 0, 1) := by decide +kernel
theorem dX2_addCask_101 : decode cX2_addCask 101 = .ok (.ireturn, 1) := by decide +kernel
theorem dX2_chosen_0 : decode cX2_chosen 0 = .ok (.iload_n 1, 1) := by decide +kernel
theorem dX2_chosen_1 : decode cX2_chosen 1 = .ok (.ifCond .ne 10, 3) := by decide +kernel
theorem dX2_chosen_4 : decode cX2_chosen 4 = .ok (.aload_n 0, 1) := by decide +kernel
theorem dX2_chosen_5 : decode cX2_chosen 5 = .ok (.getfield 26, 3) := by decide +kernel
theorem dX2_chosen_8 : decode cX2_chosen 8 = .ok (.goto 19, 3) := by decide +kernel
theorem dX2_chosen_11 : decode cX2_chosen 11 = .ok (.iload_n 1, 1) := by decide +kernel
theorem dX2_chosen_12 : decode cX2_chosen 12 = .ok (.iconst 1, 1) := by decide +kernel
theorem dX2_chosen_13 : decode cX2_chosen 13 = .ok (.if_icmp .ne 10, 3) := by decide +kernel
theorem dX2_chosen_16 : decode cX2_chosen 16 = .ok (.aload_n 0, 1) := by decide +kernel
theorem dX2_chosen_17 : decode cX2_chosen 17 = .ok (.getfield 29, 3) := by decide +kernel
theorem dX2_chosen_20 : decode cX2_chosen 20 = .ok (.goto 7, 3) := by decide +kernel
theorem dX2_chosen_23 : decode cX2_chosen 23 = .ok (.aload_n 0, 1) := by decide +kernel
theorem dX2_chosen_24 : decode cX2_chosen 24 = .ok (.getfield 32, 3) := by decide +kernel
theorem dX2_chosen_27 : decode cX2_chosen 27 = .ok (.ireturn, 1) := by decide +kernel
theorem dX2_choose_0 : decode cX2_choose 0 = .ok (.iload_n 1, 1) := by decide +kernel
theorem dX2_choose_1 : decode cX2_choose 1 = .ok (.iconst 2, 1) := by decide +kernel
theorem dX2_choose_2 : decode cX2_choose 2 = .ok (.invokestatic 71, 3) := by decide +kernel
theorem dX2_choose_5 : decode cX2_choose 5 = .ok (.iload_n 2, 1) := by decide +kernel
theorem dX2_choose_6 : decode cX2_choose 6 = .ok (.iload_n 1, 1) := by decide +kernel
theorem dX2_choose_7 : decode cX2_choose 7 = .ok (.invokestatic 75, 3) := by decide +kernel
theorem dX2_choose_10 : decode cX2_choose 10 = .ok (.iload_n 1, 1) := by decide +kernel
theorem dX2_choose_11 : decode cX2_choose 11 = .ok (.invokestatic 79, 3) := by decide +kernel
theorem dX2_choose_14 : decode cX2_choose 14 = .ok (.invokestatic 46, 3) := by decide +kernel
theorem dX2_choose_17 : decode cX2_choose 17 = .ok (.iconst 0, 1) := by decide +kernel
theorem dX2_choose_18 : decode cX2_choose 18 = .ok (.invokestatic 50, 3) := by decide +kernel
theorem dX2_choose_21 : decode cX2_choose 21 = .ok (.istore_n 3, 1) := by decide +kernel
theorem dX2_choose_22 : decode cX2_choose 22 = .ok (.iload_n 3, 1) := by decide +kernel
theorem dX2_choose_23 : decode cX2_choose 23 = .ok (.ifCond .eq 5, 3) := by decide +kernel
theorem dX2_choose_26 : decode cX2_choose 26 = .ok (.iload_n 3, 1) := by decide +kernel
theorem dX2_choose_27 : decode cX2_choose 27 = .ok (.ireturn, 1) := by decide +kernel
theorem dX2_choose_28 : decode cX2_choose 28 = .ok (.iload_n 1, 1) := by decide +kernel
theorem dX2_choose_29 : decode cX2_choose 29 = .ok (.lookupswitch 43 #[(0, 27), (1, 35)], 27) := by decide +kernel
theorem dX2_choose_56 : decode cX2_choose 56 = .ok (.aload_n 0, 1) := by decide +kernel
theorem dX2_choose_57 : decode cX2_choose 57 = .ok (.iload_n 2, 1) := by decide +kernel
theorem dX2_choose_58 : decode cX2_choose 58 = .ok (.putfield 26, 3) := by decide +kernel
theorem dX2_choose_61 : decode cX2_choose 61 = .ok (.goto 16, 3) := by decide +kernel
theorem dX2_choose_64 : decode cX2_choose 64 = .ok (.aload_n 0, 1) := by decide +kernel
theorem dX2_choose_65 : decode cX2_choose 65 = .ok (.iload_n 2, 1) := by decide +kernel
theorem dX2_choose_66 : decode cX2_choose 66 = .ok (.putfield 29, 3) := by decide +kernel
theorem dX2_choose_69 : decode cX2_choose 69 = .ok (.goto 8, 3) := by decide +kernel
theorem dX2_choose_72 : decode cX2_choose 72 = .ok (.aload_n 0, 1) := by decide +kernel
theorem dX2_choose_73 : decode cX2_choose 73 = .ok (.iload_n 2, 1) := by decide +kernel
theorem dX2_choose_74 : decode cX2_choose 74 = .ok (.putfield 32, 3) := by decide +kernel
theorem dX2_choose_77 : decode cX2_choose 77 = .ok (.iconst 0, 1) := by decide +kernel
theorem dX2_choose_78 : decode cX2_choose 78 = .ok (.ireturn, 1) := by decide +kernel
theorem dX2_pourFault_0 : decode cX2_pourFault 0 = .ok (.aload_n 0, 1) := by decide +kernel
theorem dX2_pourFault_1 : decode cX2_pourFault 1 = .ok (.iload_n 1, 1) := by decide +kernel
theorem dX2_pourFault_2 : decode cX2_pourFault 2 = .ok (.invokevirtual 82, 3) := by decide +kernel
theorem dX2_pourFault_5 : decode cX2_pourFault 5 = .ok (.aload_n 0, 1) := by decide +kernel
theorem dX2_pourFault_6 : decode cX2_pourFault 6 = .ok (.iload_n 2, 1) := by decide +kernel
theorem dX2_pourFault_7 : decode cX2_pourFault 7 = .ok (.invokevirtual 82, 3) := by decide +kernel
theorem dX2_pourFault_10 : decode cX2_pourFault 10 = .ok (.iload_n 1, 1) := by decide +kernel
theorem dX2_pourFault_11 : decode cX2_pourFault 11 = .ok (.iload_n 2, 1) := by decide +kernel
theorem dX2_pourFault_12 : decode cX2_pourFault 12 = .ok (.if_icmp .ne 7, 3) := by decide +kernel
theorem dX2_pourFault_15 : decode cX2_pourFault 15 = .ok (.iconst (-1), 1) := by decide +kernel
theorem dX2_pourFault_16 : decode cX2_pourFault 16 = .ok (.goto 4, 3) := by decide +kernel
theorem dX2_pourFault_19 : decode cX2_pourFault 19 = .ok (.iconst 0, 1) := by decide +kernel
theorem dX2_pourFault_20 : decode cX2_pourFault 20 = .ok (.invokestatic 50, 3) := by decide +kernel
theorem dX2_pourFault_23 : decode cX2_pourFault 23 = .ok (.istore 4, 2) := by decide +kernel
theorem dX2_pourFault_25 : decode cX2_pourFault 25 = .ok (.iload 4, 2) := by decide +kernel
theorem dX2_pourFault_27 : decode cX2_pourFault 27 = .ok (.ifCond .ne 13, 3) := by decide +kernel
theorem dX2_pourFault_30 : decode cX2_pourFault 30 = .ok (.iload_n 3, 1) := by decide +kernel
theorem dX2_pourFault_31 : decode cX2_pourFault 31 = .ok (.iconst 1, 1) := by decide +kernel
theorem dX2_pourFault_32 : decode cX2_pourFault 32 = .ok (.sipush 400, 3) := by decide +kernel
theorem dX2_pourFault_35 : decode cX2_pourFault 35 = .ok (.invokestatic 46, 3) := by decide +kernel
theorem dX2_pourFault_38 : decode cX2_pourFault 38 = .ok (.istore 4, 2) := by decide +kernel
theorem dX2_pourFault_40 : decode cX2_pourFault 40 = .ok (.iload 4, 2) := by decide +kernel
theorem dX2_pourFault_42 : decode cX2_pourFault 42 = .ok (.ifCond .eq 6, 3) := by decide +kernel
theorem dX2_pourFault_45 : decode cX2_pourFault 45 = .ok (.iload 4, 2) := by decide +kernel
theorem dX2_pourFault_47 : decode cX2_pourFault 47 = .ok (.ireturn, 1) := by decide +kernel
theorem dX2_pourFault_48 : decode cX2_pourFault 48 = .ok (.aload_n 0, 1) := by decide +kernel
theorem dX2_pourFault_49 : decode cX2_pourFault 49 = .ok (.iload_n 2, 1) := by decide +kernel
theorem dX2_pourFault_50 : decode cX2_pourFault 50 = .ok (.invokevirtual 38, 3) := by decide +kernel
theorem dX2_pourFault_53 : decode cX2_pourFault 53 = .ok (.astore 5, 2) := by decide +kernel
theorem dX2_pourFault_55 : decode cX2_pourFault 55 = .ok (.iload_n 3, 1) := by decide +kernel
theorem dX2_pourFault_56 : decode cX2_pourFault 56 = .ok (.aload_n 0, 1) := by decide +kernel
theorem dX2_pourFault_57 : decode cX2_pourFault 57 = .ok (.iload_n 1, 1) := by decide +kernel
theorem dX2_pourFault_58 : decode cX2_pourFault 58 = .ok (.invokevirtual 38, 3) := by decide +kernel
theorem dX2_pourFault_61 : decode cX2_pourFault 61 = .ok (.getfield 59, 3) := by decide +kernel
theorem dX2_pourFault_64 : decode cX2_pourFault 64 = .ok (.if_icmp .gt 18, 3) := by decide +kernel
theorem dX2_pourFault_67 : decode cX2_pourFault 67 = .ok (.iload_n 3, 1) := by decide +kernel
theorem dX2_pourFault_68 : decode cX2_pourFault 68 = .ok (.aload 5, 2) := by decide +kernel
theorem dX2_pourFault_70 : decode cX2_pourFault 70 = .ok (.getfield 56, 3) := by decide +kernel
theorem dX2_pourFault_73 : decode cX2_pourFault 73 = .ok (.aload 5, 2) := by decide +kernel
theorem dX2_pourFault_75 : decode cX2_pourFault 75 = .ok (.getfield 59, 3) := by decide +kernel
theorem dX2_pourFault_78 : decode cX2_pourFault 78 = .ok (.isub, 1) := by decide +kernel
theorem dX2_pourFault_79 : decode cX2_pourFault 79 = .ok (.if_icmp .le 8, 3) := by decide +kernel
theorem dX2_pourFault_82 : decode cX2_pourFault 82 = .ok (.bipush (-3), 2) := by decide +kernel
theorem dX2_pourFault_84 : decode cX2_pourFault 84 = .ok (.goto 4, 3) := by decide +kernel
theorem dX2_pourFault_87 : decode cX2_pourFault 87 = .ok (.iconst 0, 1) := by decide +kernel
theorem dX2_pourFault_88 : decode cX2_pourFault 88 = .ok (.ireturn, 1) := by decide +kernel
theorem dX2_pouredStrength_0 : decode cX2_pouredStrength 0 = .ok (.aload_n 0, 1) := by decide +kernel
theorem dX2_pouredStrength_1 : decode cX2_pouredStrength 1 = .ok (.iload_n 2, 1) := by decide +kernel
theorem dX2_pouredStrength_2 : decode cX2_pouredStrength 2 = .ok (.invokevirtual 38, 3) := by decide +kernel
theorem dX2_pouredStrength_5 : decode cX2_pouredStrength 5 = .ok (.astore 4, 2) := by decide +kernel
theorem dX2_pouredStrength_7 : decode cX2_pouredStrength 7 = .ok (.aload 4, 2) := by decide +kernel
theorem dX2_pouredStrength_9 : decode cX2_pouredStrength 9 = .ok (.getfield 59, 3) := by decide +kernel
theorem dX2_pouredStrength_12 : decode cX2_pouredStrength 12 = .ok (.iload_n 3, 1) := by decide +kernel
theorem dX2_pouredStrength_13 : decode cX2_pouredStrength 13 = .ok (.iadd, 1) := by decide +kernel
theorem dX2_pouredStrength_14 : decode cX2_pouredStrength 14 = .ok (.istore 5, 2) := by decide +kernel
theorem dX2_pouredStrength_16 : decode cX2_pouredStrength 16 = .ok (.iload 5, 2) := by decide +kernel
theorem dX2_pouredStrength_18 : decode cX2_pouredStrength 18 = .ok (.ifCond .le 31, 3) := by decide +kernel
theorem dX2_pouredStrength_21 : decode cX2_pouredStrength 21 = .ok (.aload 4, 2) := by decide +kernel
theorem dX2_pouredStrength_23 : decode cX2_pouredStrength 23 = .ok (.getfield 62, 3) := by decide +kernel
theorem dX2_pouredStrength_26 : decode cX2_pouredStrength 26 = .ok (.aload 4, 2) := by decide +kernel
theorem dX2_pouredStrength_28 : decode cX2_pouredStrength 28 = .ok (.getfield 59, 3) := by decide +kernel
theorem dX2_pouredStrength_31 : decode cX2_pouredStrength 31 = .ok (.imul, 1) := by decide +kernel
theorem dX2_pouredStrength_32 : decode cX2_pouredStrength 32 = .ok (.aload_n 0, 1) := by decide +kernel
theorem dX2_pouredStrength_33 : decode cX2_pouredStrength 33 = .ok (.iload_n 1, 1) := by decide +kernel
theorem dX2_pouredStrength_34 : decode cX2_pouredStrength 34 = .ok (.invokevirtual 38, 3) := by decide +kernel
theorem dX2_pouredStrength_37 : decode cX2_pouredStrength 37 = .ok (.getfield 62, 3) := by decide +kernel
theorem dX2_pouredStrength_40 : decode cX2_pouredStrength 40 = .ok (.iload_n 3, 1) := by decide +kernel
theorem dX2_pouredStrength_41 : decode cX2_pouredStrength 41 = .ok (.imul, 1) := by decide +kernel
theorem dX2_pouredStrength_42 : decode cX2_pouredStrength 42 = .ok (.iadd, 1) := by decide +kernel
theorem dX2_pouredStrength_43 : decode cX2_pouredStrength 43 = .ok (.iload 5, 2) := by decide +kernel
theorem dX2_pouredStrength_45 : decode cX2_pouredStrength 45 = .ok (.idiv, 1) := by decide +kernel
theorem dX2_pouredStrength_46 : decode cX2_pouredStrength 46 = .ok (.goto 8, 3) := by decide +kernel
theorem dX2_pouredStrength_49 : decode cX2_pouredStrength 49 = .ok (.aload 4, 2) := by decide +kernel
theorem dX2_pouredStrength_51 : decode cX2_pouredStrength 51 = .ok (.getfield 62, 3) := by decide +kernel
theorem dX2_pouredStrength_54 : decode cX2_pouredStrength 54 = .ok (.ireturn, 1) := by decide +kernel
theorem dX2_pourOver_0 : decode cX2_pourOver 0 = .ok (.aload_n 0, 1) := by decide +kernel
theorem dX2_pourOver_1 : decode cX2_pourOver 1 = .ok (.iload_n 1, 1) := by decide +kernel
theorem dX2_pourOver_2 : decode cX2_pourOver 2 = .ok (.iload_n 2, 1) := by decide +kernel
theorem dX2_pourOver_3 : decode cX2_pourOver 3 = .ok (.iload_n 3, 1) := by decide +kernel
theorem dX2_pourOver_4 : decode cX2_pourOver 4 = .ok (.invokevirtual 85, 3) := by decide +kernel
theorem dX2_pourOver_7 : decode cX2_pourOver 7 = .ok (.istore 4, 2) := by decide +kernel
theorem dX2_pourOver_9 : decode cX2_pourOver 9 = .ok (.iload 4, 2) := by decide +kernel
theorem dX2_pourOver_11 : decode cX2_pourOver 11 = .ok (.ifCond .ne 46, 3) := by decide +kernel
theorem dX2_pourOver_14 : decode cX2_pourOver 14 = .ok (.aload_n 0, 1) := by decide +kernel
theorem dX2_pourOver_15 : decode cX2_pourOver 15 = .ok (.iload_n 2, 1) := by decide +kernel
theorem dX2_pourOver_16 : decode cX2_pourOver 16 = .ok (.invokevirtual 38, 3) := by decide +kernel
theorem dX2_pourOver_19 : decode cX2_pourOver 19 = .ok (.aload_n 0, 1) := by decide +kernel
theorem dX2_pourOver_20 : decode cX2_pourOver 20 = .ok (.iload_n 1, 1) := by decide +kernel
theorem dX2_pourOver_21 : decode cX2_pourOver 21 = .ok (.iload_n 2, 1) := by decide +kernel
theorem dX2_pourOver_22 : decode cX2_pourOver 22 = .ok (.iload_n 3, 1) := by decide +kernel
theorem dX2_pourOver_23 : decode cX2_pourOver 23 = .ok (.invokevirtual 88, 3) := by decide +kernel
theorem dX2_pourOver_26 : decode cX2_pourOver 26 = .ok (.putfield 62, 3) := by decide +kernel
theorem dX2_pourOver_29 : decode cX2_pourOver 29 = .ok (.aload_n 0, 1) := by decide +kernel
theorem dX2_pourOver_30 : decode cX2_pourOver 30 = .ok (.iload_n 2, 1) := by decide +kernel
theorem dX2_pourOver_31 : decode cX2_pourOver 31 = .ok (.invokevirtual 38, 3) := by decide +kernel
theorem dX2_pourOver_34 : decode cX2_pourOver 34 = .ok (.dup, 1) := by decide +kernel
theorem dX2_pourOver_35 : decode cX2_pourOver 35 = .ok (.getfield 59, 3) := by decide +kernel
theorem dX2_pourOver_38 : decode cX2_pourOver 38 = .ok (.iload_n 3, 1) := by decide +kernel
theorem dX2_pourOver_39 : decode cX2_pourOver 39 = .ok (.iadd, 1) := by decide +kernel
theorem dX2_pourOver_40 : decode cX2_pourOver 40 = .ok (.putfield 59, 3) := by decide +kernel
theorem dX2_pourOver_43 : decode cX2_pourOver 43 = .ok (.aload_n 0, 1) := by decide +kernel
theorem dX2_pourOver_44 : decode cX2_pourOver 44 = .ok (.iload_n 1, 1) := by decide +kernel
theorem dX2_pourOver_45 : decode cX2_pourOver 45 = .ok (.invokevirtual 38, 3) := by decide +kernel
theorem dX2_pourOver_48 : decode cX2_pourOver 48 = .ok (.dup, 1) := by decide +kernel
theorem dX2_pourOver_49 : decode cX2_pourOver 49 = .ok (.getfield 59, 3) := by decide +kernel
theorem dX2_pourOver_52 : decode cX2_pourOver 52 = .ok (.iload_n 3, 1) := by decide +kernel
theorem dX2_pourOver_53 : decode cX2_pourOver 53 = .ok (.isub, 1) := by decide +kernel
theorem dX2_pourOver_54 : decode cX2_pourOver 54 = .ok (.putfield 59, 3) := by decide +kernel
theorem dX2_pourOver_57 : decode cX2_pourOver 57 = .ok (.iload 4, 2) := by decide +kernel
theorem dX2_pourOver_59 : decode cX2_pourOver 59 = .ok (.ireturn, 1) := by decide +kernel
theorem dX2_blended_0 : decode cX2_blended 0 = .ok (.aload_n 0, 1) := by decide +kernel
theorem dX2_blended_1 : decode cX2_blended 1 = .ok (.iload_n 1, 1) := by decide +kernel
theorem dX2_blended_2 : decode cX2_blended 2 = .ok (.invokevirtual 38, 3) := by decide +kernel
theorem dX2_blended_5 : decode cX2_blended 5 = .ok (.getfield 59, 3) := by decide +kernel
theorem dX2_blended_8 : decode cX2_blended 8 = .ok (.aload_n 0, 1) := by decide +kernel
theorem dX2_blended_9 : decode cX2_blended 9 = .ok (.iload_n 2, 1) := by decide +kernel
theorem dX2_blended_10 : decode cX2_blended 10 = .ok (.invokevirtual 38, 3) := by decide +kernel
theorem dX2_blended_13 : decode cX2_blended 13 = .ok (.getfield 59, 3) := by decide +kernel
theorem dX2_blended_16 : decode cX2_blended 16 = .ok (.iadd, 1) := by decide +kernel
theorem dX2_blended_17 : decode cX2_blended 17 = .ok (.istore_n 3, 1) := by decide +kernel
theorem dX2_blended_18 : decode cX2_blended 18 = .ok (.iload_n 3, 1) := by decide +kernel
theorem dX2_blended_19 : decode cX2_blended 19 = .ok (.ifCond .le 25, 3) := by decide +kernel
theorem dX2_blended_22 : decode cX2_blended 22 = .ok (.aload_n 0, 1) := by decide +kernel
theorem dX2_blended_23 : decode cX2_blended 23 = .ok (.iload_n 1, 1) := by decide +kernel
theorem dX2_blended_24 : decode cX2_blended 24 = .ok (.invokevirtual 38, 3) := by decide +kernel
theorem dX2_blended_27 : decode cX2_blended 27 = .ok (.invokevirtual 91, 3) := by decide +kernel
theorem dX2_blended_30 : decode cX2_blended 30 = .ok (.aload_n 0, 1) := by decide +kernel
theorem dX2_blended_31 : decode cX2_blended 31 = .ok (.iload_n 2, 1) := by decide +kernel
theorem dX2_blended_32 : decode cX2_blended 32 = .ok (.invokevirtual 38, 3) := by decide +kernel
theorem dX2_blended_35 : decode cX2_blended 35 = .ok (.invokevirtual 91, 3) := by decide +kernel
theorem dX2_blended_38 : decode cX2_blended 38 = .ok (.iadd, 1) := by decide +kernel
theorem dX2_blended_39 : decode cX2_blended 39 = .ok (.iload_n 3, 1) := by decide +kernel
theorem dX2_blended_40 : decode cX2_blended 40 = .ok (.idiv, 1) := by decide +kernel
theorem dX2_blended_41 : decode cX2_blended 41 = .ok (.goto 5, 3) := by decide +kernel
theorem dX2_blended_44 : decode cX2_blended 44 = .ok (.bipush (-9), 2) := by decide +kernel
theorem dX2_blended_46 : decode cX2_blended 46 = .ok (.ireturn, 1) := by decide +kernel
theorem dX2_rateBy_0 : decode cX2_rateBy 0 = .ok (.iload_n 1, 1) := by decide +kernel
theorem dX2_rateBy_1 : decode cX2_rateBy 1 = .ok (.ifCond .eq 17, 3) := by decide +kernel
theorem dX2_rateBy_4 : decode cX2_rateBy 4 = .ok (.iconst 2, 1) := by decide +kernel
theorem dX2_rateBy_5 : decode cX2_rateBy 5 = .ok (.aload_n 0, 1) := by decide +kernel
theorem dX2_rateBy_6 : decode cX2_rateBy 6 = .ok (.getfield 26, 3) := by decide +kernel
theorem dX2_rateBy_9 : decode cX2_rateBy 9 = .ok (.imul, 1) := by decide +kernel
theorem dX2_rateBy_10 : decode cX2_rateBy 10 = .ok (.bipush 80, 2) := by decide +kernel
theorem dX2_rateBy_12 : decode cX2_rateBy 12 = .ok (.invokestatic 95, 3) := by decide +kernel
theorem dX2_rateBy_15 : decode cX2_rateBy 15 = .ok (.goto 7, 3) := by decide +kernel
theorem dX2_rateBy_18 : decode cX2_rateBy 18 = .ok (.aload_n 0, 1) := by decide +kernel
theorem dX2_rateBy_19 : decode cX2_rateBy 19 = .ok (.getfield 26, 3) := by decide +kernel
theorem dX2_rateBy_22 : decode cX2_rateBy 22 = .ok (.ireturn, 1) := by decide +kernel
theorem dX2_goOn_0 : decode cX2_goOn 0 = .ok (.iconst 0, 1) := by decide +kernel
theorem dX2_goOn_1 : decode cX2_goOn 1 = .ok (.istore_n 2, 1) := by decide +kernel
theorem dX2_goOn_2 : decode cX2_goOn 2 = .ok (.iload_n 2, 1) := by decide +kernel
theorem dX2_goOn_3 : decode cX2_goOn 3 = .ok (.iload_n 1, 1) := by decide +kernel
theorem dX2_goOn_4 : decode cX2_goOn 4 = .ok (.if_icmp .ge 80, 3) := by decide +kernel
theorem dX2_goOn_7 : decode cX2_goOn 7 = .ok (.aload_n 0, 1) := by decide +kernel
theorem dX2_goOn_8 : decode cX2_goOn 8 = .ok (.dup, 1) := by decide +kernel
theorem dX2_goOn_9 : decode cX2_goOn 9 = .ok (.getfield 35, 3) := by decide +kernel
theorem dX2_goOn_12 : decode cX2_goOn 12 = .ok (.iconst 1, 1) := by decide +kernel
theorem dX2_goOn_13 : decode cX2_goOn 13 = .ok (.iadd, 1) := by decide +kernel
theorem dX2_goOn_14 : decode cX2_goOn 14 = .ok (.putfield 35, 3) := by decide +kernel
theorem dX2_goOn_17 : decode cX2_goOn 17 = .ok (.aload_n 0, 1) := by decide +kernel
theorem dX2_goOn_18 : decode cX2_goOn 18 = .ok (.aload_n 0, 1) := by decide +kernel
theorem dX2_goOn_19 : decode cX2_goOn 19 = .ok (.getfield 29, 3) := by decide +kernel
theorem dX2_goOn_22 : decode cX2_goOn 22 = .ok (.ifCond .le 19, 3) := by decide +kernel
theorem dX2_goOn_25 : decode cX2_goOn 25 = .ok (.aload_n 0, 1) := by decide +kernel
theorem dX2_goOn_26 : decode cX2_goOn 26 = .ok (.getfield 35, 3) := by decide +kernel
theorem dX2_goOn_29 : decode cX2_goOn 29 = .ok (.aload_n 0, 1) := by decide +kernel
theorem dX2_goOn_30 : decode cX2_goOn 30 = .ok (.getfield 29, 3) := by decide +kernel
theorem dX2_goOn_33 : decode cX2_goOn 33 = .ok (.irem, 1) := by decide +kernel
theorem dX2_goOn_34 : decode cX2_goOn 34 = .ok (.ifCond .ne 7, 3) := by decide +kernel
theorem dX2_goOn_37 : decode cX2_goOn 37 = .ok (.iconst 1, 1) := by decide +kernel
theorem dX2_goOn_38 : decode cX2_goOn 38 = .ok (.goto 4, 3) := by decide +kernel
theorem dX2_goOn_41 : decode cX2_goOn 41 = .ok (.iconst 0, 1) := by decide +kernel
theorem dX2_goOn_42 : decode cX2_goOn 42 = .ok (.invokevirtual 100, 3) := by decide +kernel
theorem dX2_goOn_45 : decode cX2_goOn 45 = .ok (.istore_n 3, 1) := by decide +kernel
theorem dX2_goOn_46 : decode cX2_goOn 46 = .ok (.iconst 0, 1) := by decide +kernel
theorem dX2_goOn_47 : decode cX2_goOn 47 = .ok (.istore 4, 2) := by decide +kernel
theorem dX2_goOn_49 : decode cX2_goOn 49 = .ok (.iload 4, 2) := by decide +kernel
theorem dX2_goOn_51 : decode cX2_goOn 51 = .ok (.aload_n 0, 1) := by decide +kernel
theorem dX2_goOn_52 : decode cX2_goOn 52 = .ok (.getfield 22, 3) := by decide +kernel
theorem dX2_goOn_55 : decode cX2_goOn 55 = .ok (.if_icmp .ge 23, 3) := by decide +kernel
theorem dX2_goOn_58 : decode cX2_goOn 58 = .ok (.aload_n 0, 1) := by decide +kernel
theorem dX2_goOn_59 : decode cX2_goOn 59 = .ok (.iload 4, 2) := by decide +kernel
theorem dX2_goOn_61 : decode cX2_goOn 61 = .ok (.invokevirtual 38, 3) := by decide +kernel
theorem dX2_goOn_64 : decode cX2_goOn 64 = .ok (.iload_n 3, 1) := by decide +kernel
theorem dX2_goOn_65 : decode cX2_goOn 65 = .ok (.aload_n 0, 1) := by decide +kernel
theorem dX2_goOn_66 : decode cX2_goOn 66 = .ok (.getfield 35, 3) := by decide +kernel
theorem dX2_goOn_69 : decode cX2_goOn 69 = .ok (.invokevirtual 104, 3) := by decide +kernel
theorem dX2_goOn_72 : decode cX2_goOn 72 = .ok (.iinc 4 1, 3) := by decide +kernel
theorem dX2_goOn_75 : decode cX2_goOn 75 = .ok (.goto (-26), 3) := by decide +kernel
theorem dX2_goOn_78 : decode cX2_goOn 78 = .ok (.iinc 2 1, 3) := by decide +kernel
theorem dX2_goOn_81 : decode cX2_goOn 81 = .ok (.goto (-79), 3) := by decide +kernel
theorem dX2_goOn_84 : decode cX2_goOn 84 = .ok (.return_, 1) := by decide +kernel
theorem dX2_liveOn_0 : decode cX2_liveOn 0 = .ok (.iload_n 1, 1) := by decide +kernel
theorem dX2_liveOn_1 : decode cX2_liveOn 1 = .ok (.iconst 1, 1) := by decide +kernel
theorem dX2_liveOn_2 : decode cX2_liveOn 2 = .ok (.bipush 60, 2) := by decide +kernel
theorem dX2_liveOn_4 : decode cX2_liveOn 4 = .ok (.invokestatic 46, 3) := by decide +kernel
theorem dX2_liveOn_7 : decode cX2_liveOn 7 = .ok (.istore_n 2, 1) := by decide +kernel
theorem dX2_liveOn_8 : decode cX2_liveOn 8 = .ok (.iload_n 2, 1) := by decide +kernel
theorem dX2_liveOn_9 : decode cX2_liveOn 9 = .ok (.ifCond .ne 18, 3) := by decide +kernel
theorem dX2_liveOn_12 : decode cX2_liveOn 12 = .ok (.aload_n 0, 1) := by decide +kernel
theorem dX2_liveOn_13 : decode cX2_liveOn 13 = .ok (.getfield 35, 3) := by decide +kernel
theorem dX2_liveOn_16 : decode cX2_liveOn 16 = .ok (.iload_n 1, 1) := by decide +kernel
theorem dX2_liveOn_17 : decode cX2_liveOn 17 = .ok (.iadd, 1) := by decide +kernel
theorem dX2_liveOn_18 : decode cX2_liveOn 18 = .ok (.sipush 999, 3) := by decide +kernel
theorem dX2_liveOn_21 : decode cX2_liveOn 21 = .ok (.if_icmp .le 6, 3) := by decide +kernel
theorem dX2_liveOn_24 : decode cX2_liveOn 24 = .ok (.bipush (-6), 2) := by decide +kernel
theorem dX2_liveOn_26 : decode cX2_liveOn 26 = .ok (.istore_n 2, 1) := by decide +kernel
theorem dX2_liveOn_27 : decode cX2_liveOn 27 = .ok (.iload_n 2, 1) := by decide +kernel
theorem dX2_liveOn_28 : decode cX2_liveOn 28 = .ok (.ifCond .ne 8, 3) := by decide +kernel
theorem dX2_liveOn_31 : decode cX2_liveOn 31 = .ok (.aload_n 0, 1) := by decide +kernel
theorem dX2_liveOn_32 : decode cX2_liveOn 32 = .ok (.iload_n 1, 1) := by decide +kernel
theorem dX2_liveOn_33 : decode cX2_liveOn 33 = .ok (.invokevirtual 108, 3) := by decide +kernel
theorem dX2_liveOn_36 : decode cX2_liveOn 36 = .ok (.iload_n 2, 1) := by decide +kernel
theorem dX2_liveOn_37 : decode cX2_liveOn 37 = .ok (.ireturn, 1) := by decide +kernel
theorem dX2_allAmounts_0 : decode cX2_allAmounts 0 = .ok (.iconst 0, 1) := by decide +kernel
theorem dX2_allAmounts_1 : decode cX2_allAmounts 1 = .ok (.istore_n 1, 1) := by decide +kernel
theorem dX2_allAmounts_2 : decode cX2_allAmounts 2 = .ok (.iconst 0, 1) := by decide +kernel
theorem dX2_allAmounts_3 : decode cX2_allAmounts 3 = .ok (.istore_n 2, 1) := by decide +kernel
theorem dX2_allAmounts_4 : decode cX2_allAmounts 4 = .ok (.iload_n 2, 1) := by decide +kernel
theorem dX2_allAmounts_5 : decode cX2_allAmounts 5 = .ok (.aload_n 0, 1) := by decide +kernel
theorem dX2_allAmounts_6 : decode cX2_allAmounts 6 = .ok (.getfield 22, 3) := by decide +kernel
theorem dX2_allAmounts_9 : decode cX2_allAmounts 9 = .ok (.if_icmp .ge 20, 3) := by decide +kernel
theorem dX2_allAmounts_12 : decode cX2_allAmounts 12 = .ok (.iload_n 1, 1) := by decide +kernel
theorem dX2_allAmounts_13 : decode cX2_allAmounts 13 = .ok (.aload_n 0, 1) := by decide +kernel
theorem dX2_allAmounts_14 : decode cX2_allAmounts 14 = .ok (.iload_n 2, 1) := by decide +kernel
theorem dX2_allAmounts_15 : decode cX2_allAmounts 15 = .ok (.invokevirtual 38, 3) := by decide +kernel
theorem dX2_allAmounts_18 : decode cX2_allAmounts 18 = .ok (.getfield 59, 3) := by decide +kernel
theorem dX2_allAmounts_21 : decode cX2_allAmounts 21 = .ok (.iadd, 1) := by decide +kernel
theorem dX2_allAmounts_22 : decode cX2_allAmounts 22 = .ok (.istore_n 1, 1) := by decide +kernel
theorem dX2_allAmounts_23 : decode cX2_allAmounts 23 = .ok (.iinc 2 1, 3) := by decide +kernel
theorem dX2_allAmounts_26 : decode cX2_allAmounts 26 = .ok (.goto (-22), 3) := by decide +kernel
theorem dX2_allAmounts_29 : decode cX2_allAmounts 29 = .ok (.iload_n 1, 1) := by decide +kernel
theorem dX2_allAmounts_30 : decode cX2_allAmounts 30 = .ok (.ireturn, 1) := by decide +kernel
theorem dX2_allTaken_0 : decode cX2_allTaken 0 = .ok (.iconst 0, 1) := by decide +kernel
theorem dX2_allTaken_1 : decode cX2_allTaken 1 = .ok (.istore_n 1, 1) := by decide +kernel
theorem dX2_allTaken_2 : decode cX2_allTaken 2 = .ok (.iconst 0, 1) := by decide +kernel
theorem dX2_allTaken_3 : decode cX2_allTaken 3 = .ok (.istore_n 2, 1) := by decide +kernel
theorem dX2_allTaken_4 : decode cX2_allTaken 4 = .ok (.iload_n 2, 1) := by decide +kernel
theorem dX2_allTaken_5 : decode cX2_allTaken 5 = .ok (.aload_n 0, 1) := by decide +kernel
theorem dX2_allTaken_6 : decode cX2_allTaken 6 = .ok (.getfield 22, 3) := by decide +kernel
theorem dX2_allTaken_9 : decode cX2_allTaken 9 = .ok (.if_icmp .ge 20, 3) := by decide +kernel
theorem dX2_allTaken_12 : decode cX2_allTaken 12 = .ok (.iload_n 1, 1) := by decide +kernel
theorem dX2_allTaken_13 : decode cX2_allTaken 13 = .ok (.aload_n 0, 1) := by decide +kernel
theorem dX2_allTaken_14 : decode cX2_allTaken 14 = .ok (.iload_n 2, 1) := by decide +kernel
theorem dX2_allTaken_15 : decode cX2_allTaken 15 = .ok (.invokevirtual 38, 3) := by decide +kernel
theorem dX2_allTaken_18 : decode cX2_allTaken 18 = .ok (.getfield 68, 3) := by decide +kernel
theorem dX2_allTaken_21 : decode cX2_allTaken 21 = .ok (.iadd, 1) := by decide +kernel
theorem dX2_allTaken_22 : decode cX2_allTaken 22 = .ok (.istore_n 1, 1) := by decide +kernel
theorem dX2_allTaken_23 : decode cX2_allTaken 23 = .ok (.iinc 2 1, 3) := by decide +kernel
theorem dX2_allTaken_26 : decode cX2_allTaken 26 = .ok (.goto (-22), 3) := by decide +kernel
theorem dX2_allTaken_29 : decode cX2_allTaken 29 = .ok (.iload_n 1, 1) := by decide +kernel
theorem dX2_allTaken_30 : decode cX2_allTaken 30 = .ok (.ireturn, 1) := by decide +kernel
theorem dX2_fullest_0 : decode cX2_fullest 0 = .ok (.bipush (-9), 2) := by decide +kernel
theorem dX2_fullest_2 : decode cX2_fullest 2 = .ok (.istore_n 1, 1) := by decide +kernel
theorem dX2_fullest_3 : decode cX2_fullest 3 = .ok (.iconst 0, 1) := by decide +kernel
theorem dX2_fullest_4 : decode cX2_fullest 4 = .ok (.istore_n 2, 1) := by decide +kernel
theorem dX2_fullest_5 : decode cX2_fullest 5 = .ok (.iload_n 2, 1) := by decide +kernel
theorem dX2_fullest_6 : decode cX2_fullest 6 = .ok (.aload_n 0, 1) := by decide +kernel
theorem dX2_fullest_7 : decode cX2_fullest 7 = .ok (.getfield 22, 3) := by decide +kernel
theorem dX2_fullest_10 : decode cX2_fullest 10 = .ok (.if_icmp .ge 34, 3) := by decide +kernel
theorem dX2_fullest_13 : decode cX2_fullest 13 = .ok (.iload_n 1, 1) := by decide +kernel
theorem dX2_fullest_14 : decode cX2_fullest 14 = .ok (.ifCond .lt 22, 3) := by decide +kernel
theorem dX2_fullest_17 : decode cX2_fullest 17 = .ok (.aload_n 0, 1) := by decide +kernel
theorem dX2_fullest_18 : decode cX2_fullest 18 = .ok (.iload_n 2, 1) := by decide +kernel
theorem dX2_fullest_19 : decode cX2_fullest 19 = .ok (.invokevirtual 38, 3) := by decide +kernel
theorem dX2_fullest_22 : decode cX2_fullest 22 = .ok (.getfield 59, 3) := by decide +kernel
theorem dX2_fullest_25 : decode cX2_fullest 25 = .ok (.aload_n 0, 1) := by decide +kernel
theorem dX2_fullest_26 : decode cX2_fullest 26 = .ok (.iload_n 1, 1) := by decide +kernel
theorem dX2_fullest_27 : decode cX2_fullest 27 = .ok (.invokevirtual 38, 3) := by decide +kernel
theorem dX2_fullest_30 : decode cX2_fullest 30 = .ok (.getfield 59, 3) := by decide +kernel
theorem dX2_fullest_33 : decode cX2_fullest 33 = .ok (.if_icmp .le 5, 3) := by decide +kernel
theorem dX2_fullest_36 : decode cX2_fullest 36 = .ok (.iload_n 2, 1) := by decide +kernel
theorem dX2_fullest_37 : decode cX2_fullest 37 = .ok (.istore_n 1, 1) := by decide +kernel
theorem dX2_fullest_38 : decode cX2_fullest 38 = .ok (.iinc 2 1, 3) := by decide +kernel
theorem dX2_fullest_41 : decode cX2_fullest 41 = .ok (.goto (-36), 3) := by decide +kernel
theorem dX2_fullest_44 : decode cX2_fullest 44 = .ok (.iload_n 1, 1) := by decide +kernel
theorem dX2_fullest_45 : decode cX2_fullest 45 = .ok (.ireturn, 1) := by decide +kernel
theorem dX2_dutyOf_0 : decode cX2_dutyOf 0 = .ok (.aload_n 0, 1) := by decide +kernel
theorem dX2_dutyOf_1 : decode cX2_dutyOf 1 = .ok (.iload_n 1, 1) := by decide +kernel
theorem dX2_dutyOf_2 : decode cX2_dutyOf 2 = .ok (.invokevirtual 38, 3) := by decide +kernel
theorem dX2_dutyOf_5 : decode cX2_dutyOf 5 = .ok (.getfield 59, 3) := by decide +kernel
theorem dX2_dutyOf_8 : decode cX2_dutyOf 8 = .ok (.aload_n 0, 1) := by decide +kernel
theorem dX2_dutyOf_9 : decode cX2_dutyOf 9 = .ok (.iload_n 1, 1) := by decide +kernel
theorem dX2_dutyOf_10 : decode cX2_dutyOf 10 = .ok (.invokevirtual 38, 3) := by decide +kernel
theorem dX2_dutyOf_13 : decode cX2_dutyOf 13 = .ok (.getfield 68, 3) := by decide +kernel
theorem dX2_dutyOf_16 : decode cX2_dutyOf 16 = .ok (.iadd, 1) := by decide +kernel
theorem dX2_dutyOf_17 : decode cX2_dutyOf 17 = .ok (.bipush 10, 2) := by decide +kernel
theorem dX2_dutyOf_19 : decode cX2_dutyOf 19 = .ok (.idiv, 1) := by decide +kernel
theorem dX2_dutyOf_20 : decode cX2_dutyOf 20 = .ok (.aload_n 0, 1) := by decide +kernel
theorem dX2_dutyOf_21 : decode cX2_dutyOf 21 = .ok (.getfield 32, 3) := by decide +kernel
theorem dX2_dutyOf_24 : decode cX2_dutyOf 24 = .ok (.imul, 1) := by decide +kernel
theorem dX2_dutyOf_25 : decode cX2_dutyOf 25 = .ok (.ireturn, 1) := by decide +kernel
theorem dX2_dutyOfAll_0 : decode cX2_dutyOfAll 0 = .ok (.iconst 0, 1) := by decide +kernel
theorem dX2_dutyOfAll_1 : decode cX2_dutyOfAll 1 = .ok (.istore_n 1, 1) := by decide +kernel
theorem dX2_dutyOfAll_2 : decode cX2_dutyOfAll 2 = .ok (.iconst 0, 1) := by decide +kernel
theorem dX2_dutyOfAll_3 : decode cX2_dutyOfAll 3 = .ok (.istore_n 2, 1) := by decide +kernel
theorem dX2_dutyOfAll_4 : decode cX2_dutyOfAll 4 = .ok (.iload_n 2, 1) := by decide +kernel
theorem dX2_dutyOfAll_5 : decode cX2_dutyOfAll 5 = .ok (.aload_n 0, 1) := by decide +kernel
theorem dX2_dutyOfAll_6 : decode cX2_dutyOfAll 6 = .ok (.getfield 22, 3) := by decide +kernel
theorem dX2_dutyOfAll_9 : decode cX2_dutyOfAll 9 = .ok (.if_icmp .ge 17, 3) := by decide +kernel
theorem dX2_dutyOfAll_12 : decode cX2_dutyOfAll 12 = .ok (.iload_n 1, 1) := by decide +kernel
theorem dX2_dutyOfAll_13 : decode cX2_dutyOfAll 13 = .ok (.aload_n 0, 1) := by decide +kernel
theorem dX2_dutyOfAll_14 : decode cX2_dutyOfAll 14 = .ok (.iload_n 2, 1) := by decide +kernel
theorem dX2_dutyOfAll_15 : decode cX2_dutyOfAll 15 = .ok (.invokevirtual 111, 3) := by decide +kernel
theorem dX2_dutyOfAll_18 : decode cX2_dutyOfAll 18 = .ok (.iadd, 1) := by decide +kernel
theorem dX2_dutyOfAll_19 : decode cX2_dutyOfAll 19 = .ok (.istore_n 1, 1) := by decide +kernel
theorem dX2_dutyOfAll_20 : decode cX2_dutyOfAll 20 = .ok (.iinc 2 1, 3) := by decide +kernel
theorem dX2_dutyOfAll_23 : decode cX2_dutyOfAll 23 = .ok (.goto (-19), 3) := by decide +kernel
theorem dX2_dutyOfAll_26 : decode cX2_dutyOfAll 26 = .ok (.iload_n 1, 1) := by decide +kernel
theorem dX2_dutyOfAll_27 : decode cX2_dutyOfAll 27 = .ok (.ireturn, 1) := by decide +kernel
theorem dX3_letter_0 : decode cX3_letter 0 = .ok (.iload_n 1, 1) := by decide +kernel
theorem dX3_letter_1 : decode cX3_letter 1 = .ok (.iconst 0, 1) := by decide +kernel
theorem dX3_letter_2 : decode cX3_letter 2 = .ok (.sipush 255, 3) := by decide +kernel
theorem dX3_letter_5 : decode cX3_letter 5 = .ok (.invokestatic 44, 3) := by decide +kernel
theorem dX3_letter_8 : decode cX3_letter 8 = .ok (.istore_n 2, 1) := by decide +kernel
theorem dX3_letter_9 : decode cX3_letter 9 = .ok (.iload_n 2, 1) := by decide +kernel
theorem dX3_letter_10 : decode cX3_letter 10 = .ok (.ifCond .ne 16, 3) := by decide +kernel
theorem dX3_letter_13 : decode cX3_letter 13 = .ok (.aload_n 0, 1) := by decide +kernel
theorem dX3_letter_14 : decode cX3_letter 14 = .ok (.getfield 29, 3) := by decide +kernel
theorem dX3_letter_17 : decode cX3_letter 17 = .ok (.invokevirtual 48, 3) := by decide +kernel
theorem dX3_letter_20 : decode cX3_letter 20 = .ok (.ifCond .eq 6, 3) := by decide +kernel
theorem dX3_letter_23 : decode cX3_letter 23 = .ok (.bipush (-6), 2) := by decide +kernel
theorem dX3_letter_25 : decode cX3_letter 25 = .ok (.istore_n 2, 1) := by decide +kernel
theorem dX3_letter_26 : decode cX3_letter 26 = .ok (.iload_n 2, 1) := by decide +kernel
theorem dX3_letter_27 : decode cX3_letter 27 = .ok (.ifCond .ne 14, 3) := by decide +kernel
theorem dX3_letter_30 : decode cX3_letter 30 = .ok (.aload_n 0, 1) := by decide +kernel
theorem dX3_letter_31 : decode cX3_letter 31 = .ok (.getfield 29, 3) := by decide +kernel
theorem dX3_letter_34 : decode cX3_letter 34 = .ok (.iload_n 1, 1) := by decide +kernel
theorem dX3_letter_35 : decode cX3_letter 35 = .ok (.invokevirtual 52, 3) := by decide +kernel
theorem dX3_letter_38 : decode cX3_letter 38 = .ok (.goto 8, 3) := by decide +kernel
theorem dX3_letter_41 : decode cX3_letter 41 = .ok (.aload_n 0, 1) := by decide +kernel
theorem dX3_letter_42 : decode cX3_letter 42 = .ok (.iload_n 2, 1) := by decide +kernel
theorem dX3_letter_43 : decode cX3_letter 43 = .ok (.invokevirtual 56, 3) := by decide +kernel
theorem dX3_letter_46 : decode cX3_letter 46 = .ok (.ireturn, 1) := by decide +kernel
theorem dX3_town_0 : decode cX3_town 0 = .ok (.aload_n 0, 1) := by decide +kernel
theorem dX3_town_1 : decode cX3_town 1 = .ok (.invokevirtual 59, 3) := by decide +kernel
theorem dX3_town_4 : decode cX3_town 4 = .ok (.istore_n 1, 1) := by decide +kernel
theorem dX3_town_5 : decode cX3_town 5 = .ok (.aload_n 0, 1) := by decide +kernel
theorem dX3_town_6 : decode cX3_town 6 = .ok (.getfield 29, 3) := by decide +kernel
theorem dX3_town_9 : decode cX3_town 9 = .ok (.invokevirtual 63, 3) := by decide +kernel
theorem dX3_town_12 : decode cX3_town 12 = .ok (.iload_n 1, 1) := by decide +kernel
theorem dX3_town_13 : decode cX3_town 13 = .ok (.ireturn, 1) := by decide +kernel
theorem dX3_cask_0 : decode cX3_cask 0 = .ok (.aload_n 0, 1) := by decide +kernel
theorem dX3_cask_1 : decode cX3_cask 1 = .ok (.getfield 10, 3) := by decide +kernel
theorem dX3_cask_4 : decode cX3_cask 4 = .ok (.iload_n 1, 1) := by decide +kernel
theorem dX3_cask_5 : decode cX3_cask 5 = .ok (.invokevirtual 66, 3) := by decide +kernel
theorem dX3_cask_8 : decode cX3_cask 8 = .ok (.iload_n 2, 1) := by decide +kernel
theorem dX3_cask_9 : decode cX3_cask 9 = .ok (.iconst 5, 1) := by decide +kernel
theorem dX3_cask_10 : decode cX3_cask 10 = .ok (.invokestatic 69, 3) := by decide +kernel
theorem dX3_cask_13 : decode cX3_cask 13 = .ok (.iconst 0, 1) := by decide +kernel
theorem dX3_cask_14 : decode cX3_cask 14 = .ok (.invokestatic 73, 3) := by decide +kernel
theorem dX3_cask_17 : decode cX3_cask 17 = .ok (.istore_n 3, 1) := by decide +kernel
theorem dX3_cask_18 : decode cX3_cask 18 = .ok (.iload_n 3, 1) := by decide +kernel
theorem dX3_cask_19 : decode cX3_cask 19 = .ok (.ifCond .eq 9, 3) := by decide +kernel
theorem dX3_cask_22 : decode cX3_cask 22 = .ok (.aload_n 0, 1) := by decide +kernel
theorem dX3_cask_23 : decode cX3_cask 23 = .ok (.iload_n 3, 1) := by decide +kernel
theorem dX3_cask_24 : decode cX3_cask 24 = .ok (.invokevirtual 56, 3) := by decide +kernel
theorem dX3_cask_27 : decode cX3_cask 27 = .ok (.ireturn, 1) := by decide +kernel
theorem dX3_cask_28 : decode cX3_cask 28 = .ok (.aload_n 0, 1) := by decide +kernel
theorem dX3_cask_29 : decode cX3_cask 29 = .ok (.getfield 10, 3) := by decide +kernel
theorem dX3_cask_32 : decode cX3_cask 32 = .ok (.iload_n 1, 1) := by decide +kernel
theorem dX3_cask_33 : decode cX3_cask 33 = .ok (.invokevirtual 76, 3) := by decide +kernel
theorem dX3_cask_36 : decode cX3_cask 36 = .ok (.astore 4, 2) := by decide +kernel
theorem dX3_cask_38 : decode cX3_cask 38 = .ok (.iload_n 2, 1) := by decide +kernel
theorem dX3_cask_39 : decode cX3_cask 39 = .ok (.tableswitch 63 0 4 #[33, 39, 45, 51, 57], 33) := by decide +kernel
theorem dX3_cask_72 : decode cX3_cask 72 = .ok (.aload 4, 2) := by decide +kernel
theorem dX3_cask_74 : decode cX3_cask 74 = .ok (.getfield 80, 3) := by decide +kernel
theorem dX3_cask_77 : decode cX3_cask 77 = .ok (.ireturn, 1) := by decide +kernel
theorem dX3_cask_78 : decode cX3_cask 78 = .ok (.aload 4, 2) := by decide +kernel
theorem dX3_cask_80 : decode cX3_cask 80 = .ok (.getfield 85, 3) := by decide +kernel
theorem dX3_cask_83 : decode cX3_cask 83 = .ok (.ireturn, 1) := by decide +kernel
theorem dX3_cask_84 : decode cX3_cask 84 = .ok (.aload 4, 2) := by decide +kernel
theorem dX3_cask_86 : decode cX3_cask 86 = .ok (.getfield 88, 3) := by decide +kernel
theorem dX3_cask_89 : decode cX3_cask 89 = .ok (.ireturn, 1) := by decide +kernel
theorem dX3_cask_90 : decode cX3_cask 90 = .ok (.aload 4, 2) := by decide +kernel
theorem dX3_cask_92 : decode cX3_cask 92 = .ok (.getfield 91, 3) := by decide +kernel
theorem dX3_cask_95 : decode cX3_cask 95 = .ok (.ireturn, 1) := by decide +kernel
theorem dX3_cask_96 : decode cX3_cask 96 = .ok (.aload 4, 2) := by decide +kernel
theorem dX3_cask_98 : decode cX3_cask 98 = .ok (.getfield 94, 3) := by decide +kernel
theorem dX3_cask_101 : decode cX3_cask 101 = .ok (.ireturn, 1) := by decide +kernel
theorem dX3_cask_102 : decode cX3_cask 102 = .ok (.aload 4, 2) := by decide +kernel
theorem dX3_cask_104 : decode cX3_cask 104 = .ok (.getfield 97, 3) := by decide +kernel
theorem dX3_cask_107 : decode cX3_cask 107 = .ok (.ireturn, 1) := by decide +kernel
theorem dX3_set_0 : decode cX3_set 0 = .ok (.aload_n 0, 1) := by decide +kernel
theorem dX3_set_1 : decode cX3_set 1 = .ok (.getfield 10, 3) := by decide +kernel
theorem dX3_set_4 : decode cX3_set 4 = .ok (.iload_n 1, 1) := by decide +kernel
theorem dX3_set_5 : decode cX3_set 5 = .ok (.invokevirtual 100, 3) := by decide +kernel
theorem dX3_set_8 : decode cX3_set 8 = .ok (.istore_n 3, 1) := by decide +kernel
theorem dX3_set_9 : decode cX3_set 9 = .ok (.aload_n 0, 1) := by decide +kernel
theorem dX3_set_10 : decode cX3_set 10 = .ok (.getfield 10, 3) := by decide +kernel
theorem dX3_set_13 : decode cX3_set 13 = .ok (.iload_n 1, 1) := by decide +kernel
theorem dX3_set_14 : decode cX3_set 14 = .ok (.iload_n 2, 1) := by decide +kernel
theorem dX3_set_15 : decode cX3_set 15 = .ok (.invokevirtual 103, 3) := by decide +kernel
theorem dX3_set_18 : decode cX3_set 18 = .ok (.istore 4, 2) := by decide +kernel
theorem dX3_set_20 : decode cX3_set 20 = .ok (.iload 4, 2) := by decide +kernel
theorem dX3_set_22 : decode cX3_set 22 = .ok (.ifCond .ne 7, 3) := by decide +kernel
theorem dX3_set_25 : decode cX3_set 25 = .ok (.iload_n 3, 1) := by decide +kernel
theorem dX3_set_26 : decode cX3_set 26 = .ok (.goto 9, 3) := by decide +kernel
theorem dX3_set_29 : decode cX3_set 29 = .ok (.aload_n 0, 1) := by decide +kernel
theorem dX3_set_30 : decode cX3_set 30 = .ok (.iload 4, 2) := by decide +kernel
theorem dX3_set_32 : decode cX3_set 32 = .ok (.invokevirtual 56, 3) := by decide +kernel
theorem dX3_set_35 : decode cX3_set 35 = .ok (.ireturn, 1) := by decide +kernel
theorem dX3_fill_0 : decode cX3_fill 0 = .ok (.aload_n 0, 1) := by decide +kernel
theorem dX3_fill_1 : decode cX3_fill 1 = .ok (.getfield 10, 3) := by decide +kernel
theorem dX3_fill_4 : decode cX3_fill 4 = .ok (.iload_n 1, 1) := by decide +kernel
theorem dX3_fill_5 : decode cX3_fill 5 = .ok (.invokevirtual 76, 3) := by decide +kernel
theorem dX3_fill_8 : decode cX3_fill 8 = .ok (.astore_n 3, 1) := by decide +kernel
theorem dX3_fill_9 : decode cX3_fill 9 = .ok (.aload_n 0, 1) := by decide +kernel
theorem dX3_fill_10 : decode cX3_fill 10 = .ok (.getfield 10, 3) := by decide +kernel
theorem dX3_fill_13 : decode cX3_fill 13 = .ok (.iload_n 1, 1) := by decide +kernel
theorem dX3_fill_14 : decode cX3_fill 14 = .ok (.invokevirtual 66, 3) := by decide +kernel
theorem dX3_fill_17 : decode cX3_fill 17 = .ok (.iload_n 2, 1) := by decide +kernel
theorem dX3_fill_18 : decode cX3_fill 18 = .ok (.iconst 0, 1) := by decide +kernel
theorem dX3_fill_19 : decode cX3_fill 19 = .ok (.aload_n 3, 1) := by decide +kernel
theorem dX3_fill_20 : decode cX3_fill 20 = .ok (.getfield 85, 3) := by decide +kernel
theorem dX3_fill_23 : decode cX3_fill 23 = .ok (.invokestatic 44, 3) := by decide +kernel
theorem dX3_fill_26 : decode cX3_fill 26 = .ok (.iconst 0, 1) := by decide +kernel
theorem dX3_fill_27 : decode cX3_fill 27 = .ok (.invokestatic 73, 3) := by decide +kernel
theorem dX3_fill_30 : decode cX3_fill 30 = .ok (.istore 4, 2) := by decide +kernel
theorem dX3_fill_32 : decode cX3_fill 32 = .ok (.iload 4, 2) := by decide +kernel
theorem dX3_fill_34 : decode cX3_fill 34 = .ok (.ifCond .eq 10, 3) := by decide +kernel
theorem dX3_fill_37 : decode cX3_fill 37 = .ok (.aload_n 0, 1) := by decide +kernel
theorem dX3_fill_38 : decode cX3_fill 38 = .ok (.iload 4, 2) := by decide +kernel
theorem dX3_fill_40 : decode cX3_fill 40 = .ok (.invokevirtual 56, 3) := by decide +kernel
theorem dX3_fill_43 : decode cX3_fill 43 = .ok (.ireturn, 1) := by decide +kernel
theorem dX3_fill_44 : decode cX3_fill 44 = .ok (.aload_n 3, 1) := by decide +kernel
theorem dX3_fill_45 : decode cX3_fill 45 = .ok (.getfield 88, 3) := by decide +kernel
theorem dX3_fill_48 : decode cX3_fill 48 = .ok (.istore 5, 2) := by decide +kernel
theorem dX3_fill_50 : decode cX3_fill 50 = .ok (.aload_n 3, 1) := by decide +kernel
theorem dX3_fill_51 : decode cX3_fill 51 = .ok (.iload_n 2, 1) := by decide +kernel
theorem dX3_fill_52 : decode cX3_fill 52 = .ok (.putfield 88, 3) := by decide +kernel
theorem dX3_fill_55 : decode cX3_fill 55 = .ok (.iload 5, 2) := by decide +kernel
theorem dX3_fill_57 : decode cX3_fill 57 = .ok (.ireturn, 1) := by decide +kernel
theorem dX3_takes_0 : decode cX3_takes 0 = .ok (.aload_n 0, 1) := by decide +kernel
theorem dX3_takes_1 : decode cX3_takes 1 = .ok (.getfield 10, 3) := by decide +kernel
theorem dX3_takes_4 : decode cX3_takes 4 = .ok (.iload_n 1, 1) := by decide +kernel
theorem dX3_takes_5 : decode cX3_takes 5 = .ok (.invokevirtual 66, 3) := by decide +kernel
theorem dX3_takes_8 : decode cX3_takes 8 = .ok (.istore 4, 2) := by decide +kernel
theorem dX3_takes_10 : decode cX3_takes 10 = .ok (.iload 4, 2) := by decide +kernel
theorem dX3_takes_12 : decode cX3_takes 12 = .ok (.ifCond .ne 37, 3) := by decide +kernel
theorem dX3_takes_15 : decode cX3_takes 15 = .ok (.iload_n 2, 1) := by decide +kernel
theorem dX3_takes_16 : decode cX3_takes 16 = .ok (.ifCond .lt 7, 3) := by decide +kernel
theorem dX3_takes_19 : decode cX3_takes 19 = .ok (.iload_n 3, 1) := by decide +kernel
theorem dX3_takes_20 : decode cX3_takes 20 = .ok (.ifCond .ge 8, 3) := by decide +kernel
theorem dX3_takes_23 : decode cX3_takes 23 = .ok (.bipush (-4), 2) := by decide +kernel
theorem dX3_takes_25 : decode cX3_takes 25 = .ok (.goto 22, 3) := by decide +kernel
theorem dX3_takes_28 : decode cX3_takes 28 = .ok (.iload_n 2, 1) := by decide +kernel
theorem dX3_takes_29 : decode cX3_takes 29 = .ok (.sipush 400, 3) := by decide +kernel
theorem dX3_takes_32 : decode cX3_takes 32 = .ok (.if_icmp .gt 9, 3) := by decide +kernel
theorem dX3_takes_35 : decode cX3_takes 35 = .ok (.iload_n 3, 1) := by decide +kernel
theorem dX3_takes_36 : decode cX3_takes 36 = .ok (.bipush 80, 2) := by decide +kernel
theorem dX3_takes_38 : decode cX3_takes 38 = .ok (.if_icmp .le 8, 3) := by decide +kernel
theorem dX3_takes_41 : decode cX3_takes 41 = .ok (.bipush (-6), 2) := by decide +kernel
theorem dX3_takes_43 : decode cX3_takes 43 = .ok (.goto 4, 3) := by decide +kernel
theorem dX3_takes_46 : decode cX3_takes 46 = .ok (.iconst 0, 1) := by decide +kernel
theorem dX3_takes_47 : decode cX3_takes 47 = .ok (.istore 4, 2) := by decide +kernel
theorem dX3_takes_49 : decode cX3_takes 49 = .ok (.iload 4, 2) := by decide +kernel
theorem dX3_takes_51 : decode cX3_takes 51 = .ok (.ifCond .ne 19, 3) := by decide +kernel
theorem dX3_takes_54 : decode cX3_takes 54 = .ok (.aload_n 0, 1) := by decide +kernel
theorem dX3_takes_55 : decode cX3_takes 55 = .ok (.getfield 10, 3) := by decide +kernel
theorem dX3_takes_58 : decode cX3_takes 58 = .ok (.iload_n 1, 1) := by decide +kernel
theorem dX3_takes_59 : decode cX3_takes 59 = .ok (.invokevirtual 76, 3) := by decide +kernel
theorem dX3_takes_62 : decode cX3_takes 62 = .ok (.iload_n 2, 1) := by decide +kernel
theorem dX3_takes_63 : decode cX3_takes 63 = .ok (.iload_n 3, 1) := by decide +kernel
theorem dX3_takes_64 : decode cX3_takes 64 = .ok (.invokevirtual 106, 3) := by decide +kernel
theorem dX3_takes_67 : decode cX3_takes 67 = .ok (.goto 9, 3) := by decide +kernel
theorem dX3_takes_70 : decode cX3_takes 70 = .ok (.aload_n 0, 1) := by decide +kernel
theorem dX3_takes_71 : decode cX3_takes 71 = .ok (.iload 4, 2) := by decide +kernel
theorem dX3_takes_73 : decode cX3_takes 73 = .ok (.invokevirtual 56, 3) := by decide +kernel
theorem dX3_takes_76 : decode cX3_takes 76 = .ok (.ireturn, 1) := by decide +kernel
theorem dX3_pour_0 : decode cX3_pour 0 = .ok (.aload_n 0, 1) := by decide +kernel
theorem dX3_pour_1 : decode cX3_pour 1 = .ok (.getfield 10, 3) := by decide +kernel
theorem dX3_pour_4 : decode cX3_pour 4 = .ok (.iload_n 1, 1) := by decide +kernel
theorem dX3_pour_5 : decode cX3_pour 5 = .ok (.iload_n 2, 1) := by decide +kernel
theorem dX3_pour_6 : decode cX3_pour 6 = .ok (.iload_n 3, 1) := by decide +kernel
theorem dX3_pour_7 : decode cX3_pour 7 = .ok (.invokevirtual 109, 3) := by decide +kernel
theorem dX3_pour_10 : decode cX3_pour 10 = .ok (.istore 4, 2) := by decide +kernel
theorem dX3_pour_12 : decode cX3_pour 12 = .ok (.iload 4, 2) := by decide +kernel
theorem dX3_pour_14 : decode cX3_pour 14 = .ok (.ifCond .ne 17, 3) := by decide +kernel
theorem dX3_pour_17 : decode cX3_pour 17 = .ok (.aload_n 0, 1) := by decide +kernel
theorem dX3_pour_18 : decode cX3_pour 18 = .ok (.getfield 10, 3) := by decide +kernel
theorem dX3_pour_21 : decode cX3_pour 21 = .ok (.iload_n 2, 1) := by decide +kernel
theorem dX3_pour_22 : decode cX3_pour 22 = .ok (.invokevirtual 76, 3) := by decide +kernel
theorem dX3_pour_25 : decode cX3_pour 25 = .ok (.getfield 91, 3) := by decide +kernel
theorem dX3_pour_28 : decode cX3_pour 28 = .ok (.goto 9, 3) := by decide +kernel
theorem dX3_pour_31 : decode cX3_pour 31 = .ok (.aload_n 0, 1) := by decide +kernel
theorem dX3_pour_32 : decode cX3_pour 32 = .ok (.iload 4, 2) := by decide +kernel
theorem dX3_pour_34 : decode cX3_pour 34 = .ok (.invokevirtual 56, 3) := by decide +kernel
theorem dX3_pour_37 : decode cX3_pour 37 = .ok (.ireturn, 1) := by decide +kernel
theorem dX3_years_0 : decode cX3_years 0 = .ok (.aload_n 0, 1) := by decide +kernel
theorem dX3_years_1 : decode cX3_years 1 = .ok (.getfield 10, 3) := by decide +kernel
theorem dX3_years_4 : decode cX3_years 4 = .ok (.iload_n 1, 1) := by decide +kernel
theorem dX3_years_5 : decode cX3_years 5 = .ok (.invokevirtual 112, 3) := by decide +kernel
theorem dX3_years_8 : decode cX3_years 8 = .ok (.istore_n 2, 1) := by decide +kernel
theorem dX3_years_9 : decode cX3_years 9 = .ok (.iload_n 2, 1) := by decide +kernel
theorem dX3_years_10 : decode cX3_years 10 = .ok (.ifCond .ne 13, 3) := by decide +kernel
theorem dX3_years_13 : decode cX3_years 13 = .ok (.aload_n 0, 1) := by decide +kernel
theorem dX3_years_14 : decode cX3_years 14 = .ok (.getfield 10, 3) := by decide +kernel
theorem dX3_years_17 : decode cX3_years 17 = .ok (.getfield 115, 3) := by decide +kernel
theorem dX3_years_20 : decode cX3_years 20 = .ok (.goto 8, 3) := by decide +kernel
theorem dX3_years_23 : decode cX3_years 23 = .ok (.aload_n 0, 1) := by decide +kernel
theorem dX3_years_24 : decode cX3_years 24 = .ok (.iload_n 2, 1) := by decide +kernel
theorem dX3_years_25 : decode cX3_years 25 = .ok (.invokevirtual 56, 3) := by decide +kernel
theorem dX3_years_28 : decode cX3_years 28 = .ok (.ireturn, 1) := by decide +kernel
theorem dX3_behind_0 : decode cX3_behind 0 = .ok (.aload_n 0, 1) := by decide +kernel
theorem dX3_behind_1 : decode cX3_behind 1 = .ok (.getfield 10, 3) := by decide +kernel
theorem dX3_behind_4 : decode cX3_behind 4 = .ok (.iload_n 1, 1) := by decide +kernel
theorem dX3_behind_5 : decode cX3_behind 5 = .ok (.invokevirtual 66, 3) := by decide +kernel
theorem dX3_behind_8 : decode cX3_behind 8 = .ok (.iload_n 2, 1) := by decide +kernel
theorem dX3_behind_9 : decode cX3_behind 9 = .ok (.invokestatic 118, 3) := by decide +kernel
theorem dX3_behind_12 : decode cX3_behind 12 = .ok (.iload_n 3, 1) := by decide +kernel
theorem dX3_behind_13 : decode cX3_behind 13 = .ok (.iconst 2, 1) := by decide +kernel
theorem dX3_behind_14 : decode cX3_behind 14 = .ok (.invokestatic 69, 3) := by decide +kernel
theorem dX3_behind_17 : decode cX3_behind 17 = .ok (.invokestatic 73, 3) := by decide +kernel
theorem dX3_behind_20 : decode cX3_behind 20 = .ok (.istore 4, 2) := by decide +kernel
theorem dX3_behind_22 : decode cX3_behind 22 = .ok (.iload 4, 2) := by decide +kernel
theorem dX3_behind_24 : decode cX3_behind 24 = .ok (.ifCond .eq 10, 3) := by decide +kernel
theorem dX3_behind_27 : decode cX3_behind 27 = .ok (.aload_n 0, 1) := by decide +kernel
theorem dX3_behind_28 : decode cX3_behind 28 = .ok (.iload 4, 2) := by decide +kernel
theorem dX3_behind_30 : decode cX3_behind 30 = .ok (.invokevirtual 56, 3) := by decide +kernel
theorem dX3_behind_33 : decode cX3_behind 33 = .ok (.ireturn, 1) := by decide +kernel
theorem dX3_behind_34 : decode cX3_behind 34 = .ok (.aload_n 0, 1) := by decide +kernel
theorem dX3_behind_35 : decode cX3_behind 35 = .ok (.iload_n 2, 1) := by decide +kernel
theorem dX3_behind_36 : decode cX3_behind 36 = .ok (.invokevirtual 121, 3) := by decide +kernel
theorem dX3_behind_39 : decode cX3_behind 39 = .ok (.aload_n 0, 1) := by decide +kernel
theorem dX3_behind_40 : decode cX3_behind 40 = .ok (.getfield 16, 3) := by decide +kernel
theorem dX3_behind_43 : decode cX3_behind 43 = .ok (.iload_n 1, 1) := by decide +kernel
theorem dX3_behind_44 : decode cX3_behind 44 = .ok (.invokevirtual 76, 3) := by decide +kernel
theorem dX3_behind_47 : decode cX3_behind 47 = .ok (.astore 5, 2) := by decide +kernel
theorem dX3_behind_49 : decode cX3_behind 49 = .ok (.iload_n 3, 1) := by decide +kernel
theorem dX3_behind_50 : decode cX3_behind 50 = .ok (.ifCond .ne 11, 3) := by decide +kernel
theorem dX3_behind_53 : decode cX3_behind 53 = .ok (.aload 5, 2) := by decide +kernel
theorem dX3_behind_55 : decode cX3_behind 55 = .ok (.getfield 88, 3) := by decide +kernel
theorem dX3_behind_58 : decode cX3_behind 58 = .ok (.goto 21, 3) := by decide +kernel
theorem dX3_behind_61 : decode cX3_behind 61 = .ok (.iload_n 3, 1) := by decide +kernel
theorem dX3_behind_62 : decode cX3_behind 62 = .ok (.iconst 1, 1) := by decide +kernel
theorem dX3_behind_63 : decode cX3_behind 63 = .ok (.if_icmp .ne 11, 3) := by decide +kernel
theorem dX3_behind_66 : decode cX3_behind 66 = .ok (.aload 5, 2) := by decide +kernel
theorem dX3_behind_68 : decode cX3_behind 68 = .ok (.getfield 91, 3) := by decide +kernel
theorem dX3_behind_71 : decode cX3_behind 71 = .ok (.goto 8, 3) := by decide +kernel
theorem dX3_behind_74 : decode cX3_behind 74 = .ok (.aload 5, 2) := by decide +kernel
theorem dX3_behind_76 : decode cX3_behind 76 = .ok (.getfield 97, 3) := by decide +kernel
theorem dX3_behind_79 : decode cX3_behind 79 = .ok (.ireturn, 1) := by decide +kernel
theorem dX3_allBehind_0 : decode cX3_allBehind 0 = .ok (.iload_n 1, 1) := by decide +kernel
theorem dX3_allBehind_1 : decode cX3_allBehind 1 = .ok (.invokestatic 118, 3) := by decide +kernel
theorem dX3_allBehind_4 : decode cX3_allBehind 4 = .ok (.iload_n 2, 1) := by decide +kernel
theorem dX3_allBehind_5 : decode cX3_allBehind 5 = .ok (.iconst 2, 1) := by decide +kernel
theorem dX3_allBehind_6 : decode cX3_allBehind 6 = .ok (.invokestatic 69, 3) := by decide +kernel
theorem dX3_allBehind_9 : decode cX3_allBehind 9 = .ok (.iconst 0, 1) := by decide +kernel
theorem dX3_allBehind_10 : decode cX3_allBehind 10 = .ok (.invokestatic 73, 3) := by decide +kernel
theorem dX3_allBehind_13 : decode cX3_allBehind 13 = .ok (.istore_n 3, 1) := by decide +kernel
theorem dX3_allBehind_14 : decode cX3_allBehind 14 = .ok (.iload_n 3, 1) := by decide +kernel
theorem dX3_allBehind_15 : decode cX3_allBehind 15 = .ok (.ifCond .eq 9, 3) := by decide +kernel
theorem dX3_allBehind_18 : decode cX3_allBehind 18 = .ok (.aload_n 0, 1) := by decide +kernel
theorem dX3_allBehind_19 : decode cX3_allBehind 19 = .ok (.iload_n 3, 1) := by decide +kernel
theorem dX3_allBehind_20 : decode cX3_allBehind 20 = .ok (.invokevirtual 56, 3) := by decide +kernel
theorem dX3_allBehind_23 : decode cX3_allBehind 23 = .ok (.ireturn, 1) := by decide +kernel
theorem dX3_allBehind_24 : decode cX3_allBehind 24 = .ok (.aload_n 0, 1) := by decide +kernel
theorem dX3_allBehind_25 : decode cX3_allBehind 25 = .ok (.iload_n 1, 1) := by decide +kernel
theorem dX3_allBehind_26 : decode cX3_allBehind 26 = .ok (.invokevirtual 121, 3) := by decide +kernel
theorem dX3_allBehind_29 : decode cX3_allBehind 29 = .ok (.iload_n 2, 1) := by decide +kernel
theorem dX3_allBehind_30 : decode cX3_allBehind 30 = .ok (.ifCond .ne 13, 3) := by decide +kernel
theorem dX3_allBehind_33 : decode cX3_allBehind 33 = .ok (.aload_n 0, 1) := by decide +kernel
theorem dX3_allBehind_34 : decode cX3_allBehind 34 = .ok (.getfield 16, 3) := by decide +kernel
theorem dX3_allBehind_37 : decode cX3_allBehind 37 = .ok (.invokevirtual 125, 3) := by decide +kernel
theorem dX3_allBehind_40 : decode cX3_allBehind 40 = .ok (.goto 25, 3) := by decide +kernel
theorem dX3_allBehind_43 : decode cX3_allBehind 43 = .ok (.iload_n 2, 1) := by decide +kernel
theorem dX3_allBehind_44 : decode cX3_allBehind 44 = .ok (.iconst 1, 1) := by decide +kernel
theorem dX3_allBehind_45 : decode cX3_allBehind 45 = .ok (.if_icmp .ne 13, 3) := by decide +kernel
theorem dX3_allBehind_48 : decode cX3_allBehind 48 = .ok (.aload_n 0, 1) := by decide +kernel
theorem dX3_allBehind_49 : decode cX3_allBehind 49 = .ok (.getfield 16, 3) := by decide +kernel
theorem dX3_allBehind_52 : decode cX3_allBehind 52 = .ok (.invokevirtual 128, 3) := by decide +kernel
theorem dX3_allBehind_55 : decode cX3_allBehind 55 = .ok (.goto 10, 3) := by decide +kernel
theorem dX3_allBehind_58 : decode cX3_allBehind 58 = .ok (.aload_n 0, 1) := by decide +kernel
theorem dX3_allBehind_59 : decode cX3_allBehind 59 = .ok (.getfield 16, 3) := by decide +kernel
theorem dX3_allBehind_62 : decode cX3_allBehind 62 = .ok (.invokevirtual 131, 3) := by decide +kernel
theorem dX3_allBehind_65 : decode cX3_allBehind 65 = .ok (.ireturn, 1) := by decide +kernel
theorem dX3_theirs_0 : decode cX3_theirs 0 = .ok (.aload_n 0, 1) := by decide +kernel
theorem dX3_theirs_1 : decode cX3_theirs 1 = .ok (.iload_n 1, 1) := by decide +kernel
theorem dX3_theirs_2 : decode cX3_theirs 2 = .ok (.invokevirtual 134, 3) := by decide +kernel
theorem dX3_theirs_5 : decode cX3_theirs 5 = .ok (.iload_n 2, 1) := by decide +kernel
theorem dX3_theirs_6 : decode cX3_theirs 6 = .ok (.invokestatic 118, 3) := by decide +kernel
theorem dX3_theirs_9 : decode cX3_theirs 9 = .ok (.iload_n 3, 1) := by decide +kernel
theorem dX3_theirs_10 : decode cX3_theirs 10 = .ok (.iconst 1, 1) := by decide +kernel
theorem dX3_theirs_11 : decode cX3_theirs 11 = .ok (.invokestatic 69, 3) := by decide +kernel
theorem dX3_theirs_14 : decode cX3_theirs 14 = .ok (.invokestatic 73, 3) := by decide +kernel
theorem dX3_theirs_17 : decode cX3_theirs 17 = .ok (.istore 4, 2) := by decide +kernel
theorem dX3_theirs_19 : decode cX3_theirs 19 = .ok (.iload 4, 2) := by decide +kernel
theorem dX3_theirs_21 : decode cX3_theirs 21 = .ok (.ifCond .eq 10, 3) := by decide +kernel
theorem dX3_theirs_24 : decode cX3_theirs 24 = .ok (.aload_n 0, 1) := by decide +kernel
theorem dX3_theirs_25 : decode cX3_theirs 25 = .ok (.iload 4, 2) := by decide +kernel
theorem dX3_theirs_27 : decode cX3_theirs 27 = .ok (.invokevirtual 137, 3) := by decide +kernel
theorem dX3_theirs_30 : decode cX3_theirs 30 = .ok (.lreturn, 1) := by decide +kernel
theorem dX3_theirs_31 : decode cX3_theirs 31 = .ok (.aload_n 0, 1) := by decide +kernel
theorem dX3_theirs_32 : decode cX3_theirs 32 = .ok (.iload_n 2, 1) := by decide +kernel
theorem dX3_theirs_33 : decode cX3_theirs 33 = .ok (.invokevirtual 121, 3) := by decide +kernel
theorem dX3_theirs_36 : decode cX3_theirs 36 = .ok (.iload_n 1, 1) := by decide +kernel
theorem dX3_theirs_37 : decode cX3_theirs 37 = .ok (.ifCond .ge 14, 3) := by decide +kernel
theorem dX3_theirs_40 : decode cX3_theirs 40 = .ok (.aload_n 0, 1) := by decide +kernel
theorem dX3_theirs_41 : decode cX3_theirs 41 = .ok (.getfield 16, 3) := by decide +kernel
theorem dX3_theirs_44 : decode cX3_theirs 44 = .ok (.invokevirtual 125, 3) := by decide +kernel
theorem dX3_theirs_47 : decode cX3_theirs 47 = .ok (.i2l, 1) := by decide +kernel
theorem dX3_theirs_48 : decode cX3_theirs 48 = .ok (.goto 15, 3) := by decide +kernel
theorem dX3_theirs_51 : decode cX3_theirs 51 = .ok (.aload_n 0, 1) := by decide +kernel
theorem dX3_theirs_52 : decode cX3_theirs 52 = .ok (.getfield 16, 3) := by decide +kernel
theorem dX3_theirs_55 : decode cX3_theirs 55 = .ok (.iload_n 1, 1) := by decide +kernel
theorem dX3_theirs_56 : decode cX3_theirs 56 = .ok (.invokevirtual 76, 3) := by decide +kernel
theorem dX3_theirs_59 : decode cX3_theirs 59 = .ok (.getfield 88, 3) := by decide +kernel
theorem dX3_theirs_62 : decode cX3_theirs 62 = .ok (.i2l, 1) := by decide +kernel
theorem dX3_theirs_63 : decode cX3_theirs 63 = .ok (.lstore 5, 2) := by decide +kernel
theorem dX3_theirs_65 : decode cX3_theirs 65 = .ok (.iload_n 1, 1) := by decide +kernel
theorem dX3_theirs_66 : decode cX3_theirs 66 = .ok (.ifCond .ge 14, 3) := by decide +kernel
theorem dX3_theirs_69 : decode cX3_theirs 69 = .ok (.aload_n 0, 1) := by decide +kernel
theorem dX3_theirs_70 : decode cX3_theirs 70 = .ok (.getfield 16, 3) := by decide +kernel
theorem dX3_theirs_73 : decode cX3_theirs 73 = .ok (.invokevirtual 128, 3) := by decide +kernel
theorem dX3_theirs_76 : decode cX3_theirs 76 = .ok (.i2l, 1) := by decide +kernel
theorem dX3_theirs_77 : decode cX3_theirs 77 = .ok (.goto 15, 3) := by decide +kernel
theorem dX3_theirs_80 : decode cX3_theirs 80 = .ok (.aload_n 0, 1) := by decide +kernel
theorem dX3_theirs_81 : decode cX3_theirs 81 = .ok (.getfield 16, 3) := by decide +kernel
theorem dX3_theirs_84 : decode cX3_theirs 84 = .ok (.iload_n 1, 1) := by decide +kernel
theorem dX3_theirs_85 : decode cX3_theirs 85 = .ok (.invokevirtual 76, 3) := by decide +kernel
theorem dX3_theirs_88 : decode cX3_theirs 88 = .ok (.getfield 97, 3) := by decide +kernel
theorem dX3_theirs_91 : decode cX3_theirs 91 = .ok (.i2l, 1) := by decide +kernel
theorem dX3_theirs_92 : decode cX3_theirs 92 = .ok (.lstore 7, 2) := by decide +kernel
theorem dX3_theirs_94 : decode cX3_theirs 94 = .ok (.lload 7, 2) := by decide +kernel
theorem dX3_theirs_96 : decode cX3_theirs 96 = .ok (.lload 5, 2) := by decide +kernel
theorem dX3_theirs_98 : decode cX3_theirs 98 = .ok (.lload 7, 2) := by decide +kernel
theorem dX3_theirs_100 : decode cX3_theirs 100 = .ok (.ladd, 1) := by decide +kernel
theorem dX3_theirs_101 : decode cX3_theirs 101 = .ok (.iload_n 3, 1) := by decide +kernel
theorem dX3_theirs_102 : decode cX3_theirs 102 = .ok (.invokestatic 141, 3) := by decide +kernel
theorem dX3_theirs_105 : decode cX3_theirs 105 = .ok (.lreturn, 1) := by decide +kernel
theorem dX3_excise_0 : decode cX3_excise 0 = .ok (.aload_n 0, 1) := by decide +kernel
theorem dX3_excise_1 : decode cX3_excise 1 = .ok (.iload_n 1, 1) := by decide +kernel
theorem dX3_excise_2 : decode cX3_excise 2 = .ok (.invokevirtual 134, 3) := by decide +kernel
theorem dX3_excise_5 : decode cX3_excise 5 = .ok (.istore_n 2, 1) := by decide +kernel
theorem dX3_excise_6 : decode cX3_excise 6 = .ok (.iload_n 2, 1) := by decide +kernel
theorem dX3_excise_7 : decode cX3_excise 7 = .ok (.ifCond .eq 9, 3) := by decide +kernel
theorem dX3_excise_10 : decode cX3_excise 10 = .ok (.aload_n 0, 1) := by decide +kernel
theorem dX3_excise_11 : decode cX3_excise 11 = .ok (.iload_n 2, 1) := by decide +kernel
theorem dX3_excise_12 : decode cX3_excise 12 = .ok (.invokevirtual 56, 3) := by decide +kernel
theorem dX3_excise_15 : decode cX3_excise 15 = .ok (.ireturn, 1) := by decide +kernel
theorem dX3_excise_16 : decode cX3_excise 16 = .ok (.iload_n 1, 1) := by decide +kernel
theorem dX3_excise_17 : decode cX3_excise 17 = .ok (.ifCond .ge 13, 3) := by decide +kernel
theorem dX3_excise_20 : decode cX3_excise 20 = .ok (.aload_n 0, 1) := by decide +kernel
theorem dX3_excise_21 : decode cX3_excise 21 = .ok (.getfield 10, 3) := by decide +kernel
theorem dX3_excise_24 : decode cX3_excise 24 = .ok (.invokevirtual 145, 3) := by decide +kernel
theorem dX3_excise_27 : decode cX3_excise 27 = .ok (.goto 11, 3) := by decide +kernel
theorem dX3_excise_30 : decode cX3_excise 30 = .ok (.aload_n 0, 1) := by decide +kernel
theorem dX3_excise_31 : decode cX3_excise 31 = .ok (.getfield 10, 3) := by decide +kernel
theorem dX3_excise_34 : decode cX3_excise 34 = .ok (.iload_n 1, 1) := by decide +kernel
theorem dX3_excise_35 : decode cX3_excise 35 = .ok (.invokevirtual 148, 3) := by decide +kernel
theorem dX3_excise_38 : decode cX3_excise 38 = .ok (.ireturn, 1) := by decide +kernel
theorem dX3_exciseIn_0 : decode cX3_exciseIn 0 = .ok (.iload_n 1, 1) := by decide +kernel
theorem dX3_exciseIn_1 : decode cX3_exciseIn 1 = .ok (.invokestatic 118, 3) := by decide +kernel
theorem dX3_exciseIn_4 : decode cX3_exciseIn 4 = .ok (.istore_n 2, 1) := by decide +kernel
theorem dX3_exciseIn_5 : decode cX3_exciseIn 5 = .ok (.iload_n 2, 1) := by decide +kernel
theorem dX3_exciseIn_6 : decode cX3_exciseIn 6 = .ok (.ifCond .eq 9, 3) := by decide +kernel
theorem dX3_exciseIn_9 : decode cX3_exciseIn 9 = .ok (.aload_n 0, 1) := by decide +kernel
theorem dX3_exciseIn_10 : decode cX3_exciseIn 10 = .ok (.iload_n 2, 1) := by decide +kernel
theorem dX3_exciseIn_11 : decode cX3_exciseIn 11 = .ok (.invokevirtual 56, 3) := by decide +kernel
theorem dX3_exciseIn_14 : decode cX3_exciseIn 14 = .ok (.ireturn, 1) := by decide +kernel
theorem dX3_exciseIn_15 : decode cX3_exciseIn 15 = .ok (.iconst 0, 1) := by decide +kernel
theorem dX3_exciseIn_16 : decode cX3_exciseIn 16 = .ok (.istore_n 3, 1) := by decide +kernel
theorem dX3_exciseIn_17 : decode cX3_exciseIn 17 = .ok (.aload_n 0, 1) := by decide +kernel
theorem dX3_exciseIn_18 : decode cX3_exciseIn 18 = .ok (.getfield 16, 3) := by decide +kernel
theorem dX3_exciseIn_21 : decode cX3_exciseIn 21 = .ok (.aload_n 0, 1) := by decide +kernel
theorem dX3_exciseIn_22 : decode cX3_exciseIn 22 = .ok (.getfield 10, 3) := by decide +kernel
theorem dX3_exciseIn_25 : decode cX3_exciseIn 25 = .ok (.invokevirtual 151, 3) := by decide +kernel
theorem dX3_exciseIn_28 : decode cX3_exciseIn 28 = .ok (.iconst 0, 1) := by decide +kernel
theorem dX3_exciseIn_29 : decode cX3_exciseIn 29 = .ok (.istore 4, 2) := by decide +kernel
theorem dX3_exciseIn_31 : decode cX3_exciseIn 31 = .ok (.iload 4, 2) := by decide +kernel
theorem dX3_exciseIn_33 : decode cX3_exciseIn 33 = .ok (.iload_n 1, 1) := by decide +kernel
theorem dX3_exciseIn_34 : decode cX3_exciseIn 34 = .ok (.if_icmp .ge 27, 3) := by decide +kernel
theorem dX3_exciseIn_37 : decode cX3_exciseIn 37 = .ok (.aload_n 0, 1) := by decide +kernel
theorem dX3_exciseIn_38 : decode cX3_exciseIn 38 = .ok (.getfield 16, 3) := by decide +kernel
theorem dX3_exciseIn_41 : decode cX3_exciseIn 41 = .ok (.iconst 1, 1) := by decide +kernel
theorem dX3_exciseIn_42 : decode cX3_exciseIn 42 = .ok (.invokevirtual 155, 3) := by decide +kernel
theorem dX3_exciseIn_45 : decode cX3_exciseIn 45 = .ok (.iload_n 3, 1) := by decide +kernel
theorem dX3_exciseIn_46 : decode cX3_exciseIn 46 = .ok (.aload_n 0, 1) := by decide +kernel
theorem dX3_exciseIn_47 : decode cX3_exciseIn 47 = .ok (.getfield 16, 3) := by decide +kernel
theorem dX3_exciseIn_50 : decode cX3_exciseIn 50 = .ok (.invokevirtual 145, 3) := by decide +kernel
theorem dX3_exciseIn_53 : decode cX3_exciseIn 53 = .ok (.iadd, 1) := by decide +kernel
theorem dX3_exciseIn_54 : decode cX3_exciseIn 54 = .ok (.istore_n 3, 1) := by decide +kernel
theorem dX3_exciseIn_55 : decode cX3_exciseIn 55 = .ok (.iinc 4 1, 3) := by decide +kernel
theorem dX3_exciseIn_58 : decode cX3_exciseIn 58 = .ok (.goto (-27), 3) := by decide +kernel
theorem dX3_exciseIn_61 : decode cX3_exciseIn 61 = .ok (.iload_n 3, 1) := by decide +kernel
theorem dX3_exciseIn_62 : decode cX3_exciseIn 62 = .ok (.ireturn, 1) := by decide +kernel
theorem dX3_low_0 : decode cX3_low 0 = .ok (.aload_n 0, 1) := by decide +kernel
theorem dX3_low_1 : decode cX3_low 1 = .ok (.getfield 10, 3) := by decide +kernel
theorem dX3_low_4 : decode cX3_low 4 = .ok (.iload_n 1, 1) := by decide +kernel
theorem dX3_low_5 : decode cX3_low 5 = .ok (.invokevirtual 66, 3) := by decide +kernel
theorem dX3_low_8 : decode cX3_low 8 = .ok (.iload_n 2, 1) := by decide +kernel
theorem dX3_low_9 : decode cX3_low 9 = .ok (.iconst 0, 1) := by decide +kernel
theorem dX3_low_10 : decode cX3_low 10 = .ok (.sipush 400, 3) := by decide +kernel
theorem dX3_low_13 : decode cX3_low 13 = .ok (.invokestatic 44, 3) := by decide +kernel
theorem dX3_low_16 : decode cX3_low 16 = .ok (.iconst 0, 1) := by decide +kernel
theorem dX3_low_17 : decode cX3_low 17 = .ok (.invokestatic 73, 3) := by decide +kernel
theorem dX3_low_20 : decode cX3_low 20 = .ok (.istore_n 3, 1) := by decide +kernel
theorem dX3_low_21 : decode cX3_low 21 = .ok (.iload_n 3, 1) := by decide +kernel
theorem dX3_low_22 : decode cX3_low 22 = .ok (.ifCond .eq 9, 3) := by decide +kernel
theorem dX3_low_25 : decode cX3_low 25 = .ok (.aload_n 0, 1) := by decide +kernel
theorem dX3_low_26 : decode cX3_low 26 = .ok (.iload_n 3, 1) := by decide +kernel
theorem dX3_low_27 : decode cX3_low 27 = .ok (.invokevirtual 56, 3) := by decide +kernel
theorem dX3_low_30 : decode cX3_low 30 = .ok (.ireturn, 1) := by decide +kernel
theorem dX3_low_31 : decode cX3_low 31 = .ok (.aload_n 0, 1) := by decide +kernel
theorem dX3_low_32 : decode cX3_low 32 = .ok (.getfield 16, 3) := by decide +kernel
theorem dX3_low_35 : decode cX3_low 35 = .ok (.aload_n 0, 1) := by decide +kernel
theorem dX3_low_36 : decode cX3_low 36 = .ok (.getfield 10, 3) := by decide +kernel
theorem dX3_low_39 : decode cX3_low 39 = .ok (.invokevirtual 151, 3) := by decide +kernel
theorem dX3_low_42 : decode cX3_low 42 = .ok (.iconst 0, 1) := by decide +kernel
theorem dX3_low_43 : decode cX3_low 43 = .ok (.istore 4, 2) := by decide +kernel
theorem dX3_low_45 : decode cX3_low 45 = .ok (.iload 4, 2) := by decide +kernel
theorem dX3_low_47 : decode cX3_low 47 = .ok (.sipush 200, 3) := by decide +kernel
theorem dX3_low_50 : decode cX3_low 50 = .ok (.if_icmp .gt 35, 3) := by decide +kernel
theorem dX3_low_53 : decode cX3_low 53 = .ok (.aload_n 0, 1) := by decide +kernel
theorem dX3_low_54 : decode cX3_low 54 = .ok (.getfield 16, 3) := by decide +kernel
theorem dX3_low_57 : decode cX3_low 57 = .ok (.iload_n 1, 1) := by decide +kernel
theorem dX3_low_58 : decode cX3_low 58 = .ok (.invokevirtual 76, 3) := by decide +kernel
theorem dX3_low_61 : decode cX3_low 61 = .ok (.getfield 88, 3) := by decide +kernel
theorem dX3_low_64 : decode cX3_low 64 = .ok (.iload_n 2, 1) := by decide +kernel
theorem dX3_low_65 : decode cX3_low 65 = .ok (.if_icmp .gt 6, 3) := by decide +kernel
theorem dX3_low_68 : decode cX3_low 68 = .ok (.iload 4, 2) := by decide +kernel
theorem dX3_low_70 : decode cX3_low 70 = .ok (.ireturn, 1) := by decide +kernel
theorem dX3_low_71 : decode cX3_low 71 = .ok (.aload_n 0, 1) := by decide +kernel
theorem dX3_low_72 : decode cX3_low 72 = .ok (.getfield 16, 3) := by decide +kernel
theorem dX3_low_75 : decode cX3_low 75 = .ok (.iconst 1, 1) := by decide +kernel
theorem dX3_low_76 : decode cX3_low 76 = .ok (.invokevirtual 155, 3) := by decide +kernel
theorem dX3_low_79 : decode cX3_low 79 = .ok (.iinc 4 1, 3) := by decide +kernel
theorem dX3_low_82 : decode cX3_low 82 = .ok (.goto (-37), 3) := by decide +kernel
theorem dX3_low_85 : decode cX3_low 85 = .ok (.bipush (-9), 2) := by decide +kernel
theorem dX3_low_87 : decode cX3_low 87 = .ok (.ireturn, 1) := by decide +kernel
theorem dX3_turns_0 : decode cX3_turns 0 = .ok (.aload_n 0, 1) := by decide +kernel
theorem dX3_turns_1 : decode cX3_turns 1 = .ok (.getfield 16, 3) := by decide +kernel
theorem dX3_turns_4 : decode cX3_turns 4 = .ok (.aload_n 0, 1) := by decide +kernel
theorem dX3_turns_5 : decode cX3_turns 5 = .ok (.getfield 10, 3) := by decide +kernel
theorem dX3_turns_8 : decode cX3_turns 8 = .ok (.invokevirtual 151, 3) := by decide +kernel
theorem dX3_turns_11 : decode cX3_turns 11 = .ok (.iconst 1, 1) := by decide +kernel
theorem dX3_turns_12 : decode cX3_turns 12 = .ok (.istore_n 1, 1) := by decide +kernel
theorem dX3_turns_13 : decode cX3_turns 13 = .ok (.iload_n 1, 1) := by decide +kernel
theorem dX3_turns_14 : decode cX3_turns 14 = .ok (.sipush 200, 3) := by decide +kernel
theorem dX3_turns_17 : decode cX3_turns 17 = .ok (.if_icmp .gt 38, 3) := by decide +kernel
theorem dX3_turns_20 : decode cX3_turns 20 = .ok (.aload_n 0, 1) := by decide +kernel
theorem dX3_turns_21 : decode cX3_turns 21 = .ok (.getfield 16, 3) := by decide +kernel
theorem dX3_turns_24 : decode cX3_turns 24 = .ok (.invokevirtual 128, 3) := by decide +kernel
theorem dX3_turns_27 : decode cX3_turns 27 = .ok (.istore_n 2, 1) := by decide +kernel
theorem dX3_turns_28 : decode cX3_turns 28 = .ok (.aload_n 0, 1) := by decide +kernel
theorem dX3_turns_29 : decode cX3_turns 29 = .ok (.getfield 16, 3) := by decide +kernel
theorem dX3_turns_32 : decode cX3_turns 32 = .ok (.iconst 1, 1) := by decide +kernel
theorem dX3_turns_33 : decode cX3_turns 33 = .ok (.invokevirtual 155, 3) := by decide +kernel
theorem dX3_turns_36 : decode cX3_turns 36 = .ok (.aload_n 0, 1) := by decide +kernel
theorem dX3_turns_37 : decode cX3_turns 37 = .ok (.getfield 16, 3) := by decide +kernel
theorem dX3_turns_40 : decode cX3_turns 40 = .ok (.invokevirtual 128, 3) := by decide +kernel
theorem dX3_turns_43 : decode cX3_turns 43 = .ok (.iload_n 2, 1) := by decide +kernel
theorem dX3_turns_44 : decode cX3_turns 44 = .ok (.if_icmp .ge 5, 3) := by decide +kernel
theorem dX3_turns_47 : decode cX3_turns 47 = .ok (.iload_n 1, 1) := by decide +kernel
theorem dX3_turns_48 : decode cX3_turns 48 = .ok (.ireturn, 1) := by decide +kernel
theorem dX3_turns_49 : decode cX3_turns 49 = .ok (.iinc 1 1, 3) := by decide +kernel
theorem dX3_turns_52 : decode cX3_turns 52 = .ok (.goto (-39), 3) := by decide +kernel
theorem dX3_turns_55 : decode cX3_turns 55 = .ok (.bipush (-9), 2) := by decide +kernel
theorem dX3_turns_57 : decode cX3_turns 57 = .ok (.ireturn, 1) := by decide +kernel
theorem dX3_hum_0 : decode cX3_hum 0 = .ok (.aload_n 0, 1) := by decide +kernel
theorem dX3_hum_1 : decode cX3_hum 1 = .ok (.getfield 10, 3) := by decide +kernel
theorem dX3_hum_4 : decode cX3_hum 4 = .ok (.iload_n 1, 1) := by decide +kernel
theorem dX3_hum_5 : decode cX3_hum 5 = .ok (.invokevirtual 66, 3) := by decide +kernel
theorem dX3_hum_8 : decode cX3_hum 8 = .ok (.istore_n 2, 1) := by decide +kernel
theorem dX3_hum_9 : decode cX3_hum 9 = .ok (.iload_n 2, 1) := by decide +kernel
theorem dX3_hum_10 : decode cX3_hum 10 = .ok (.ifCond .eq 9, 3) := by decide +kernel
theorem dX3_hum_13 : decode cX3_hum 13 = .ok (.aload_n 0, 1) := by decide +kernel
theorem dX3_hum_14 : decode cX3_hum 14 = .ok (.iload_n 2, 1) := by decide +kernel
theorem dX3_hum_15 : decode cX3_hum 15 = .ok (.invokevirtual 56, 3) := by decide +kernel
theorem dX3_hum_18 : decode cX3_hum 18 = .ok (.ireturn, 1) := by decide +kernel
theorem dX3_hum_19 : decode cX3_hum 19 = .ok (.aload_n 0, 1) := by decide +kernel
theorem dX3_hum_20 : decode cX3_hum 20 = .ok (.getfield 16, 3) := by decide +kernel
theorem dX3_hum_23 : decode cX3_hum 23 = .ok (.aload_n 0, 1) := by decide +kernel
theorem dX3_hum_24 : decode cX3_hum 24 = .ok (.getfield 10, 3) := by decide +kernel
theorem dX3_hum_27 : decode cX3_hum 27 = .ok (.invokevirtual 151, 3) := by decide +kernel
theorem dX3_hum_30 : decode cX3_hum 30 = .ok (.iconst 0, 1) := by decide +kernel
theorem dX3_hum_31 : decode cX3_hum 31 = .ok (.istore_n 3, 1) := by decide +kernel
theorem dX3_hum_32 : decode cX3_hum 32 = .ok (.iload_n 3, 1) := by decide +kernel
theorem dX3_hum_33 : decode cX3_hum 33 = .ok (.sipush 200, 3) := by decide +kernel
theorem dX3_hum_36 : decode cX3_hum 36 = .ok (.if_icmp .gt 33, 3) := by decide +kernel
theorem dX3_hum_39 : decode cX3_hum 39 = .ok (.aload_n 0, 1) := by decide +kernel
theorem dX3_hum_40 : decode cX3_hum 40 = .ok (.getfield 16, 3) := by decide +kernel
theorem dX3_hum_43 : decode cX3_hum 43 = .ok (.iload_n 1, 1) := by decide +kernel
theorem dX3_hum_44 : decode cX3_hum 44 = .ok (.invokevirtual 76, 3) := by decide +kernel
theorem dX3_hum_47 : decode cX3_hum 47 = .ok (.invokevirtual 158, 3) := by decide +kernel
theorem dX3_hum_50 : decode cX3_hum 50 = .ok (.ifCond .eq 5, 3) := by decide +kernel
theorem dX3_hum_53 : decode cX3_hum 53 = .ok (.iload_n 3, 1) := by decide +kernel
theorem dX3_hum_54 : decode cX3_hum 54 = .ok (.ireturn, 1) := by decide +kernel
theorem dX3_hum_55 : decode cX3_hum 55 = .ok (.aload_n 0, 1) := by decide +kernel
theorem dX3_hum_56 : decode cX3_hum 56 = .ok (.getfield 16, 3) := by decide +kernel
theorem dX3_hum_59 : decode cX3_hum 59 = .ok (.iconst 1, 1) := by decide +kernel
theorem dX3_hum_60 : decode cX3_hum 60 = .ok (.invokevirtual 155, 3) := by decide +kernel
theorem dX3_hum_63 : decode cX3_hum 63 = .ok (.iinc 3 1, 3) := by decide +kernel
theorem dX3_hum_66 : decode cX3_hum 66 = .ok (.goto (-34), 3) := by decide +kernel
theorem dX3_hum_69 : decode cX3_hum 69 = .ok (.bipush (-9), 2) := by decide +kernel
theorem dX3_hum_71 : decode cX3_hum 71 = .ok (.ireturn, 1) := by decide +kernel
theorem dX3_pourFor_0 : decode cX3_pourFor 0 = .ok (.aload_n 0, 1) := by decide +kernel
theorem dX3_pourFor_1 : decode cX3_pourFor 1 = .ok (.getfield 10, 3) := by decide +kernel
theorem dX3_pourFor_4 : decode cX3_pourFor 4 = .ok (.iload_n 1, 1) := by decide +kernel
theorem dX3_pourFor_5 : decode cX3_pourFor 5 = .ok (.invokevirtual 66, 3) := by decide +kernel
theorem dX3_pourFor_8 : decode cX3_pourFor 8 = .ok (.iload_n 2, 1) := by decide +kernel
theorem dX3_pourFor_9 : decode cX3_pourFor 9 = .ok (.iconst 0, 1) := by decide +kernel
theorem dX3_pourFor_10 : decode cX3_pourFor 10 = .ok (.bipush 99, 2) := by decide +kernel
theorem dX3_pourFor_12 : decode cX3_pourFor 12 = .ok (.invokestatic 44, 3) := by decide +kernel
theorem dX3_pourFor_15 : decode cX3_pourFor 15 = .ok (.iconst 0, 1) := by decide +kernel
theorem dX3_pourFor_16 : decode cX3_pourFor 16 = .ok (.invokestatic 73, 3) := by decide +kernel
theorem dX3_pourFor_19 : decode cX3_pourFor 19 = .ok (.istore_n 3, 1) := by decide +kernel
theorem dX3_pourFor_20 : decode cX3_pourFor 20 = .ok (.iload_n 3, 1) := by decide +kernel
theorem dX3_pourFor_21 : decode cX3_pourFor 21 = .ok (.ifCond .eq 9, 3) := by decide +kernel
theorem dX3_pourFor_24 : decode cX3_pourFor 24 = .ok (.aload_n 0, 1) := by decide +kernel
theorem dX3_pourFor_25 : decode cX3_pourFor 25 = .ok (.iload_n 3, 1) := by decide +kernel
theorem dX3_pourFor_26 : decode cX3_pourFor 26 = .ok (.invokevirtual 56, 3) := by decide +kernel
theorem dX3_pourFor_29 : decode cX3_pourFor 29 = .ok (.ireturn, 1) := by decide +kernel
theorem dX3_pourFor_30 : decode cX3_pourFor 30 = .ok (.iconst 1, 1) := by decide +kernel
theorem dX3_pourFor_31 : decode cX3_pourFor 31 = .ok (.istore 4, 2) := by decide +kernel
theorem dX3_pourFor_33 : decode cX3_pourFor 33 = .ok (.iload 4, 2) := by decide +kernel
theorem dX3_pourFor_35 : decode cX3_pourFor 35 = .ok (.sipush 400, 3) := by decide +kernel
theorem dX3_pourFor_38 : decode cX3_pourFor 38 = .ok (.if_icmp .gt 71, 3) := by decide +kernel
theorem dX3_pourFor_41 : decode cX3_pourFor 41 = .ok (.iconst 0, 1) := by decide +kernel
theorem dX3_pourFor_42 : decode cX3_pourFor 42 = .ok (.istore 5, 2) := by decide +kernel
theorem dX3_pourFor_44 : decode cX3_pourFor 44 = .ok (.iload 5, 2) := by decide +kernel
theorem dX3_pourFor_46 : decode cX3_pourFor 46 = .ok (.aload_n 0, 1) := by decide +kernel
theorem dX3_pourFor_47 : decode cX3_pourFor 47 = .ok (.getfield 10, 3) := by decide +kernel
theorem dX3_pourFor_50 : decode cX3_pourFor 50 = .ok (.getfield 161, 3) := by decide +kernel
theorem dX3_pourFor_53 : decode cX3_pourFor 53 = .ok (.if_icmp .ge 50, 3) := by decide +kernel
theorem dX3_pourFor_56 : decode cX3_pourFor 56 = .ok (.aload_n 0, 1) := by decide +kernel
theorem dX3_pourFor_57 : decode cX3_pourFor 57 = .ok (.getfield 10, 3) := by decide +kernel
theorem dX3_pourFor_60 : decode cX3_pourFor 60 = .ok (.iload 5, 2) := by decide +kernel
theorem dX3_pourFor_62 : decode cX3_pourFor 62 = .ok (.iload_n 1, 1) := by decide +kernel
theorem dX3_pourFor_63 : decode cX3_pourFor 63 = .ok (.iload 4, 2) := by decide +kernel
theorem dX3_pourFor_65 : decode cX3_pourFor 65 = .ok (.invokevirtual 164, 3) := by decide +kernel
theorem dX3_pourFor_68 : decode cX3_pourFor 68 = .ok (.ifCond .ne 29, 3) := by decide +kernel
theorem dX3_pourFor_71 : decode cX3_pourFor 71 = .ok (.aload_n 0, 1) := by decide +kernel
theorem dX3_pourFor_72 : decode cX3_pourFor 72 = .ok (.getfield 10, 3) := by decide +kernel
theorem dX3_pourFor_75 : decode cX3_pourFor 75 = .ok (.iload 5, 2) := by decide +kernel
theorem dX3_pourFor_77 : decode cX3_pourFor 77 = .ok (.iload_n 1, 1) := by decide +kernel
theorem dX3_pourFor_78 : decode cX3_pourFor 78 = .ok (.iload 4, 2) := by decide +kernel
theorem dX3_pourFor_80 : decode cX3_pourFor 80 = .ok (.invokevirtual 167, 3) := by decide +kernel
theorem dX3_pourFor_83 : decode cX3_pourFor 83 = .ok (.iload_n 2, 1) := by decide +kernel
theorem dX3_pourFor_84 : decode cX3_pourFor 84 = .ok (.if_icmp .ne 13, 3) := by decide +kernel
theorem dX3_pourFor_87 : decode cX3_pourFor 87 = .ok (.sipush 1000, 3) := by decide +kernel
theorem dX3_pourFor_90 : decode cX3_pourFor 90 = .ok (.iload 5, 2) := by decide +kernel
theorem dX3_pourFor_92 : decode cX3_pourFor 92 = .ok (.imul, 1) := by decide +kernel
theorem dX3_pourFor_93 : decode cX3_pourFor 93 = .ok (.iload 4, 2) := by decide +kernel
theorem dX3_pourFor_95 : decode cX3_pourFor 95 = .ok (.iadd, 1) := by decide +kernel
theorem dX3_pourFor_96 : decode cX3_pourFor 96 = .ok (.ireturn, 1) := by decide +kernel
theorem dX3_pourFor_97 : decode cX3_pourFor 97 = .ok (.iinc 5 1, 3) := by decide +kernel
theorem dX3_pourFor_100 : decode cX3_pourFor 100 = .ok (.goto (-56), 3) := by decide +kernel
theorem dX3_pourFor_103 : decode cX3_pourFor 103 = .ok (.iinc 4 1, 3) := by decide +kernel
theorem dX3_pourFor_106 : decode cX3_pourFor 106 = .ok (.goto (-73), 3) := by decide +kernel
theorem dX3_pourFor_109 : decode cX3_pourFor 109 = .ok (.bipush (-9), 2) := by decide +kernel
theorem dX3_pourFor_111 : decode cX3_pourFor 111 = .ok (.ireturn, 1) := by decide +kernel
theorem dX3_blend_0 : decode cX3_blend 0 = .ok (.iload_n 1, 1) := by decide +kernel
theorem dX3_blend_1 : decode cX3_blend 1 = .ok (.iconst 0, 1) := by decide +kernel
theorem dX3_blend_2 : decode cX3_blend 2 = .ok (.bipush 99, 2) := by decide +kernel
theorem dX3_blend_4 : decode cX3_blend 4 = .ok (.invokestatic 44, 3) := by decide +kernel
theorem dX3_blend_7 : decode cX3_blend 7 = .ok (.istore_n 2, 1) := by decide +kernel
theorem dX3_blend_8 : decode cX3_blend 8 = .ok (.iload_n 2, 1) := by decide +kernel
theorem dX3_blend_9 : decode cX3_blend 9 = .ok (.ifCond .eq 9, 3) := by decide +kernel
theorem dX3_blend_12 : decode cX3_blend 12 = .ok (.aload_n 0, 1) := by decide +kernel
theorem dX3_blend_13 : decode cX3_blend 13 = .ok (.iload_n 2, 1) := by decide +kernel
theorem dX3_blend_14 : decode cX3_blend 14 = .ok (.invokevirtual 56, 3) := by decide +kernel
theorem dX3_blend_17 : decode cX3_blend 17 = .ok (.ireturn, 1) := by decide +kernel
theorem dX3_blend_18 : decode cX3_blend 18 = .ok (.bipush (-9), 2) := by decide +kernel
theorem dX3_blend_20 : decode cX3_blend 20 = .ok (.istore_n 3, 1) := by decide +kernel
theorem dX3_blend_21 : decode cX3_blend 21 = .ok (.bipush 100, 2) := by decide +kernel
theorem dX3_blend_23 : decode cX3_blend 23 = .ok (.istore 4, 2) := by decide +kernel
theorem dX3_blend_25 : decode cX3_blend 25 = .ok (.iconst 0, 1) := by decide +kernel
theorem dX3_blend_26 : decode cX3_blend 26 = .ok (.istore 5, 2) := by decide +kernel
theorem dX3_blend_28 : decode cX3_blend 28 = .ok (.iload 5, 2) := by decide +kernel
theorem dX3_blend_30 : decode cX3_blend 30 = .ok (.aload_n 0, 1) := by decide +kernel
theorem dX3_blend_31 : decode cX3_blend 31 = .ok (.getfield 10, 3) := by decide +kernel
theorem dX3_blend_34 : decode cX3_blend 34 = .ok (.getfield 161, 3) := by decide +kernel
theorem dX3_blend_37 : decode cX3_blend 37 = .ok (.if_icmp .ge 81, 3) := by decide +kernel
theorem dX3_blend_40 : decode cX3_blend 40 = .ok (.iload 5, 2) := by decide +kernel
theorem dX3_blend_42 : decode cX3_blend 42 = .ok (.iconst 1, 1) := by decide +kernel
theorem dX3_blend_43 : decode cX3_blend 43 = .ok (.iadd, 1) := by decide +kernel
theorem dX3_blend_44 : decode cX3_blend 44 = .ok (.istore 6, 2) := by decide +kernel
theorem dX3_blend_46 : decode cX3_blend 46 = .ok (.iload 6, 2) := by decide +kernel
theorem dX3_blend_48 : decode cX3_blend 48 = .ok (.aload_n 0, 1) := by decide +kernel
theorem dX3_blend_49 : decode cX3_blend 49 = .ok (.getfield 10, 3) := by decide +kernel
theorem dX3_blend_52 : decode cX3_blend 52 = .ok (.getfield 161, 3) := by decide +kernel
theorem dX3_blend_55 : decode cX3_blend 55 = .ok (.if_icmp .ge 57, 3) := by decide +kernel
theorem dX3_blend_58 : decode cX3_blend 58 = .ok (.aload_n 0, 1) := by decide +kernel
theorem dX3_blend_59 : decode cX3_blend 59 = .ok (.getfield 10, 3) := by decide +kernel
theorem dX3_blend_62 : decode cX3_blend 62 = .ok (.iload 5, 2) := by decide +kernel
theorem dX3_blend_64 : decode cX3_blend 64 = .ok (.iload 6, 2) := by decide +kernel
theorem dX3_blend_66 : decode cX3_blend 66 = .ok (.invokevirtual 170, 3) := by decide +kernel
theorem dX3_blend_69 : decode cX3_blend 69 = .ok (.istore 7, 2) := by decide +kernel
theorem dX3_blend_71 : decode cX3_blend 71 = .ok (.iload 7, 2) := by decide +kernel
theorem dX3_blend_73 : decode cX3_blend 73 = .ok (.ifCond .lt 33, 3) := by decide +kernel
theorem dX3_blend_76 : decode cX3_blend 76 = .ok (.iload 7, 2) := by decide +kernel
theorem dX3_blend_78 : decode cX3_blend 78 = .ok (.iload_n 1, 1) := by decide +kernel
theorem dX3_blend_79 : decode cX3_blend 79 = .ok (.isub, 1) := by decide +kernel
theorem dX3_blend_80 : decode cX3_blend 80 = .ok (.invokestatic 173, 3) := by decide +kernel
theorem dX3_blend_83 : decode cX3_blend 83 = .ok (.iload 4, 2) := by decide +kernel
theorem dX3_blend_85 : decode cX3_blend 85 = .ok (.if_icmp .ge 21, 3) := by decide +kernel
theorem dX3_blend_88 : decode cX3_blend 88 = .ok (.iload 7, 2) := by decide +kernel
theorem dX3_blend_90 : decode cX3_blend 90 = .ok (.iload_n 1, 1) := by decide +kernel
theorem dX3_blend_91 : decode cX3_blend 91 = .ok (.isub, 1) := by decide +kernel
theorem dX3_blend_92 : decode cX3_blend 92 = .ok (.invokestatic 173, 3) := by decide +kernel
theorem dX3_blend_95 : decode cX3_blend 95 = .ok (.istore 4, 2) := by decide +kernel
theorem dX3_blend_97 : decode cX3_blend 97 = .ok (.bipush 10, 2) := by decide +kernel
theorem dX3_blend_99 : decode cX3_blend 99 = .ok (.iload 5, 2) := by decide +kernel
theorem dX3_blend_101 : decode cX3_blend 101 = .ok (.imul, 1) := by decide +kernel
theorem dX3_blend_102 : decode cX3_blend 102 = .ok (.iload 6, 2) := by decide +kernel
theorem dX3_blend_104 : decode cX3_blend 104 = .ok (.iadd, 1) := by decide +kernel
theorem dX3_blend_105 : decode cX3_blend 105 = .ok (.istore_n 3, 1) := by decide +kernel
theorem dX3_blend_106 : decode cX3_blend 106 = .ok (.iinc 6 1, 3) := by decide +kernel
theorem dX3_blend_109 : decode cX3_blend 109 = .ok (.goto (-63), 3) := by decide +kernel
theorem dX3_blend_112 : decode cX3_blend 112 = .ok (.iinc 5 1, 3) := by decide +kernel
theorem dX3_blend_115 : decode cX3_blend 115 = .ok (.goto (-87), 3) := by decide +kernel
theorem dX3_blend_118 : decode cX3_blend 118 = .ok (.iload_n 3, 1) := by decide +kernel
theorem dX3_blend_119 : decode cX3_blend 119 = .ok (.ireturn, 1) := by decide +kernel
theorem dX3_spread_0 : decode cX3_spread 0 = .ok (.bipush 100, 2) := by decide +kernel
theorem dX3_spread_2 : decode cX3_spread 2 = .ok (.istore_n 1, 1) := by decide +kernel
theorem dX3_spread_3 : decode cX3_spread 3 = .ok (.iconst (-1), 1) := by decide +kernel
theorem dX3_spread_4 : decode cX3_spread 4 = .ok (.istore_n 2, 1) := by decide +kernel
theorem dX3_spread_5 : decode cX3_spread 5 = .ok (.iconst 0, 1) := by decide +kernel
theorem dX3_spread_6 : decode cX3_spread 6 = .ok (.istore_n 3, 1) := by decide +kernel
theorem dX3_spread_7 : decode cX3_spread 7 = .ok (.iload_n 3, 1) := by decide +kernel
theorem dX3_spread_8 : decode cX3_spread 8 = .ok (.aload_n 0, 1) := by decide +kernel
theorem dX3_spread_9 : decode cX3_spread 9 = .ok (.getfield 10, 3) := by decide +kernel
theorem dX3_spread_12 : decode cX3_spread 12 = .ok (.getfield 161, 3) := by decide +kernel
theorem dX3_spread_15 : decode cX3_spread 15 = .ok (.if_icmp .ge 47, 3) := by decide +kernel
theorem dX3_spread_18 : decode cX3_spread 18 = .ok (.aload_n 0, 1) := by decide +kernel
theorem dX3_spread_19 : decode cX3_spread 19 = .ok (.getfield 10, 3) := by decide +kernel
theorem dX3_spread_22 : decode cX3_spread 22 = .ok (.iload_n 3, 1) := by decide +kernel
theorem dX3_spread_23 : decode cX3_spread 23 = .ok (.invokevirtual 76, 3) := by decide +kernel
theorem dX3_spread_26 : decode cX3_spread 26 = .ok (.astore 4, 2) := by decide +kernel
theorem dX3_spread_28 : decode cX3_spread 28 = .ok (.aload 4, 2) := by decide +kernel
theorem dX3_spread_30 : decode cX3_spread 30 = .ok (.getfield 88, 3) := by decide +kernel
theorem dX3_spread_33 : decode cX3_spread 33 = .ok (.ifCond .le 23, 3) := by decide +kernel
theorem dX3_spread_36 : decode cX3_spread 36 = .ok (.iload_n 1, 1) := by decide +kernel
theorem dX3_spread_37 : decode cX3_spread 37 = .ok (.aload 4, 2) := by decide +kernel
theorem dX3_spread_39 : decode cX3_spread 39 = .ok (.getfield 91, 3) := by decide +kernel
theorem dX3_spread_42 : decode cX3_spread 42 = .ok (.invokestatic 178, 3) := by decide +kernel
theorem dX3_spread_45 : decode cX3_spread 45 = .ok (.istore_n 1, 1) := by decide +kernel
theorem dX3_spread_46 : decode cX3_spread 46 = .ok (.iload_n 2, 1) := by decide +kernel
theorem dX3_spread_47 : decode cX3_spread 47 = .ok (.aload 4, 2) := by decide +kernel
theorem dX3_spread_49 : decode cX3_spread 49 = .ok (.getfield 91, 3) := by decide +kernel
theorem dX3_spread_52 : decode cX3_spread 52 = .ok (.invokestatic 181, 3) := by decide +kernel
theorem dX3_spread_55 : decode cX3_spread 55 = .ok (.istore_n 2, 1) := by decide +kernel
theorem dX3_spread_56 : decode cX3_spread 56 = .ok (.iinc 3 1, 3) := by decide +kernel
theorem dX3_spread_59 : decode cX3_spread 59 = .ok (.goto (-52), 3) := by decide +kernel
theorem dX3_spread_62 : decode cX3_spread 62 = .ok (.iload_n 2, 1) := by decide +kernel
theorem dX3_spread_63 : decode cX3_spread 63 = .ok (.ifCond .ge 8, 3) := by decide +kernel
theorem dX3_spread_66 : decode cX3_spread 66 = .ok (.bipush (-9), 2) := by decide +kernel
theorem dX3_spread_68 : decode cX3_spread 68 = .ok (.goto 6, 3) := by decide +kernel
theorem dX3_spread_71 : decode cX3_spread 71 = .ok (.iload_n 2, 1) := by decide +kernel
theorem dX3_spread_72 : decode cX3_spread 72 = .ok (.iload_n 1, 1) := by decide +kernel
theorem dX3_spread_73 : decode cX3_spread 73 = .ok (.isub, 1) := by decide +kernel
theorem dX3_spread_74 : decode cX3_spread 74 = .ok (.ireturn, 1) := by decide +kernel
theorem dX3_layDown_0 : decode cX3_layDown 0 = .ok (.iload_n 1, 1) := by decide +kernel
theorem dX3_layDown_1 : decode cX3_layDown 1 = .ok (.invokestatic 118, 3) := by decide +kernel
theorem dX3_layDown_4 : decode cX3_layDown 4 = .ok (.istore_n 2, 1) := by decide +kernel
theorem dX3_layDown_5 : decode cX3_layDown 5 = .ok (.iload_n 2, 1) := by decide +kernel
theorem dX3_layDown_6 : decode cX3_layDown 6 = .ok (.ifCond .eq 9, 3) := by decide +kernel
theorem dX3_layDown_9 : decode cX3_layDown 9 = .ok (.aload_n 0, 1) := by decide +kernel
theorem dX3_layDown_10 : decode cX3_layDown 10 = .ok (.iload_n 2, 1) := by decide +kernel
theorem dX3_layDown_11 : decode cX3_layDown 11 = .ok (.invokevirtual 56, 3) := by decide +kernel
theorem dX3_layDown_14 : decode cX3_layDown 14 = .ok (.ireturn, 1) := by decide +kernel
theorem dX3_layDown_15 : decode cX3_layDown 15 = .ok (.aload_n 0, 1) := by decide +kernel
theorem dX3_layDown_16 : decode cX3_layDown 16 = .ok (.iload_n 1, 1) := by decide +kernel
theorem dX3_layDown_17 : decode cX3_layDown 17 = .ok (.invokevirtual 121, 3) := by decide +kernel
theorem dX3_layDown_20 : decode cX3_layDown 20 = .ok (.bipush (-9), 2) := by decide +kernel
theorem dX3_layDown_22 : decode cX3_layDown 22 = .ok (.istore_n 3, 1) := by decide +kernel
theorem dX3_layDown_23 : decode cX3_layDown 23 = .ok (.iconst (-1), 1) := by decide +kernel
theorem dX3_layDown_24 : decode cX3_layDown 24 = .ok (.istore 4, 2) := by decide +kernel
theorem dX3_layDown_26 : decode cX3_layDown 26 = .ok (.iconst 0, 1) := by decide +kernel
theorem dX3_layDown_27 : decode cX3_layDown 27 = .ok (.istore 5, 2) := by decide +kernel
theorem dX3_layDown_29 : decode cX3_layDown 29 = .ok (.iload 5, 2) := by decide +kernel
theorem dX3_layDown_31 : decode cX3_layDown 31 = .ok (.aload_n 0, 1) := by decide +kernel
theorem dX3_layDown_32 : decode cX3_layDown 32 = .ok (.getfield 16, 3) := by decide +kernel
theorem dX3_layDown_35 : decode cX3_layDown 35 = .ok (.getfield 161, 3) := by decide +kernel
theorem dX3_layDown_38 : decode cX3_layDown 38 = .ok (.if_icmp .ge 43, 3) := by decide +kernel
theorem dX3_layDown_41 : decode cX3_layDown 41 = .ok (.aload_n 0, 1) := by decide +kernel
theorem dX3_layDown_42 : decode cX3_layDown 42 = .ok (.getfield 16, 3) := by decide +kernel
theorem dX3_layDown_45 : decode cX3_layDown 45 = .ok (.iload 5, 2) := by decide +kernel
theorem dX3_layDown_47 : decode cX3_layDown 47 = .ok (.invokevirtual 76, 3) := by decide +kernel
theorem dX3_layDown_50 : decode cX3_layDown 50 = .ok (.invokevirtual 184, 3) := by decide +kernel
theorem dX3_layDown_53 : decode cX3_layDown 53 = .ok (.iload 4, 2) := by decide +kernel
theorem dX3_layDown_55 : decode cX3_layDown 55 = .ok (.if_icmp .le 20, 3) := by decide +kernel
theorem dX3_layDown_58 : decode cX3_layDown 58 = .ok (.aload_n 0, 1) := by decide +kernel
theorem dX3_layDown_59 : decode cX3_layDown 59 = .ok (.getfield 16, 3) := by decide +kernel
theorem dX3_layDown_62 : decode cX3_layDown 62 = .ok (.iload 5, 2) := by decide +kernel
theorem dX3_layDown_64 : decode cX3_layDown 64 = .ok (.invokevirtual 76, 3) := by decide +kernel
theorem dX3_layDown_67 : decode cX3_layDown 67 = .ok (.invokevirtual 184, 3) := by decide +kernel
theorem dX3_layDown_70 : decode cX3_layDown 70 = .ok (.istore 4, 2) := by decide +kernel
theorem dX3_layDown_72 : decode cX3_layDown 72 = .ok (.iload 5, 2) := by decide +kernel
theorem dX3_layDown_74 : decode cX3_layDown 74 = .ok (.istore_n 3, 1) := by decide +kernel
theorem dX3_layDown_75 : decode cX3_layDown 75 = .ok (.iinc 5 1, 3) := by decide +kernel
theorem dX3_layDown_78 : decode cX3_layDown 78 = .ok (.goto (-49), 3) := by decide +kernel
theorem dX3_layDown_81 : decode cX3_layDown 81 = .ok (.iload_n 3, 1) := by decide +kernel
theorem dX3_layDown_82 : decode cX3_layDown 82 = .ok (.ireturn, 1) := by decide +kernel
theorem dX3_sell_0 : decode cX3_sell 0 = .ok (.iload_n 1, 1) := by decide +kernel
theorem dX3_sell_1 : decode cX3_sell 1 = .ok (.invokestatic 118, 3) := by decide +kernel
theorem dX3_sell_4 : decode cX3_sell 4 = .ok (.istore_n 2, 1) := by decide +kernel
theorem dX3_sell_5 : decode cX3_sell 5 = .ok (.iload_n 2, 1) := by decide +kernel
theorem dX3_sell_6 : decode cX3_sell 6 = .ok (.ifCond .eq 9, 3) := by decide +kernel
theorem dX3_sell_9 : decode cX3_sell 9 = .ok (.aload_n 0, 1) := by decide +kernel
theorem dX3_sell_10 : decode cX3_sell 10 = .ok (.iload_n 2, 1) := by decide +kernel
theorem dX3_sell_11 : decode cX3_sell 11 = .ok (.invokevirtual 56, 3) := by decide +kernel
theorem dX3_sell_14 : decode cX3_sell 14 = .ok (.ireturn, 1) := by decide +kernel
theorem dX3_sell_15 : decode cX3_sell 15 = .ok (.aload_n 0, 1) := by decide +kernel
theorem dX3_sell_16 : decode cX3_sell 16 = .ok (.iload_n 1, 1) := by decide +kernel
theorem dX3_sell_17 : decode cX3_sell 17 = .ok (.invokevirtual 121, 3) := by decide +kernel
theorem dX3_sell_20 : decode cX3_sell 20 = .ok (.bipush (-9), 2) := by decide +kernel
theorem dX3_sell_22 : decode cX3_sell 22 = .ok (.istore_n 3, 1) := by decide +kernel
theorem dX3_sell_23 : decode cX3_sell 23 = .ok (.iconst 0, 1) := by decide +kernel
theorem dX3_sell_24 : decode cX3_sell 24 = .ok (.istore 4, 2) := by decide +kernel
theorem dX3_sell_26 : decode cX3_sell 26 = .ok (.iload 4, 2) := by decide +kernel
theorem dX3_sell_28 : decode cX3_sell 28 = .ok (.aload_n 0, 1) := by decide +kernel
theorem dX3_sell_29 : decode cX3_sell 29 = .ok (.getfield 10, 3) := by decide +kernel
theorem dX3_sell_32 : decode cX3_sell 32 = .ok (.getfield 161, 3) := by decide +kernel
theorem dX3_sell_35 : decode cX3_sell 35 = .ok (.if_icmp .ge 41, 3) := by decide +kernel
theorem dX3_sell_38 : decode cX3_sell 38 = .ok (.aload_n 0, 1) := by decide +kernel
theorem dX3_sell_39 : decode cX3_sell 39 = .ok (.getfield 10, 3) := by decide +kernel
theorem dX3_sell_42 : decode cX3_sell 42 = .ok (.iload 4, 2) := by decide +kernel
theorem dX3_sell_44 : decode cX3_sell 44 = .ok (.invokevirtual 76, 3) := by decide +kernel
theorem dX3_sell_47 : decode cX3_sell 47 = .ok (.getfield 88, 3) := by decide +kernel
theorem dX3_sell_50 : decode cX3_sell 50 = .ok (.ifCond .le 20, 3) := by decide +kernel
theorem dX3_sell_53 : decode cX3_sell 53 = .ok (.iload_n 3, 1) := by decide +kernel
theorem dX3_sell_54 : decode cX3_sell 54 = .ok (.ifCond .lt 13, 3) := by decide +kernel
theorem dX3_sell_57 : decode cX3_sell 57 = .ok (.aload_n 0, 1) := by decide +kernel
theorem dX3_sell_58 : decode cX3_sell 58 = .ok (.iload 4, 2) := by decide +kernel
theorem dX3_sell_60 : decode cX3_sell 60 = .ok (.iload_n 3, 1) := by decide +kernel
theorem dX3_sell_61 : decode cX3_sell 61 = .ok (.invokevirtual 187, 3) := by decide +kernel
theorem dX3_sell_64 : decode cX3_sell 64 = .ok (.ifCond .eq 6, 3) := by decide +kernel
theorem dX3_sell_67 : decode cX3_sell 67 = .ok (.iload 4, 2) := by decide +kernel
theorem dX3_sell_69 : decode cX3_sell 69 = .ok (.istore_n 3, 1) := by decide +kernel
theorem dX3_sell_70 : decode cX3_sell 70 = .ok (.iinc 4 1, 3) := by decide +kernel
theorem dX3_sell_73 : decode cX3_sell 73 = .ok (.goto (-47), 3) := by decide +kernel
theorem dX3_sell_76 : decode cX3_sell 76 = .ok (.iload_n 3, 1) := by decide +kernel
theorem dX3_sell_77 : decode cX3_sell 77 = .ok (.ireturn, 1) := by decide +kernel
theorem dX3_treaty_0 : decode cX3_treaty 0 = .ok (.iload_n 1, 1) := by decide +kernel
theorem dX3_treaty_1 : decode cX3_treaty 1 = .ok (.invokestatic 118, 3) := by decide +kernel
theorem dX3_treaty_4 : decode cX3_treaty 4 = .ok (.istore_n 2, 1) := by decide +kernel
theorem dX3_treaty_5 : decode cX3_treaty 5 = .ok (.iload_n 2, 1) := by decide +kernel
theorem dX3_treaty_6 : decode cX3_treaty 6 = .ok (.ifCond .eq 9, 3) := by decide +kernel
theorem dX3_treaty_9 : decode cX3_treaty 9 = .ok (.aload_n 0, 1) := by decide +kernel
theorem dX3_treaty_10 : decode cX3_treaty 10 = .ok (.iload_n 2, 1) := by decide +kernel
theorem dX3_treaty_11 : decode cX3_treaty 11 = .ok (.invokevirtual 56, 3) := by decide +kernel
theorem dX3_treaty_14 : decode cX3_treaty 14 = .ok (.ireturn, 1) := by decide +kernel
theorem dX3_treaty_15 : decode cX3_treaty 15 = .ok (.iconst 0, 1) := by decide +kernel
theorem dX3_treaty_16 : decode cX3_treaty 16 = .ok (.istore_n 3, 1) := by decide +kernel
theorem dX3_treaty_17 : decode cX3_treaty 17 = .ok (.iload_n 3, 1) := by decide +kernel
theorem dX3_treaty_18 : decode cX3_treaty 18 = .ok (.iconst 2, 1) := by decide +kernel
theorem dX3_treaty_19 : decode cX3_treaty 19 = .ok (.if_icmp .ge 43, 3) := by decide +kernel
theorem dX3_treaty_22 : decode cX3_treaty 22 = .ok (.iconst 0, 1) := by decide +kernel
theorem dX3_treaty_23 : decode cX3_treaty 23 = .ok (.istore 4, 2) := by decide +kernel
theorem dX3_treaty_25 : decode cX3_treaty 25 = .ok (.iload 4, 2) := by decide +kernel
theorem dX3_treaty_27 : decode cX3_treaty 27 = .ok (.iconst 2, 1) := by decide +kernel
theorem dX3_treaty_28 : decode cX3_treaty 28 = .ok (.if_icmp .ge 28, 3) := by decide +kernel
theorem dX3_treaty_31 : decode cX3_treaty 31 = .ok (.aload_n 0, 1) := by decide +kernel
theorem dX3_treaty_32 : decode cX3_treaty 32 = .ok (.iload_n 1, 1) := by decide +kernel
theorem dX3_treaty_33 : decode cX3_treaty 33 = .ok (.iload_n 3, 1) := by decide +kernel
theorem dX3_treaty_34 : decode cX3_treaty 34 = .ok (.iload 4, 2) := by decide +kernel
theorem dX3_treaty_36 : decode cX3_treaty 36 = .ok (.invokevirtual 191, 3) := by decide +kernel
theorem dX3_treaty_39 : decode cX3_treaty 39 = .ok (.ifCond .eq 11, 3) := by decide +kernel
theorem dX3_treaty_42 : decode cX3_treaty 42 = .ok (.bipush 10, 2) := by decide +kernel
theorem dX3_treaty_44 : decode cX3_treaty 44 = .ok (.iload_n 3, 1) := by decide +kernel
theorem dX3_treaty_45 : decode cX3_treaty 45 = .ok (.imul, 1) := by decide +kernel
theorem dX3_treaty_46 : decode cX3_treaty 46 = .ok (.iload 4, 2) := by decide +kernel
theorem dX3_treaty_48 : decode cX3_treaty 48 = .ok (.iadd, 1) := by decide +kernel
theorem dX3_treaty_49 : decode cX3_treaty 49 = .ok (.ireturn, 1) := by decide +kernel
theorem dX3_treaty_50 : decode cX3_treaty 50 = .ok (.iinc 4 1, 3) := by decide +kernel
theorem dX3_treaty_53 : decode cX3_treaty 53 = .ok (.goto (-28), 3) := by decide +kernel
theorem dX3_treaty_56 : decode cX3_treaty 56 = .ok (.iinc 3 1, 3) := by decide +kernel
theorem dX3_treaty_59 : decode cX3_treaty 59 = .ok (.goto (-42), 3) := by decide +kernel
theorem dX3_treaty_62 : decode cX3_treaty 62 = .ok (.bipush (-9), 2) := by decide +kernel
theorem dX3_treaty_64 : decode cX3_treaty 64 = .ok (.ireturn, 1) := by decide +kernel
theorem dX3_bestSet_0 : decode cX3_bestSet 0 = .ok (.iload_n 1, 1) := by decide +kernel
theorem dX3_bestSet_1 : decode cX3_bestSet 1 = .ok (.invokestatic 118, 3) := by decide +kernel
theorem dX3_bestSet_4 : decode cX3_bestSet 4 = .ok (.iload_n 2, 1) := by decide +kernel
theorem dX3_bestSet_5 : decode cX3_bestSet 5 = .ok (.iconst 1, 1) := by decide +kernel
theorem dX3_bestSet_6 : decode cX3_bestSet 6 = .ok (.invokestatic 69, 3) := by decide +kernel
theorem dX3_bestSet_9 : decode cX3_bestSet 9 = .ok (.iconst 0, 1) := by decide +kernel
theorem dX3_bestSet_10 : decode cX3_bestSet 10 = .ok (.invokestatic 73, 3) := by decide +kernel
theorem dX3_bestSet_13 : decode cX3_bestSet 13 = .ok (.istore_n 3, 1) := by decide +kernel
theorem dX3_bestSet_14 : decode cX3_bestSet 14 = .ok (.iload_n 3, 1) := by decide +kernel
theorem dX3_bestSet_15 : decode cX3_bestSet 15 = .ok (.ifCond .eq 9, 3) := by decide +kernel
theorem dX3_bestSet_18 : decode cX3_bestSet 18 = .ok (.aload_n 0, 1) := by decide +kernel
theorem dX3_bestSet_19 : decode cX3_bestSet 19 = .ok (.iload_n 3, 1) := by decide +kernel
theorem dX3_bestSet_20 : decode cX3_bestSet 20 = .ok (.invokevirtual 56, 3) := by decide +kernel
theorem dX3_bestSet_23 : decode cX3_bestSet 23 = .ok (.ireturn, 1) := by decide +kernel
theorem dX3_bestSet_24 : decode cX3_bestSet 24 = .ok (.bipush (-9), 2) := by decide +kernel
theorem dX3_bestSet_26 : decode cX3_bestSet 26 = .ok (.istore 4, 2) := by decide +kernel
theorem dX3_bestSet_28 : decode cX3_bestSet 28 = .ok (.iconst (-1), 1) := by decide +kernel
theorem dX3_bestSet_29 : decode cX3_bestSet 29 = .ok (.istore 5, 2) := by decide +kernel
theorem dX3_bestSet_31 : decode cX3_bestSet 31 = .ok (.iload_n 2, 1) := by decide +kernel
theorem dX3_bestSet_32 : decode cX3_bestSet 32 = .ok (.invokestatic 195, 3) := by decide +kernel
theorem dX3_bestSet_35 : decode cX3_bestSet 35 = .ok (.istore 6, 2) := by decide +kernel
theorem dX3_bestSet_37 : decode cX3_bestSet 37 = .ok (.iload 6, 2) := by decide +kernel
theorem dX3_bestSet_39 : decode cX3_bestSet 39 = .ok (.iload_n 2, 1) := by decide +kernel
theorem dX3_bestSet_40 : decode cX3_bestSet 40 = .ok (.invokestatic 198, 3) := by decide +kernel
theorem dX3_bestSet_43 : decode cX3_bestSet 43 = .ok (.if_icmp .gt 64, 3) := by decide +kernel
theorem dX3_bestSet_46 : decode cX3_bestSet 46 = .ok (.aload_n 0, 1) := by decide +kernel
theorem dX3_bestSet_47 : decode cX3_bestSet 47 = .ok (.getfield 16, 3) := by decide +kernel
theorem dX3_bestSet_50 : decode cX3_bestSet 50 = .ok (.aload_n 0, 1) := by decide +kernel
theorem dX3_bestSet_51 : decode cX3_bestSet 51 = .ok (.getfield 10, 3) := by decide +kernel
theorem dX3_bestSet_54 : decode cX3_bestSet 54 = .ok (.invokevirtual 151, 3) := by decide +kernel
theorem dX3_bestSet_57 : decode cX3_bestSet 57 = .ok (.aload_n 0, 1) := by decide +kernel
theorem dX3_bestSet_58 : decode cX3_bestSet 58 = .ok (.getfield 16, 3) := by decide +kernel
theorem dX3_bestSet_61 : decode cX3_bestSet 61 = .ok (.iload_n 2, 1) := by decide +kernel
theorem dX3_bestSet_62 : decode cX3_bestSet 62 = .ok (.iload 6, 2) := by decide +kernel
theorem dX3_bestSet_64 : decode cX3_bestSet 64 = .ok (.invokevirtual 103, 3) := by decide +kernel
theorem dX3_bestSet_67 : decode cX3_bestSet 67 = .ok (.pop, 1) := by decide +kernel
theorem dX3_bestSet_68 : decode cX3_bestSet 68 = .ok (.aload_n 0, 1) := by decide +kernel
theorem dX3_bestSet_69 : decode cX3_bestSet 69 = .ok (.getfield 16, 3) := by decide +kernel
theorem dX3_bestSet_72 : decode cX3_bestSet 72 = .ok (.iload_n 1, 1) := by decide +kernel
theorem dX3_bestSet_73 : decode cX3_bestSet 73 = .ok (.invokevirtual 155, 3) := by decide +kernel
theorem dX3_bestSet_76 : decode cX3_bestSet 76 = .ok (.aload_n 0, 1) := by decide +kernel
theorem dX3_bestSet_77 : decode cX3_bestSet 77 = .ok (.getfield 16, 3) := by decide +kernel
theorem dX3_bestSet_80 : decode cX3_bestSet 80 = .ok (.invokevirtual 128, 3) := by decide +kernel
theorem dX3_bestSet_83 : decode cX3_bestSet 83 = .ok (.iload 5, 2) := by decide +kernel
theorem dX3_bestSet_85 : decode cX3_bestSet 85 = .ok (.if_icmp .le 16, 3) := by decide +kernel
theorem dX3_bestSet_88 : decode cX3_bestSet 88 = .ok (.aload_n 0, 1) := by decide +kernel
theorem dX3_bestSet_89 : decode cX3_bestSet 89 = .ok (.getfield 16, 3) := by decide +kernel
theorem dX3_bestSet_92 : decode cX3_bestSet 92 = .ok (.invokevirtual 128, 3) := by decide +kernel
theorem dX3_bestSet_95 : decode cX3_bestSet 95 = .ok (.istore 5, 2) := by decide +kernel
theorem dX3_bestSet_97 : decode cX3_bestSet 97 = .ok (.iload 6, 2) := by decide +kernel
theorem dX3_bestSet_99 : decode cX3_bestSet 99 = .ok (.istore 4, 2) := by decide +kernel
theorem dX3_bestSet_101 : decode cX3_bestSet 101 = .ok (.iinc 6 1, 3) := by decide +kernel
theorem dX3_bestSet_104 : decode cX3_bestSet 104 = .ok (.goto (-67), 3) := by decide +kernel
theorem dX3_bestSet_107 : decode cX3_bestSet 107 = .ok (.iload 4, 2) := by decide +kernel
theorem dX3_bestSet_109 : decode cX3_bestSet 109 = .ok (.ireturn, 1) := by decide +kernel
theorem dX3_iron_0 : decode cX3_iron 0 = .ok (.iload_n 1, 1) := by decide +kernel
theorem dX3_iron_1 : decode cX3_iron 1 = .ok (.invokestatic 118, 3) := by decide +kernel
theorem dX3_iron_4 : decode cX3_iron 4 = .ok (.istore_n 2, 1) := by decide +kernel
theorem dX3_iron_5 : decode cX3_iron 5 = .ok (.iload_n 2, 1) := by decide +kernel
theorem dX3_iron_6 : decode cX3_iron 6 = .ok (.ifCond .eq 9, 3) := by decide +kernel
theorem dX3_iron_9 : decode cX3_iron 9 = .ok (.aload_n 0, 1) := by decide +kernel
theorem dX3_iron_10 : decode cX3_iron 10 = .ok (.iload_n 2, 1) := by decide +kernel
theorem dX3_iron_11 : decode cX3_iron 11 = .ok (.invokevirtual 56, 3) := by decide +kernel
theorem dX3_iron_14 : decode cX3_iron 14 = .ok (.ireturn, 1) := by decide +kernel
theorem dX3_iron_15 : decode cX3_iron 15 = .ok (.aload_n 0, 1) := by decide +kernel
theorem dX3_iron_16 : decode cX3_iron 16 = .ok (.iload_n 1, 1) := by decide +kernel
theorem dX3_iron_17 : decode cX3_iron 17 = .ok (.invokevirtual 121, 3) := by decide +kernel
theorem dX3_iron_20 : decode cX3_iron 20 = .ok (.bipush (-9), 2) := by decide +kernel
theorem dX3_iron_22 : decode cX3_iron 22 = .ok (.istore_n 3, 1) := by decide +kernel
theorem dX3_iron_23 : decode cX3_iron 23 = .ok (.aload_n 0, 1) := by decide +kernel
theorem dX3_iron_24 : decode cX3_iron 24 = .ok (.getfield 16, 3) := by decide +kernel
theorem dX3_iron_27 : decode cX3_iron 27 = .ok (.invokevirtual 125, 3) := by decide +kernel
theorem dX3_iron_30 : decode cX3_iron 30 = .ok (.istore 4, 2) := by decide +kernel
theorem dX3_iron_32 : decode cX3_iron 32 = .ok (.iconst 0, 1) := by decide +kernel
theorem dX3_iron_33 : decode cX3_iron 33 = .ok (.istore 5, 2) := by decide +kernel
theorem dX3_iron_35 : decode cX3_iron 35 = .ok (.iload 5, 2) := by decide +kernel
theorem dX3_iron_37 : decode cX3_iron 37 = .ok (.aload_n 0, 1) := by decide +kernel
theorem dX3_iron_38 : decode cX3_iron 38 = .ok (.getfield 10, 3) := by decide +kernel
theorem dX3_iron_41 : decode cX3_iron 41 = .ok (.getfield 161, 3) := by decide +kernel
theorem dX3_iron_44 : decode cX3_iron 44 = .ok (.if_icmp .ge 65, 3) := by decide +kernel
theorem dX3_iron_47 : decode cX3_iron 47 = .ok (.aload_n 0, 1) := by decide +kernel
theorem dX3_iron_48 : decode cX3_iron 48 = .ok (.getfield 16, 3) := by decide +kernel
theorem dX3_iron_51 : decode cX3_iron 51 = .ok (.aload_n 0, 1) := by decide +kernel
theorem dX3_iron_52 : decode cX3_iron 52 = .ok (.getfield 10, 3) := by decide +kernel
theorem dX3_iron_55 : decode cX3_iron 55 = .ok (.invokevirtual 151, 3) := by decide +kernel
theorem dX3_iron_58 : decode cX3_iron 58 = .ok (.aload_n 0, 1) := by decide +kernel
theorem dX3_iron_59 : decode cX3_iron 59 = .ok (.getfield 16, 3) := by decide +kernel
theorem dX3_iron_62 : decode cX3_iron 62 = .ok (.iload 5, 2) := by decide +kernel
theorem dX3_iron_64 : decode cX3_iron 64 = .ok (.invokevirtual 76, 3) := by decide +kernel
theorem dX3_iron_67 : decode cX3_iron 67 = .ok (.iconst 3, 1) := by decide +kernel
theorem dX3_iron_68 : decode cX3_iron 68 = .ok (.putfield 80, 3) := by decide +kernel
theorem dX3_iron_71 : decode cX3_iron 71 = .ok (.aload_n 0, 1) := by decide +kernel
theorem dX3_iron_72 : decode cX3_iron 72 = .ok (.getfield 16, 3) := by decide +kernel
theorem dX3_iron_75 : decode cX3_iron 75 = .ok (.iload_n 1, 1) := by decide +kernel
theorem dX3_iron_76 : decode cX3_iron 76 = .ok (.invokevirtual 155, 3) := by decide +kernel
theorem dX3_iron_79 : decode cX3_iron 79 = .ok (.aload_n 0, 1) := by decide +kernel
theorem dX3_iron_80 : decode cX3_iron 80 = .ok (.getfield 16, 3) := by decide +kernel
theorem dX3_iron_83 : decode cX3_iron 83 = .ok (.invokevirtual 125, 3) := by decide +kernel
theorem dX3_iron_86 : decode cX3_iron 86 = .ok (.iload 4, 2) := by decide +kernel
theorem dX3_iron_88 : decode cX3_iron 88 = .ok (.if_icmp .le 15, 3) := by decide +kernel
theorem dX3_iron_91 : decode cX3_iron 91 = .ok (.aload_n 0, 1) := by decide +kernel
theorem dX3_iron_92 : decode cX3_iron 92 = .ok (.getfield 16, 3) := by decide +kernel
theorem dX3_iron_95 : decode cX3_iron 95 = .ok (.invokevirtual 125, 3) := by decide +kernel
theorem dX3_iron_98 : decode cX3_iron 98 = .ok (.istore 4, 2) := by decide +kernel
theorem dX3_iron_100 : decode cX3_iron 100 = .ok (.iload 5, 2) := by decide +kernel
theorem dX3_iron_102 : decode cX3_iron 102 = .ok (.istore_n 3, 1) := by decide +kernel
theorem dX3_iron_103 : decode cX3_iron 103 = .ok (.iinc 5 1, 3) := by decide +kernel
theorem dX3_iron_106 : decode cX3_iron 106 = .ok (.goto (-71), 3) := by decide +kernel
theorem dX3_iron_109 : decode cX3_iron 109 = .ok (.iload_n 3, 1) := by decide +kernel
theorem dX3_iron_110 : decode cX3_iron 110 = .ok (.ireturn, 1) := by decide +kernel
theorem dX3_row_0 : decode cX3_row 0 = .ok (.iload_n 1, 1) := by decide +kernel
theorem dX3_row_1 : decode cX3_row 1 = .ok (.iconst 0, 1) := by decide +kernel
theorem dX3_row_2 : decode cX3_row 2 = .ok (.bipush 99, 2) := by decide +kernel
theorem dX3_row_4 : decode cX3_row 4 = .ok (.invokestatic 44, 3) := by decide +kernel
theorem dX3_row_7 : decode cX3_row 7 = .ok (.istore_n 2, 1) := by decide +kernel
theorem dX3_row_8 : decode cX3_row 8 = .ok (.iload_n 2, 1) := by decide +kernel
theorem dX3_row_9 : decode cX3_row 9 = .ok (.ifCond .ne 15, 3) := by decide +kernel
theorem dX3_row_12 : decode cX3_row 12 = .ok (.aload_n 0, 1) := by decide +kernel
theorem dX3_row_13 : decode cX3_row 13 = .ok (.getfield 37, 3) := by decide +kernel
theorem dX3_row_16 : decode cX3_row 16 = .ok (.bipush 12, 2) := by decide +kernel
theorem dX3_row_18 : decode cX3_row 18 = .ok (.if_icmp .lt 6, 3) := by decide +kernel
theorem dX3_row_21 : decode cX3_row 21 = .ok (.bipush (-6), 2) := by decide +kernel
theorem dX3_row_23 : decode cX3_row 23 = .ok (.istore_n 2, 1) := by decide +kernel
theorem dX3_row_24 : decode cX3_row 24 = .ok (.iload_n 2, 1) := by decide +kernel
theorem dX3_row_25 : decode cX3_row 25 = .ok (.ifCond .eq 9, 3) := by decide +kernel
theorem dX3_row_28 : decode cX3_row 28 = .ok (.aload_n 0, 1) := by decide +kernel
theorem dX3_row_29 : decode cX3_row 29 = .ok (.iload_n 2, 1) := by decide +kernel
theorem dX3_row_30 : decode cX3_row 30 = .ok (.invokevirtual 56, 3) := by decide +kernel
theorem dX3_row_33 : decode cX3_row 33 = .ok (.ireturn, 1) := by decide +kernel
theorem dX3_row_34 : decode cX3_row 34 = .ok (.aload_n 0, 1) := by decide +kernel
theorem dX3_row_35 : decode cX3_row 35 = .ok (.getfield 37, 3) := by decide +kernel
theorem dX3_row_38 : decode cX3_row 38 = .ok (.ifCond .lt 35, 3) := by decide +kernel
theorem dX3_row_41 : decode cX3_row 41 = .ok (.aload_n 0, 1) := by decide +kernel
theorem dX3_row_42 : decode cX3_row 42 = .ok (.getfield 37, 3) := by decide +kernel
theorem dX3_row_45 : decode cX3_row 45 = .ok (.aload_n 0, 1) := by decide +kernel
theorem dX3_row_46 : decode cX3_row 46 = .ok (.getfield 33, 3) := by decide +kernel
theorem dX3_row_49 : decode cX3_row 49 = .ok (.arraylength, 1) := by decide +kernel
theorem dX3_row_50 : decode cX3_row 50 = .ok (.if_icmp .ge 23, 3) := by decide +kernel
theorem dX3_row_53 : decode cX3_row 53 = .ok (.aload_n 0, 1) := by decide +kernel
theorem dX3_row_54 : decode cX3_row 54 = .ok (.getfield 33, 3) := by decide +kernel
theorem dX3_row_57 : decode cX3_row 57 = .ok (.aload_n 0, 1) := by decide +kernel
theorem dX3_row_58 : decode cX3_row 58 = .ok (.getfield 37, 3) := by decide +kernel
theorem dX3_row_61 : decode cX3_row 61 = .ok (.iload_n 1, 1) := by decide +kernel
theorem dX3_row_62 : decode cX3_row 62 = .ok (.iastore, 1) := by decide +kernel
theorem dX3_row_63 : decode cX3_row 63 = .ok (.aload_n 0, 1) := by decide +kernel
theorem dX3_row_64 : decode cX3_row 64 = .ok (.dup, 1) := by decide +kernel
theorem dX3_row_65 : decode cX3_row 65 = .ok (.getfield 37, 3) := by decide +kernel
theorem dX3_row_68 : decode cX3_row 68 = .ok (.iconst 1, 1) := by decide +kernel
theorem dX3_row_69 : decode cX3_row 69 = .ok (.iadd, 1) := by decide +kernel
theorem dX3_row_70 : decode cX3_row 70 = .ok (.putfield 37, 3) := by decide +kernel
theorem dX3_row_73 : decode cX3_row 73 = .ok (.aload_n 0, 1) := by decide +kernel
theorem dX3_row_74 : decode cX3_row 74 = .ok (.getfield 37, 3) := by decide +kernel
theorem dX3_row_77 : decode cX3_row 77 = .ok (.ireturn, 1) := by decide +kernel
theorem dX3_which_0 : decode cX3_which 0 = .ok (.aload_n 0, 1) := by decide +kernel
theorem dX3_which_1 : decode cX3_which 1 = .ok (.getfield 10, 3) := by decide +kernel
theorem dX3_which_4 : decode cX3_which 4 = .ok (.iload_n 1, 1) := by decide +kernel
theorem dX3_which_5 : decode cX3_which 5 = .ok (.invokevirtual 66, 3) := by decide +kernel
theorem dX3_which_8 : decode cX3_which 8 = .ok (.iload_n 2, 1) := by decide +kernel
theorem dX3_which_9 : decode cX3_which 9 = .ok (.iconst 1, 1) := by decide +kernel
theorem dX3_which_10 : decode cX3_which 10 = .ok (.invokestatic 69, 3) := by decide +kernel
theorem dX3_which_13 : decode cX3_which 13 = .ok (.iconst 0, 1) := by decide +kernel
theorem dX3_which_14 : decode cX3_which 14 = .ok (.invokestatic 73, 3) := by decide +kernel
theorem dX3_which_17 : decode cX3_which 17 = .ok (.istore_n 3, 1) := by decide +kernel
theorem dX3_which_18 : decode cX3_which 18 = .ok (.iload_n 3, 1) := by decide +kernel
theorem dX3_which_19 : decode cX3_which 19 = .ok (.ifCond .eq 9, 3) := by decide +kernel
theorem dX3_which_22 : decode cX3_which 22 = .ok (.aload_n 0, 1) := by decide +kernel
theorem dX3_which_23 : decode cX3_which 23 = .ok (.iload_n 3, 1) := by decide +kernel
theorem dX3_which_24 : decode cX3_which 24 = .ok (.invokevirtual 56, 3) := by decide +kernel
theorem dX3_which_27 : decode cX3_which 27 = .ok (.ireturn, 1) := by decide +kernel
theorem dX3_which_28 : decode cX3_which 28 = .ok (.iload_n 2, 1) := by decide +kernel
theorem dX3_which_29 : decode cX3_which 29 = .ok (.ifCond .ne 11, 3) := by decide +kernel
theorem dX3_which_32 : decode cX3_which 32 = .ok (.aload_n 0, 1) := by decide +kernel
theorem dX3_which_33 : decode cX3_which 33 = .ok (.iload_n 1, 1) := by decide +kernel
theorem dX3_which_34 : decode cX3_which 34 = .ok (.invokevirtual 201, 3) := by decide +kernel
theorem dX3_which_37 : decode cX3_which 37 = .ok (.goto 8, 3) := by decide +kernel
theorem dX3_which_40 : decode cX3_which 40 = .ok (.aload_n 0, 1) := by decide +kernel
theorem dX3_which_41 : decode cX3_which 41 = .ok (.iload_n 1, 1) := by decide +kernel
theorem dX3_which_42 : decode cX3_which 42 = .ok (.invokevirtual 204, 3) := by decide +kernel
theorem dX3_which_45 : decode cX3_which 45 = .ok (.ireturn, 1) := by decide +kernel
theorem dX3_judge_0 : decode cX3_judge 0 = .ok (.aload_n 0, 1) := by decide +kernel
theorem dX3_judge_1 : decode cX3_judge 1 = .ok (.getfield 10, 3) := by decide +kernel
theorem dX3_judge_4 : decode cX3_judge 4 = .ok (.iload_n 1, 1) := by decide +kernel
theorem dX3_judge_5 : decode cX3_judge 5 = .ok (.invokevirtual 66, 3) := by decide +kernel
theorem dX3_judge_8 : decode cX3_judge 8 = .ok (.istore_n 2, 1) := by decide +kernel
theorem dX3_judge_9 : decode cX3_judge 9 = .ok (.iload_n 2, 1) := by decide +kernel
theorem dX3_judge_10 : decode cX3_judge 10 = .ok (.ifCond .eq 9, 3) := by decide +kernel
theorem dX3_judge_13 : decode cX3_judge 13 = .ok (.aload_n 0, 1) := by decide +kernel
theorem dX3_judge_14 : decode cX3_judge 14 = .ok (.iload_n 2, 1) := by decide +kernel
theorem dX3_judge_15 : decode cX3_judge 15 = .ok (.invokevirtual 56, 3) := by decide +kernel
theorem dX3_judge_18 : decode cX3_judge 18 = .ok (.ireturn, 1) := by decide +kernel
theorem dX3_judge_19 : decode cX3_judge 19 = .ok (.aload_n 0, 1) := by decide +kernel
theorem dX3_judge_20 : decode cX3_judge 20 = .ok (.getfield 16, 3) := by decide +kernel
theorem dX3_judge_23 : decode cX3_judge 23 = .ok (.aload_n 0, 1) := by decide +kernel
theorem dX3_judge_24 : decode cX3_judge 24 = .ok (.getfield 10, 3) := by decide +kernel
theorem dX3_judge_27 : decode cX3_judge 27 = .ok (.invokevirtual 151, 3) := by decide +kernel
theorem dX3_judge_30 : decode cX3_judge 30 = .ok (.aload_n 0, 1) := by decide +kernel
theorem dX3_judge_31 : decode cX3_judge 31 = .ok (.iload_n 1, 1) := by decide +kernel
theorem dX3_judge_32 : decode cX3_judge 32 = .ok (.invokevirtual 207, 3) := by decide +kernel
theorem dX3_judge_35 : decode cX3_judge 35 = .ok (.istore_n 3, 1) := by decide +kernel
theorem dX3_judge_36 : decode cX3_judge 36 = .ok (.aload_n 0, 1) := by decide +kernel
theorem dX3_judge_37 : decode cX3_judge 37 = .ok (.iconst 0, 1) := by decide +kernel
theorem dX3_judge_38 : decode cX3_judge 38 = .ok (.putfield 37, 3) := by decide +kernel
theorem dX3_judge_41 : decode cX3_judge 41 = .ok (.iload_n 3, 1) := by decide +kernel
theorem dX3_judge_42 : decode cX3_judge 42 = .ok (.ireturn, 1) := by decide +kernel
theorem dX3_chance_0 : decode cX3_chance 0 = .ok (.aload_n 0, 1) := by decide +kernel
theorem dX3_chance_1 : decode cX3_chance 1 = .ok (.getfield 10, 3) := by decide +kernel
theorem dX3_chance_4 : decode cX3_chance 4 = .ok (.iload_n 1, 1) := by decide +kernel
theorem dX3_chance_5 : decode cX3_chance 5 = .ok (.invokevirtual 66, 3) := by decide +kernel
theorem dX3_chance_8 : decode cX3_chance 8 = .ok (.iload_n 2, 1) := by decide +kernel
theorem dX3_chance_9 : decode cX3_chance 9 = .ok (.iload_n 3, 1) := by decide +kernel
theorem dX3_chance_10 : decode cX3_chance 10 = .ok (.iload 4, 2) := by decide +kernel
theorem dX3_chance_12 : decode cX3_chance 12 = .ok (.invokestatic 210, 3) := by decide +kernel
theorem dX3_chance_15 : decode cX3_chance 15 = .ok (.iload 5, 2) := by decide +kernel
theorem dX3_chance_17 : decode cX3_chance 17 = .ok (.iconst 1, 1) := by decide +kernel
theorem dX3_chance_18 : decode cX3_chance 18 = .ok (.invokestatic 69, 3) := by decide +kernel
theorem dX3_chance_21 : decode cX3_chance 21 = .ok (.invokestatic 73, 3) := by decide +kernel
theorem dX3_chance_24 : decode cX3_chance 24 = .ok (.istore 6, 2) := by decide +kernel
theorem dX3_chance_26 : decode cX3_chance 26 = .ok (.iload 6, 2) := by decide +kernel
theorem dX3_chance_28 : decode cX3_chance 28 = .ok (.ifCond .eq 10, 3) := by decide +kernel
theorem dX3_chance_31 : decode cX3_chance 31 = .ok (.aload_n 0, 1) := by decide +kernel
theorem dX3_chance_32 : decode cX3_chance 32 = .ok (.iload 6, 2) := by decide +kernel
theorem dX3_chance_34 : decode cX3_chance 34 = .ok (.invokevirtual 137, 3) := by decide +kernel
theorem dX3_chance_37 : decode cX3_chance 37 = .ok (.lreturn, 1) := by decide +kernel
theorem dX3_chance_38 : decode cX3_chance 38 = .ok (.lconst 0, 1) := by decide +kernel
theorem dX3_chance_39 : decode cX3_chance 39 = .ok (.lstore 7, 2) := by decide +kernel
theorem dX3_chance_41 : decode cX3_chance 41 = .ok (.iconst 0, 1) := by decide +kernel
theorem dX3_chance_42 : decode cX3_chance 42 = .ok (.istore 9, 2) := by decide +kernel
theorem dX3_chance_44 : decode cX3_chance 44 = .ok (.iload 9, 2) := by decide +kernel
theorem dX3_chance_46 : decode cX3_chance 46 = .ok (.iconst 1, 1) := by decide +kernel
theorem dX3_chance_47 : decode cX3_chance 47 = .ok (.iload_n 3, 1) := by decide +kernel
theorem dX3_chance_48 : decode cX3_chance 48 = .ok (.ishl, 1) := by decide +kernel
theorem dX3_chance_49 : decode cX3_chance 49 = .ok (.if_icmp .ge 41, 3) := by decide +kernel
theorem dX3_chance_52 : decode cX3_chance 52 = .ok (.aload_n 0, 1) := by decide +kernel
theorem dX3_chance_53 : decode cX3_chance 53 = .ok (.iload_n 1, 1) := by decide +kernel
theorem dX3_chance_54 : decode cX3_chance 54 = .ok (.iload_n 3, 1) := by decide +kernel
theorem dX3_chance_55 : decode cX3_chance 55 = .ok (.iload 9, 2) := by decide +kernel
theorem dX3_chance_57 : decode cX3_chance 57 = .ok (.invokevirtual 213, 3) := by decide +kernel
theorem dX3_chance_60 : decode cX3_chance 60 = .ok (.iload_n 2, 1) := by decide +kernel
theorem dX3_chance_61 : decode cX3_chance 61 = .ok (.if_icmp .lt 23, 3) := by decide +kernel
theorem dX3_chance_64 : decode cX3_chance 64 = .ok (.lload 7, 2) := by decide +kernel
theorem dX3_chance_66 : decode cX3_chance 66 = .ok (.iload 4, 2) := by decide +kernel
theorem dX3_chance_68 : decode cX3_chance 68 = .ok (.iconst 1, 1) := by decide +kernel
theorem dX3_chance_69 : decode cX3_chance 69 = .ok (.isub, 1) := by decide +kernel
theorem dX3_chance_70 : decode cX3_chance 70 = .ok (.i2l, 1) := by decide +kernel
theorem dX3_chance_71 : decode cX3_chance 71 = .ok (.iload_n 3, 1) := by decide +kernel
theorem dX3_chance_72 : decode cX3_chance 72 = .ok (.iload 9, 2) := by decide +kernel
theorem dX3_chance_74 : decode cX3_chance 74 = .ok (.invokestatic 216, 3) := by decide +kernel
theorem dX3_chance_77 : decode cX3_chance 77 = .ok (.isub, 1) := by decide +kernel
theorem dX3_chance_78 : decode cX3_chance 78 = .ok (.invokestatic 221, 3) := by decide +kernel
theorem dX3_chance_81 : decode cX3_chance 81 = .ok (.ladd, 1) := by decide +kernel
theorem dX3_chance_82 : decode cX3_chance 82 = .ok (.lstore 7, 2) := by decide +kernel
theorem dX3_chance_84 : decode cX3_chance 84 = .ok (.iinc 9 1, 3) := by decide +kernel
theorem dX3_chance_87 : decode cX3_chance 87 = .ok (.goto (-43), 3) := by decide +kernel
theorem dX3_chance_90 : decode cX3_chance 90 = .ok (.lload 7, 2) := by decide +kernel
theorem dX3_chance_92 : decode cX3_chance 92 = .ok (.iload 4, 2) := by decide +kernel
theorem dX3_chance_94 : decode cX3_chance 94 = .ok (.i2l, 1) := by decide +kernel
theorem dX3_chance_95 : decode cX3_chance 95 = .ok (.iload_n 3, 1) := by decide +kernel
theorem dX3_chance_96 : decode cX3_chance 96 = .ok (.invokestatic 221, 3) := by decide +kernel
theorem dX3_chance_99 : decode cX3_chance 99 = .ok (.iload 5, 2) := by decide +kernel
theorem dX3_chance_101 : decode cX3_chance 101 = .ok (.invokestatic 141, 3) := by decide +kernel
theorem dX3_chance_104 : decode cX3_chance 104 = .ok (.lreturn, 1) := by decide +kernel
theorem dX3_lots_0 : decode cX3_lots 0 = .ok (.iload_n 1, 1) := by decide +kernel
theorem dX3_lots_1 : decode cX3_lots 1 = .ok (.iconst 1, 1) := by decide +kernel
theorem dX3_lots_2 : decode cX3_lots 2 = .ok (.bipush 20, 2) := by decide +kernel
theorem dX3_lots_4 : decode cX3_lots 4 = .ok (.invokestatic 44, 3) := by decide +kernel
theorem dX3_lots_7 : decode cX3_lots 7 = .ok (.iload_n 3, 1) := by decide +kernel
theorem dX3_lots_8 : decode cX3_lots 8 = .ok (.iconst 1, 1) := by decide +kernel
theorem dX3_lots_9 : decode cX3_lots 9 = .ok (.invokestatic 69, 3) := by decide +kernel
theorem dX3_lots_12 : decode cX3_lots 12 = .ok (.iconst 0, 1) := by decide +kernel
theorem dX3_lots_13 : decode cX3_lots 13 = .ok (.invokestatic 73, 3) := by decide +kernel
theorem dX3_lots_16 : decode cX3_lots 16 = .ok (.istore 4, 2) := by decide +kernel
theorem dX3_lots_18 : decode cX3_lots 18 = .ok (.iload 4, 2) := by decide +kernel
theorem dX3_lots_20 : decode cX3_lots 20 = .ok (.ifCond .eq 10, 3) := by decide +kernel
theorem dX3_lots_23 : decode cX3_lots 23 = .ok (.aload_n 0, 1) := by decide +kernel
theorem dX3_lots_24 : decode cX3_lots 24 = .ok (.iload 4, 2) := by decide +kernel
theorem dX3_lots_26 : decode cX3_lots 26 = .ok (.invokevirtual 56, 3) := by decide +kernel
theorem dX3_lots_29 : decode cX3_lots 29 = .ok (.ireturn, 1) := by decide +kernel
theorem dX3_lots_30 : decode cX3_lots 30 = .ok (.iload_n 2, 1) := by decide +kernel
theorem dX3_lots_31 : decode cX3_lots 31 = .ok (.istore 5, 2) := by decide +kernel
theorem dX3_lots_33 : decode cX3_lots 33 = .ok (.iconst 0, 1) := by decide +kernel
theorem dX3_lots_34 : decode cX3_lots 34 = .ok (.istore 6, 2) := by decide +kernel
theorem dX3_lots_36 : decode cX3_lots 36 = .ok (.iconst 0, 1) := by decide +kernel
theorem dX3_lots_37 : decode cX3_lots 37 = .ok (.istore 7, 2) := by decide +kernel
theorem dX3_lots_39 : decode cX3_lots 39 = .ok (.iload 7, 2) := by decide +kernel
theorem dX3_lots_41 : decode cX3_lots 41 = .ok (.iload_n 1, 1) := by decide +kernel
theorem dX3_lots_42 : decode cX3_lots 42 = .ok (.if_icmp .ge 80, 3) := by decide +kernel
theorem dX3_lots_45 : decode cX3_lots 45 = .ok (.iload 5, 2) := by decide +kernel
theorem dX3_lots_47 : decode cX3_lots 47 = .ok (.invokestatic 225, 3) := by decide +kernel
theorem dX3_lots_50 : decode cX3_lots 50 = .ok (.istore 5, 2) := by decide +kernel
theorem dX3_lots_52 : decode cX3_lots 52 = .ok (.aload_n 0, 1) := by decide +kernel
theorem dX3_lots_53 : decode cX3_lots 53 = .ok (.getfield 16, 3) := by decide +kernel
theorem dX3_lots_56 : decode cX3_lots 56 = .ok (.aload_n 0, 1) := by decide +kernel
theorem dX3_lots_57 : decode cX3_lots 57 = .ok (.getfield 10, 3) := by decide +kernel
theorem dX3_lots_60 : decode cX3_lots 60 = .ok (.invokevirtual 151, 3) := by decide +kernel
theorem dX3_lots_63 : decode cX3_lots 63 = .ok (.aload_n 0, 1) := by decide +kernel
theorem dX3_lots_64 : decode cX3_lots 64 = .ok (.getfield 16, 3) := by decide +kernel
theorem dX3_lots_67 : decode cX3_lots 67 = .ok (.iconst 1, 1) := by decide +kernel
theorem dX3_lots_68 : decode cX3_lots 68 = .ok (.iload 5, 2) := by decide +kernel
theorem dX3_lots_70 : decode cX3_lots 70 = .ok (.bipush 9, 2) := by decide +kernel
theorem dX3_lots_72 : decode cX3_lots 72 = .ok (.invokestatic 228, 3) := by decide +kernel
theorem dX3_lots_75 : decode cX3_lots 75 = .ok (.iconst 1, 1) := by decide +kernel
theorem dX3_lots_76 : decode cX3_lots 76 = .ok (.iadd, 1) := by decide +kernel
theorem dX3_lots_77 : decode cX3_lots 77 = .ok (.invokevirtual 103, 3) := by decide +kernel
theorem dX3_lots_80 : decode cX3_lots 80 = .ok (.pop, 1) := by decide +kernel
theorem dX3_lots_81 : decode cX3_lots 81 = .ok (.aload_n 0, 1) := by decide +kernel
theorem dX3_lots_82 : decode cX3_lots 82 = .ok (.getfield 16, 3) := by decide +kernel
theorem dX3_lots_85 : decode cX3_lots 85 = .ok (.bipush 20, 2) := by decide +kernel
theorem dX3_lots_87 : decode cX3_lots 87 = .ok (.invokevirtual 155, 3) := by decide +kernel
theorem dX3_lots_90 : decode cX3_lots 90 = .ok (.iload 6, 2) := by decide +kernel
theorem dX3_lots_92 : decode cX3_lots 92 = .ok (.iload_n 3, 1) := by decide +kernel
theorem dX3_lots_93 : decode cX3_lots 93 = .ok (.ifCond .ne 13, 3) := by decide +kernel
theorem dX3_lots_96 : decode cX3_lots 96 = .ok (.aload_n 0, 1) := by decide +kernel
theorem dX3_lots_97 : decode cX3_lots 97 = .ok (.getfield 16, 3) := by decide +kernel
theorem dX3_lots_100 : decode cX3_lots 100 = .ok (.invokevirtual 125, 3) := by decide +kernel
theorem dX3_lots_103 : decode cX3_lots 103 = .ok (.goto 10, 3) := by decide +kernel
theorem dX3_lots_106 : decode cX3_lots 106 = .ok (.aload_n 0, 1) := by decide +kernel
theorem dX3_lots_107 : decode cX3_lots 107 = .ok (.getfield 16, 3) := by decide +kernel
theorem dX3_lots_110 : decode cX3_lots 110 = .ok (.invokevirtual 128, 3) := by decide +kernel
theorem dX3_lots_113 : decode cX3_lots 113 = .ok (.iadd, 1) := by decide +kernel
theorem dX3_lots_114 : decode cX3_lots 114 = .ok (.istore 6, 2) := by decide +kernel
theorem dX3_lots_116 : decode cX3_lots 116 = .ok (.iinc 7 1, 3) := by decide +kernel
theorem dX3_lots_119 : decode cX3_lots 119 = .ok (.goto (-80), 3) := by decide +kernel
theorem dX3_lots_122 : decode cX3_lots 122 = .ok (.iload 6, 2) := by decide +kernel
theorem dX3_lots_124 : decode cX3_lots 124 = .ok (.ireturn, 1) := by decide +kernel
theorem dX3_image_0 : decode cX3_image 0 = .ok (.aload_n 0, 1) := by decide +kernel
theorem dX3_image_1 : decode cX3_image 1 = .ok (.getfield 19, 3) := by decide +kernel
theorem dX3_image_4 : decode cX3_image 4 = .ok (.aload_n 0, 1) := by decide +kernel
theorem dX3_image_5 : decode cX3_image 5 = .ok (.getfield 10, 3) := by decide +kernel
theorem dX3_image_8 : decode cX3_image 8 = .ok (.invokevirtual 151, 3) := by decide +kernel
theorem dX3_image_11 : decode cX3_image 11 = .ok (.aload_n 0, 1) := by decide +kernel
theorem dX3_image_12 : decode cX3_image 12 = .ok (.iconst 1, 1) := by decide +kernel
theorem dX3_image_13 : decode cX3_image 13 = .ok (.putfield 22, 3) := by decide +kernel
theorem dX3_image_16 : decode cX3_image 16 = .ok (.aload_n 0, 1) := by decide +kernel
theorem dX3_image_17 : decode cX3_image 17 = .ok (.getfield 10, 3) := by decide +kernel
theorem dX3_image_20 : decode cX3_image 20 = .ok (.getfield 115, 3) := by decide +kernel
theorem dX3_image_23 : decode cX3_image 23 = .ok (.ireturn, 1) := by decide +kernel
theorem dX3_on_0 : decode cX3_on 0 = .ok (.aload_n 0, 1) := by decide +kernel
theorem dX3_on_1 : decode cX3_on 1 = .ok (.getfield 22, 3) := by decide +kernel
theorem dX3_on_4 : decode cX3_on 4 = .ok (.ifCond .ne 10, 3) := by decide +kernel
theorem dX3_on_7 : decode cX3_on 7 = .ok (.aload_n 0, 1) := by decide +kernel
theorem dX3_on_8 : decode cX3_on 8 = .ok (.bipush (-3), 2) := by decide +kernel
theorem dX3_on_10 : decode cX3_on 10 = .ok (.invokevirtual 56, 3) := by decide +kernel
theorem dX3_on_13 : decode cX3_on 13 = .ok (.ireturn, 1) := by decide +kernel
theorem dX3_on_14 : decode cX3_on 14 = .ok (.aload_n 0, 1) := by decide +kernel
theorem dX3_on_15 : decode cX3_on 15 = .ok (.getfield 10, 3) := by decide +kernel
theorem dX3_on_18 : decode cX3_on 18 = .ok (.aload_n 0, 1) := by decide +kernel
theorem dX3_on_19 : decode cX3_on 19 = .ok (.getfield 19, 3) := by decide +kernel
theorem dX3_on_22 : decode cX3_on 22 = .ok (.invokevirtual 151, 3) := by decide +kernel
theorem dX3_on_25 : decode cX3_on 25 = .ok (.aload_n 0, 1) := by decide +kernel
theorem dX3_on_26 : decode cX3_on 26 = .ok (.getfield 10, 3) := by decide +kernel
theorem dX3_on_29 : decode cX3_on 29 = .ok (.getfield 115, 3) := by decide +kernel
theorem dX3_on_32 : decode cX3_on 32 = .ok (.ireturn, 1) := by decide +kernel
theorem dX3_count_0 : decode cX3_count 0 = .ok (.iload_n 1, 1) := by decide +kernel
theorem dX3_count_1 : decode cX3_count 1 = .ok (.tableswitch 120 0 8 #[51, 59, 67, 75, 83, 91, 99, 107, 112], 51) := by decide +kernel
theorem dX3_count_52 : decode cX3_count 52 = .ok (.aload_n 0, 1) := by decide +kernel
theorem dX3_count_53 : decode cX3_count 53 = .ok (.getfield 10, 3) := by decide +kernel
theorem dX3_count_56 : decode cX3_count 56 = .ok (.getfield 161, 3) := by decide +kernel
theorem dX3_count_59 : decode cX3_count 59 = .ok (.ireturn, 1) := by decide +kernel
theorem dX3_count_60 : decode cX3_count 60 = .ok (.aload_n 0, 1) := by decide +kernel
theorem dX3_count_61 : decode cX3_count 61 = .ok (.getfield 10, 3) := by decide +kernel
theorem dX3_count_64 : decode cX3_count 64 = .ok (.getfield 115, 3) := by decide +kernel
theorem dX3_count_67 : decode cX3_count 67 = .ok (.ireturn, 1) := by decide +kernel
theorem dX3_count_68 : decode cX3_count 68 = .ok (.aload_n 0, 1) := by decide +kernel
theorem dX3_count_69 : decode cX3_count 69 = .ok (.getfield 10, 3) := by decide +kernel
theorem dX3_count_72 : decode cX3_count 72 = .ok (.getfield 231, 3) := by decide +kernel
theorem dX3_count_75 : decode cX3_count 75 = .ok (.ireturn, 1) := by decide +kernel
theorem dX3_count_76 : decode cX3_count 76 = .ok (.aload_n 0, 1) := by decide +kernel
theorem dX3_count_77 : decode cX3_count 77 = .ok (.getfield 10, 3) := by decide +kernel
theorem dX3_count_80 : decode cX3_count 80 = .ok (.getfield 234, 3) := by decide +kernel
theorem dX3_count_83 : decode cX3_count 83 = .ok (.ireturn, 1) := by decide +kernel
theorem dX3_count_84 : decode cX3_count 84 = .ok (.aload_n 0, 1) := by decide +kernel
theorem dX3_count_85 : decode cX3_count 85 = .ok (.getfield 10, 3) := by decide +kernel
theorem dX3_count_88 : decode cX3_count 88 = .ok (.getfield 237, 3) := by decide +kernel
theorem dX3_count_91 : decode cX3_count 91 = .ok (.ireturn, 1) := by decide +kernel
theorem dX3_count_92 : decode cX3_count 92 = .ok (.aload_n 0, 1) := by decide +kernel
theorem dX3_count_93 : decode cX3_count 93 = .ok (.getfield 10, 3) := by decide +kernel
theorem dX3_count_96 : decode cX3_count 96 = .ok (.invokevirtual 125, 3) := by decide +kernel
theorem dX3_count_99 : decode cX3_count 99 = .ok (.ireturn, 1) := by decide +kernel
theorem dX3_count_100 : decode cX3_count 100 = .ok (.aload_n 0, 1) := by decide +kernel
theorem dX3_count_101 : decode cX3_count 101 = .ok (.getfield 10, 3) := by decide +kernel
theorem dX3_count_104 : decode cX3_count 104 = .ok (.invokevirtual 128, 3) := by decide +kernel
theorem dX3_count_107 : decode cX3_count 107 = .ok (.ireturn, 1) := by decide +kernel
theorem dX3_count_108 : decode cX3_count 108 = .ok (.aload_n 0, 1) := by decide +kernel
theorem dX3_count_109 : decode cX3_count 109 = .ok (.getfield 37, 3) := by decide +kernel
theorem dX3_count_112 : decode cX3_count 112 = .ok (.ireturn, 1) := by decide +kernel
theorem dX3_count_113 : decode cX3_count 113 = .ok (.aload_n 0, 1) := by decide +kernel
theorem dX3_count_114 : decode cX3_count 114 = .ok (.getfield 29, 3) := by decide +kernel
theorem dX3_count_117 : decode cX3_count 117 = .ok (.getfield 240, 3) := by decide +kernel
theorem dX3_count_120 : decode cX3_count 120 = .ok (.ireturn, 1) := by decide +kernel
theorem dX3_count_121 : decode cX3_count 121 = .ok (.iload_n 1, 1) := by decide +kernel
theorem dX3_count_122 : decode cX3_count 122 = .ok (.bipush 11, 2) := by decide +kernel
theorem dX3_count_124 : decode cX3_count 124 = .ok (.if_icmp .lt 20, 3) := by decide +kernel
theorem dX3_count_127 : decode cX3_count 127 = .ok (.iload_n 1, 1) := by decide +kernel
theorem dX3_count_128 : decode cX3_count 128 = .ok (.bipush 16, 2) := by decide +kernel
theorem dX3_count_130 : decode cX3_count 130 = .ok (.if_icmp .gt 14, 3) := by decide +kernel
theorem dX3_count_133 : decode cX3_count 133 = .ok (.aload_n 0, 1) := by decide +kernel
theorem dX3_count_134 : decode cX3_count 134 = .ok (.iload_n 1, 1) := by decide +kernel
theorem dX3_count_135 : decode cX3_count 135 = .ok (.bipush 10, 2) := by decide +kernel
theorem dX3_count_137 : decode cX3_count 137 = .ok (.isub, 1) := by decide +kernel
theorem dX3_count_138 : decode cX3_count 138 = .ok (.invokevirtual 243, 3) := by decide +kernel
theorem dX3_count_141 : decode cX3_count 141 = .ok (.goto 5, 3) := by decide +kernel
theorem dX3_count_144 : decode cX3_count 144 = .ok (.bipush (-9), 2) := by decide +kernel
theorem dX3_count_146 : decode cX3_count 146 = .ok (.ireturn, 1) := by decide +kernel
theorem dX3_refuse_0 : decode cX3_refuse 0 = .ok (.iload_n 1, 1) := by decide +kernel
theorem dX3_refuse_1 : decode cX3_refuse 1 = .ok (.ineg, 1) := by decide +kernel
theorem dX3_refuse_2 : decode cX3_refuse 2 = .ok (.istore_n 2, 1) := by decide +kernel
theorem dX3_refuse_3 : decode cX3_refuse 3 = .ok (.iload_n 2, 1) := by decide +kernel
theorem dX3_refuse_4 : decode cX3_refuse 4 = .ok (.ifCond .lt 22, 3) := by decide +kernel
theorem dX3_refuse_7 : decode cX3_refuse 7 = .ok (.iload_n 2, 1) := by decide +kernel
theorem dX3_refuse_8 : decode cX3_refuse 8 = .ok (.aload_n 0, 1) := by decide +kernel
theorem dX3_refuse_9 : decode cX3_refuse 9 = .ok (.getfield 41, 3) := by decide +kernel
theorem dX3_refuse_12 : decode cX3_refuse 12 = .ok (.arraylength, 1) := by decide +kernel
theorem dX3_refuse_13 : decode cX3_refuse 13 = .ok (.if_icmp .ge 13, 3) := by decide +kernel
theorem dX3_refuse_16 : decode cX3_refuse 16 = .ok (.aload_n 0, 1) := by decide +kernel
theorem dX3_refuse_17 : decode cX3_refuse 17 = .ok (.getfield 41, 3) := by decide +kernel
theorem dX3_refuse_20 : decode cX3_refuse 20 = .ok (.iload_n 2, 1) := by decide +kernel
theorem dX3_refuse_21 : decode cX3_refuse 21 = .ok (.dup2, 1) := by decide +kernel
theorem dX3_refuse_22 : decode cX3_refuse 22 = .ok (.iaload, 1) := by decide +kernel
theorem dX3_refuse_23 : decode cX3_refuse 23 = .ok (.iconst 1, 1) := by decide +kernel
theorem dX3_refuse_24 : decode cX3_refuse 24 = .ok (.iadd, 1) := by decide +kernel
theorem dX3_refuse_25 : decode cX3_refuse 25 = .ok (.iastore, 1) := by decide +kernel
theorem dX3_refuse_26 : decode cX3_refuse 26 = .ok (.iload_n 1, 1) := by decide +kernel
theorem dX3_refuse_27 : decode cX3_refuse 27 = .ok (.ireturn, 1) := by decide +kernel
theorem dX3_refuseLong_0 : decode cX3_refuseLong 0 = .ok (.ldc2_w 246, 3) := by decide +kernel
theorem dX3_refuseLong_3 : decode cX3_refuseLong 3 = .ok (.aload_n 0, 1) := by decide +kernel
theorem dX3_refuseLong_4 : decode cX3_refuseLong 4 = .ok (.iload_n 1, 1) := by decide +kernel
theorem dX3_refuseLong_5 : decode cX3_refuseLong 5 = .ok (.invokevirtual 56, 3) := by decide +kernel
theorem dX3_refuseLong_8 : decode cX3_refuseLong 8 = .ok (.i2l, 1) := by decide +kernel
theorem dX3_refuseLong_9 : decode cX3_refuseLong 9 = .ok (.lsub, 1) := by decide +kernel
theorem dX3_refuseLong_10 : decode cX3_refuseLong 10 = .ok (.lreturn, 1) := by decide +kernel
theorem dX3_refused_0 : decode cX3_refused 0 = .ok (.iload_n 1, 1) := by decide +kernel
theorem dX3_refused_1 : decode cX3_refused 1 = .ok (.ifCond .lt 21, 3) := by decide +kernel
theorem dX3_refused_4 : decode cX3_refused 4 = .ok (.iload_n 1, 1) := by decide +kernel
theorem dX3_refused_5 : decode cX3_refused 5 = .ok (.aload_n 0, 1) := by decide +kernel
theorem dX3_refused_6 : decode cX3_refused 6 = .ok (.getfield 41, 3) := by decide +kernel
theorem dX3_refused_9 : decode cX3_refused 9 = .ok (.arraylength, 1) := by decide +kernel
theorem dX3_refused_10 : decode cX3_refused 10 = .ok (.if_icmp .ge 12, 3) := by decide +kernel
theorem dX3_refused_13 : decode cX3_refused 13 = .ok (.aload_n 0, 1) := by decide +kernel
theorem dX3_refused_14 : decode cX3_refused 14 = .ok (.getfield 41, 3) := by decide +kernel
theorem dX3_refused_17 : decode cX3_refused 17 = .ok (.iload_n 1, 1) := by decide +kernel
theorem dX3_refused_18 : decode cX3_refused 18 = .ok (.iaload, 1) := by decide +kernel
theorem dX3_refused_19 : decode cX3_refused 19 = .ok (.goto 4, 3) := by decide +kernel
theorem dX3_refused_22 : decode cX3_refused 22 = .ok (.iconst 0, 1) := by decide +kernel
theorem dX3_refused_23 : decode cX3_refused 23 = .ok (.ireturn, 1) := by decide +kernel
theorem dX3_firstOf_0 : decode cX3_firstOf 0 = .ok (.iload_n 0, 1) := by decide +kernel
theorem dX3_firstOf_1 : decode cX3_firstOf 1 = .ok (.ifCond .eq 7, 3) := by decide +kernel
theorem dX3_firstOf_4 : decode cX3_firstOf 4 = .ok (.iload_n 0, 1) := by decide +kernel
theorem dX3_firstOf_5 : decode cX3_firstOf 5 = .ok (.goto 12, 3) := by decide +kernel
theorem dX3_firstOf_8 : decode cX3_firstOf 8 = .ok (.iload_n 1, 1) := by decide +kernel
theorem dX3_firstOf_9 : decode cX3_firstOf 9 = .ok (.ifCond .eq 7, 3) := by decide +kernel
theorem dX3_firstOf_12 : decode cX3_firstOf 12 = .ok (.iload_n 1, 1) := by decide +kernel
theorem dX3_firstOf_13 : decode cX3_firstOf 13 = .ok (.goto 4, 3) := by decide +kernel
theorem dX3_firstOf_16 : decode cX3_firstOf 16 = .ok (.iload_n 2, 1) := by decide +kernel
theorem dX3_firstOf_17 : decode cX3_firstOf 17 = .ok (.ireturn, 1) := by decide +kernel
theorem dX3_rangeFault_0 : decode cX3_rangeFault 0 = .ok (.iload_n 0, 1) := by decide +kernel
theorem dX3_rangeFault_1 : decode cX3_rangeFault 1 = .ok (.iload_n 1, 1) := by decide +kernel
theorem dX3_rangeFault_2 : decode cX3_rangeFault 2 = .ok (.if_icmp .ge 8, 3) := by decide +kernel
theorem dX3_rangeFault_5 : decode cX3_rangeFault 5 = .ok (.bipush (-4), 2) := by decide +kernel
theorem dX3_rangeFault_7 : decode cX3_rangeFault 7 = .ok (.goto 14, 3) := by decide +kernel
theorem dX3_rangeFault_10 : decode cX3_rangeFault 10 = .ok (.iload_n 0, 1) := by decide +kernel
theorem dX3_rangeFault_11 : decode cX3_rangeFault 11 = .ok (.iload_n 2, 1) := by decide +kernel
theorem dX3_rangeFault_12 : decode cX3_rangeFault 12 = .ok (.if_icmp .le 8, 3) := by decide +kernel
theorem dX3_rangeFault_15 : decode cX3_rangeFault 15 = .ok (.bipush (-6), 2) := by decide +kernel
theorem dX3_rangeFault_17 : decode cX3_rangeFault 17 = .ok (.goto 4, 3) := by decide +kernel
theorem dX3_rangeFault_20 : decode cX3_rangeFault 20 = .ok (.iconst 0, 1) := by decide +kernel
theorem dX3_rangeFault_21 : decode cX3_rangeFault 21 = .ok (.ireturn, 1) := by decide +kernel
theorem dX3_whatFault_0 : decode cX3_whatFault 0 = .ok (.iload_n 0, 1) := by decide +kernel
theorem dX3_whatFault_1 : decode cX3_whatFault 1 = .ok (.ifCond .lt 8, 3) := by decide +kernel
theorem dX3_whatFault_4 : decode cX3_whatFault 4 = .ok (.iload_n 0, 1) := by decide +kernel
theorem dX3_whatFault_5 : decode cX3_whatFault 5 = .ok (.iload_n 1, 1) := by decide +kernel
theorem dX3_whatFault_6 : decode cX3_whatFault 6 = .ok (.if_icmp .le 8, 3) := by decide +kernel
theorem dX3_whatFault_9 : decode cX3_whatFault 9 = .ok (.bipush (-2), 2) := by decide +kernel
theorem dX3_whatFault_11 : decode cX3_whatFault 11 = .ok (.goto 4, 3) := by decide +kernel
theorem dX3_whatFault_14 : decode cX3_whatFault 14 = .ok (.iconst 0, 1) := by decide +kernel
theorem dX3_whatFault_15 : decode cX3_whatFault 15 = .ok (.ireturn, 1) := by decide +kernel
theorem dX3_yearsFault_0 : decode cX3_yearsFault 0 = .ok (.iload_n 0, 1) := by decide +kernel
theorem dX3_yearsFault_1 : decode cX3_yearsFault 1 = .ok (.iconst 0, 1) := by decide +kernel
theorem dX3_yearsFault_2 : decode cX3_yearsFault 2 = .ok (.sipush 200, 3) := by decide +kernel
theorem dX3_yearsFault_5 : decode cX3_yearsFault 5 = .ok (.invokestatic 44, 3) := by decide +kernel
theorem dX3_yearsFault_8 : decode cX3_yearsFault 8 = .ok (.ireturn, 1) := by decide +kernel
theorem dX3_caskOrAllFault_0 : decode cX3_caskOrAllFault 0 = .ok (.iload_n 1, 1) := by decide +kernel
theorem dX3_caskOrAllFault_1 : decode cX3_caskOrAllFault 1 = .ok (.iconst (-1), 1) := by decide +kernel
theorem dX3_caskOrAllFault_2 : decode cX3_caskOrAllFault 2 = .ok (.if_icmp .ne 7, 3) := by decide +kernel
theorem dX3_caskOrAllFault_5 : decode cX3_caskOrAllFault 5 = .ok (.iconst 0, 1) := by decide +kernel
theorem dX3_caskOrAllFault_6 : decode cX3_caskOrAllFault 6 = .ok (.goto 11, 3) := by decide +kernel
theorem dX3_caskOrAllFault_9 : decode cX3_caskOrAllFault 9 = .ok (.aload_n 0, 1) := by decide +kernel
theorem dX3_caskOrAllFault_10 : decode cX3_caskOrAllFault 10 = .ok (.getfield 10, 3) := by decide +kernel
theorem dX3_caskOrAllFault_13 : decode cX3_caskOrAllFault 13 = .ok (.iload_n 1, 1) := by decide +kernel
theorem dX3_caskOrAllFault_14 : decode cX3_caskOrAllFault 14 = .ok (.invokevirtual 66, 3) := by decide +kernel
theorem dX3_caskOrAllFault_17 : decode cX3_caskOrAllFault 17 = .ok (.ireturn, 1) := by decide +kernel
theorem dX3_chanceFault_0 : decode cX3_chanceFault 0 = .ok (.iload_n 0, 1) := by decide +kernel
theorem dX3_chanceFault_1 : decode cX3_chanceFault 1 = .ok (.ifCond .lt 12, 3) := by decide +kernel
theorem dX3_chanceFault_4 : decode cX3_chanceFault 4 = .ok (.iload_n 1, 1) := by decide +kernel
theorem dX3_chanceFault_5 : decode cX3_chanceFault 5 = .ok (.ifCond .lt 8, 3) := by decide +kernel
theorem dX3_chanceFault_8 : decode cX3_chanceFault 8 = .ok (.iload_n 2, 1) := by decide +kernel
theorem dX3_chanceFault_9 : decode cX3_chanceFault 9 = .ok (.iconst 2, 1) := by decide +kernel
theorem dX3_chanceFault_10 : decode cX3_chanceFault 10 = .ok (.if_icmp .ge 6, 3) := by decide +kernel
theorem dX3_chanceFault_13 : decode cX3_chanceFault 13 = .ok (.bipush (-4), 2) := by decide +kernel
theorem dX3_chanceFault_15 : decode cX3_chanceFault 15 = .ok (.ireturn, 1) := by decide +kernel
theorem dX3_chanceFault_16 : decode cX3_chanceFault 16 = .ok (.iload_n 0, 1) := by decide +kernel
theorem dX3_chanceFault_17 : decode cX3_chanceFault 17 = .ok (.sipush 400, 3) := by decide +kernel
theorem dX3_chanceFault_20 : decode cX3_chanceFault 20 = .ok (.if_icmp .gt 15, 3) := by decide +kernel
theorem dX3_chanceFault_23 : decode cX3_chanceFault 23 = .ok (.iload_n 1, 1) := by decide +kernel
theorem dX3_chanceFault_24 : decode cX3_chanceFault 24 = .ok (.bipush 8, 2) := by decide +kernel
theorem dX3_chanceFault_26 : decode cX3_chanceFault 26 = .ok (.if_icmp .gt 9, 3) := by decide +kernel
theorem dX3_chanceFault_29 : decode cX3_chanceFault 29 = .ok (.iload_n 2, 1) := by decide +kernel
theorem dX3_chanceFault_30 : decode cX3_chanceFault 30 = .ok (.bipush 20, 2) := by decide +kernel
theorem dX3_chanceFault_32 : decode cX3_chanceFault 32 = .ok (.if_icmp .le 8, 3) := by decide +kernel
theorem dX3_chanceFault_35 : decode cX3_chanceFault 35 = .ok (.bipush (-6), 2) := by decide +kernel
theorem dX3_chanceFault_37 : decode cX3_chanceFault 37 = .ok (.goto 4, 3) := by decide +kernel
theorem dX3_chanceFault_40 : decode cX3_chanceFault 40 = .ok (.iconst 0, 1) := by decide +kernel
theorem dX3_chanceFault_41 : decode cX3_chanceFault 41 = .ok (.ireturn, 1) := by decide +kernel
theorem dX3_leastChoice_0 : decode cX3_leastChoice 0 = .ok (.iload_n 0, 1) := by decide +kernel
theorem dX3_leastChoice_1 : decode cX3_leastChoice 1 = .ok (.iconst 1, 1) := by decide +kernel
theorem dX3_leastChoice_2 : decode cX3_leastChoice 2 = .ok (.if_icmp .ne 7, 3) := by decide +kernel
theorem dX3_leastChoice_5 : decode cX3_leastChoice 5 = .ok (.iconst 1, 1) := by decide +kernel
theorem dX3_leastChoice_6 : decode cX3_leastChoice 6 = .ok (.goto 4, 3) := by decide +kernel
theorem dX3_leastChoice_9 : decode cX3_leastChoice 9 = .ok (.iconst 0, 1) := by decide +kernel
theorem dX3_leastChoice_10 : decode cX3_leastChoice 10 = .ok (.ireturn, 1) := by decide +kernel
theorem dX3_mostChoice_0 : decode cX3_mostChoice 0 = .ok (.iload_n 0, 1) := by decide +kernel
theorem dX3_mostChoice_1 : decode cX3_mostChoice 1 = .ok (.ifCond .ne 8, 3) := by decide +kernel
theorem dX3_mostChoice_4 : decode cX3_mostChoice 4 = .ok (.bipush 40, 2) := by decide +kernel
theorem dX3_mostChoice_6 : decode cX3_mostChoice 6 = .ok (.goto 5, 3) := by decide +kernel
theorem dX3_mostChoice_9 : decode cX3_mostChoice 9 = .ok (.bipush 9, 2) := by decide +kernel
theorem dX3_mostChoice_11 : decode cX3_mostChoice 11 = .ok (.ireturn, 1) := by decide +kernel
theorem dX3_readLetters_0 : decode cX3_readLetters 0 = .ok (.aload_n 0, 1) := by decide +kernel
theorem dX3_readLetters_1 : decode cX3_readLetters 1 = .ok (.getfield 29, 3) := by decide +kernel
theorem dX3_readLetters_4 : decode cX3_readLetters 4 = .ok (.invokevirtual 248, 3) := by decide +kernel
theorem dX3_readLetters_7 : decode cX3_readLetters 7 = .ok (.istore_n 1, 1) := by decide +kernel
theorem dX3_readLetters_8 : decode cX3_readLetters 8 = .ok (.iload_n 1, 1) := by decide +kernel
theorem dX3_readLetters_9 : decode cX3_readLetters 9 = .ok (.ifCond .lt 9, 3) := by decide +kernel
theorem dX3_readLetters_12 : decode cX3_readLetters 12 = .ok (.sipush (-1000), 3) := by decide +kernel
theorem dX3_readLetters_15 : decode cX3_readLetters 15 = .ok (.iload_n 1, 1) := by decide +kernel
theorem dX3_readLetters_16 : decode cX3_readLetters 16 = .ok (.isub, 1) := by decide +kernel
theorem dX3_readLetters_17 : decode cX3_readLetters 17 = .ok (.ireturn, 1) := by decide +kernel
theorem dX3_readLetters_18 : decode cX3_readLetters 18 = .ok (.aload_n 0, 1) := by decide +kernel
theorem dX3_readLetters_19 : decode cX3_readLetters 19 = .ok (.getfield 16, 3) := by decide +kernel
theorem dX3_readLetters_22 : decode cX3_readLetters 22 = .ok (.aload_n 0, 1) := by decide +kernel
theorem dX3_readLetters_23 : decode cX3_readLetters 23 = .ok (.getfield 10, 3) := by decide +kernel
theorem dX3_readLetters_26 : decode cX3_readLetters 26 = .ok (.invokevirtual 151, 3) := by decide +kernel
theorem dX3_readLetters_29 : decode cX3_readLetters 29 = .ok (.iconst 0, 1) := by decide +kernel
theorem dX3_readLetters_30 : decode cX3_readLetters 30 = .ok (.istore_n 2, 1) := by decide +kernel
theorem dX3_readLetters_31 : decode cX3_readLetters 31 = .ok (.iconst 0, 1) := by decide +kernel
theorem dX3_readLetters_32 : decode cX3_readLetters 32 = .ok (.istore_n 3, 1) := by decide +kernel
theorem dX3_readLetters_33 : decode cX3_readLetters 33 = .ok (.iconst 0, 1) := by decide +kernel
theorem dX3_readLetters_34 : decode cX3_readLetters 34 = .ok (.istore 4, 2) := by decide +kernel
theorem dX3_readLetters_36 : decode cX3_readLetters 36 = .ok (.iload 4, 2) := by decide +kernel
theorem dX3_readLetters_38 : decode cX3_readLetters 38 = .ok (.aload_n 0, 1) := by decide +kernel
theorem dX3_readLetters_39 : decode cX3_readLetters 39 = .ok (.getfield 29, 3) := by decide +kernel
theorem dX3_readLetters_42 : decode cX3_readLetters 42 = .ok (.getfield 240, 3) := by decide +kernel
theorem dX3_readLetters_45 : decode cX3_readLetters 45 = .ok (.if_icmp .ge 45, 3) := by decide +kernel
theorem dX3_readLetters_48 : decode cX3_readLetters 48 = .ok (.aload_n 0, 1) := by decide +kernel
theorem dX3_readLetters_49 : decode cX3_readLetters 49 = .ok (.getfield 29, 3) := by decide +kernel
theorem dX3_readLetters_52 : decode cX3_readLetters 52 = .ok (.iload 4, 2) := by decide +kernel
theorem dX3_readLetters_54 : decode cX3_readLetters 54 = .ok (.invokevirtual 251, 3) := by decide +kernel
theorem dX3_readLetters_57 : decode cX3_readLetters 57 = .ok (.bipush 59, 2) := by decide +kernel
theorem dX3_readLetters_59 : decode cX3_readLetters 59 = .ok (.if_icmp .ne 25, 3) := by decide +kernel
theorem dX3_readLetters_62 : decode cX3_readLetters 62 = .ok (.aload_n 0, 1) := by decide +kernel
theorem dX3_readLetters_63 : decode cX3_readLetters 63 = .ok (.iload_n 3, 1) := by decide +kernel
theorem dX3_readLetters_64 : decode cX3_readLetters 64 = .ok (.invokevirtual 253, 3) := by decide +kernel
theorem dX3_readLetters_67 : decode cX3_readLetters 67 = .ok (.ifCond .eq 9, 3) := by decide +kernel
theorem dX3_readLetters_70 : decode cX3_readLetters 70 = .ok (.sipush (-2000), 3) := by decide +kernel
theorem dX3_readLetters_73 : decode cX3_readLetters 73 = .ok (.iload_n 3, 1) := by decide +kernel
theorem dX3_readLetters_74 : decode cX3_readLetters 74 = .ok (.isub, 1) := by decide +kernel
theorem dX3_readLetters_75 : decode cX3_readLetters 75 = .ok (.ireturn, 1) := by decide +kernel
theorem dX3_readLetters_76 : decode cX3_readLetters 76 = .ok (.iinc 2 1, 3) := by decide +kernel
theorem dX3_readLetters_79 : decode cX3_readLetters 79 = .ok (.iload 4, 2) := by decide +kernel
theorem dX3_readLetters_81 : decode cX3_readLetters 81 = .ok (.iconst 1, 1) := by decide +kernel
theorem dX3_readLetters_82 : decode cX3_readLetters 82 = .ok (.iadd, 1) := by decide +kernel
theorem dX3_readLetters_83 : decode cX3_readLetters 83 = .ok (.istore_n 3, 1) := by decide +kernel
theorem dX3_readLetters_84 : decode cX3_readLetters 84 = .ok (.iinc 4 1, 3) := by decide +kernel
theorem dX3_readLetters_87 : decode cX3_readLetters 87 = .ok (.goto (-51), 3) := by decide +kernel
theorem dX3_readLetters_90 : decode cX3_readLetters 90 = .ok (.aload_n 0, 1) := by decide +kernel
theorem dX3_readLetters_91 : decode cX3_readLetters 91 = .ok (.getfield 10, 3) := by decide +kernel
theorem dX3_readLetters_94 : decode cX3_readLetters 94 = .ok (.aload_n 0, 1) := by decide +kernel
theorem dX3_readLetters_95 : decode cX3_readLetters 95 = .ok (.getfield 16, 3) := by decide +kernel
theorem dX3_readLetters_98 : decode cX3_readLetters 98 = .ok (.invokevirtual 151, 3) := by decide +kernel
theorem dX3_readLetters_101 : decode cX3_readLetters 101 = .ok (.iload_n 2, 1) := by decide +kernel
theorem dX3_readLetters_102 : decode cX3_readLetters 102 = .ok (.ireturn, 1) := by decide +kernel
theorem dX3_statementFault_0 : decode cX3_statementFault 0 = .ok (.iload_n 1, 1) := by decide +kernel
theorem dX3_statementFault_1 : decode cX3_statementFault 1 = .ok (.iconst 1, 1) := by decide +kernel
theorem dX3_statementFault_2 : decode cX3_statementFault 2 = .ok (.iadd, 1) := by decide +kernel
theorem dX3_statementFault_3 : decode cX3_statementFault 3 = .ok (.istore_n 2, 1) := by decide +kernel
theorem dX3_statementFault_4 : decode cX3_statementFault 4 = .ok (.aload_n 0, 1) := by decide +kernel
theorem dX3_statementFault_5 : decode cX3_statementFault 5 = .ok (.getfield 29, 3) := by decide +kernel
theorem dX3_statementFault_8 : decode cX3_statementFault 8 = .ok (.iload_n 1, 1) := by decide +kernel
theorem dX3_statementFault_9 : decode cX3_statementFault 9 = .ok (.invokevirtual 251, 3) := by decide +kernel
theorem dX3_statementFault_12 : decode cX3_statementFault 12 = .ok (.lookupswitch 118 #[(99, 52), (101, 94), (108, 76), (112, 112), (114, 58)], 52) := by decide +kernel
theorem dX3_statementFault_64 : decode cX3_statementFault 64 = .ok (.aload_n 0, 1) := by decide +kernel
theorem dX3_statementFault_65 : decode cX3_statementFault 65 = .ok (.iload_n 1, 1) := by decide +kernel
theorem dX3_statementFault_66 : decode cX3_statementFault 66 = .ok (.invokevirtual 256, 3) := by decide +kernel
theorem dX3_statementFault_69 : decode cX3_statementFault 69 = .ok (.ireturn, 1) := by decide +kernel
theorem dX3_statementFault_70 : decode cX3_statementFault 70 = .ok (.aload_n 0, 1) := by decide +kernel
theorem dX3_statementFault_71 : decode cX3_statementFault 71 = .ok (.getfield 16, 3) := by decide +kernel
theorem dX3_statementFault_74 : decode cX3_statementFault 74 = .ok (.iconst 0, 1) := by decide +kernel
theorem dX3_statementFault_75 : decode cX3_statementFault 75 = .ok (.aload_n 0, 1) := by decide +kernel
theorem dX3_statementFault_76 : decode cX3_statementFault 76 = .ok (.getfield 29, 3) := by decide +kernel
theorem dX3_statementFault_79 : decode cX3_statementFault 79 = .ok (.iload_n 2, 1) := by decide +kernel
theorem dX3_statementFault_80 : decode cX3_statementFault 80 = .ok (.iconst 2, 1) := by decide +kernel
theorem dX3_statementFault_81 : decode cX3_statementFault 81 = .ok (.invokevirtual 259, 3) := by decide +kernel
theorem dX3_statementFault_84 : decode cX3_statementFault 84 = .ok (.invokevirtual 103, 3) := by decide +kernel
theorem dX3_statementFault_87 : decode cX3_statementFault 87 = .ok (.ireturn, 1) := by decide +kernel
theorem dX3_statementFault_88 : decode cX3_statementFault 88 = .ok (.aload_n 0, 1) := by decide +kernel
theorem dX3_statementFault_89 : decode cX3_statementFault 89 = .ok (.getfield 16, 3) := by decide +kernel
theorem dX3_statementFault_92 : decode cX3_statementFault 92 = .ok (.iconst 1, 1) := by decide +kernel
theorem dX3_statementFault_93 : decode cX3_statementFault 93 = .ok (.aload_n 0, 1) := by decide +kernel
theorem dX3_statementFault_94 : decode cX3_statementFault 94 = .ok (.getfield 29, 3) := by decide +kernel
theorem dX3_statementFault_97 : decode cX3_statementFault 97 = .ok (.iload_n 2, 1) := by decide +kernel
theorem dX3_statementFault_98 : decode cX3_statementFault 98 = .ok (.iconst 1, 1) := by decide +kernel
theorem dX3_statementFault_99 : decode cX3_statementFault 99 = .ok (.invokevirtual 259, 3) := by decide +kernel
theorem dX3_statementFault_102 : decode cX3_statementFault 102 = .ok (.invokevirtual 103, 3) := by decide +kernel
theorem dX3_statementFault_105 : decode cX3_statementFault 105 = .ok (.ireturn, 1) := by decide +kernel
theorem dX3_statementFault_106 : decode cX3_statementFault 106 = .ok (.aload_n 0, 1) := by decide +kernel
theorem dX3_statementFault_107 : decode cX3_statementFault 107 = .ok (.getfield 16, 3) := by decide +kernel
theorem dX3_statementFault_110 : decode cX3_statementFault 110 = .ok (.iconst 2, 1) := by decide +kernel
theorem dX3_statementFault_111 : decode cX3_statementFault 111 = .ok (.aload_n 0, 1) := by decide +kernel
theorem dX3_statementFault_112 : decode cX3_statementFault 112 = .ok (.getfield 29, 3) := by decide +kernel
theorem dX3_statementFault_115 : decode cX3_statementFault 115 = .ok (.iload_n 2, 1) := by decide +kernel
theorem dX3_statementFault_116 : decode cX3_statementFault 116 = .ok (.iconst 1, 1) := by decide +kernel
theorem dX3_statementFault_117 : decode cX3_statementFault 117 = .ok (.invokevirtual 259, 3) := by decide +kernel
theorem dX3_statementFault_120 : decode cX3_statementFault 120 = .ok (.invokevirtual 103, 3) := by decide +kernel
theorem dX3_statementFault_123 : decode cX3_statementFault 123 = .ok (.ireturn, 1) := by decide +kernel
theorem dX3_statementFault_124 : decode cX3_statementFault 124 = .ok (.aload_n 0, 1) := by decide +kernel
theorem dX3_statementFault_125 : decode cX3_statementFault 125 = .ok (.iload_n 1, 1) := by decide +kernel
theorem dX3_statementFault_126 : decode cX3_statementFault 126 = .ok (.invokevirtual 262, 3) := by decide +kernel
theorem dX3_statementFault_129 : decode cX3_statementFault 129 = .ok (.ireturn, 1) := by decide +kernel
theorem dX3_statementFault_130 : decode cX3_statementFault 130 = .ok (.aload_n 0, 1) := by decide +kernel
theorem dX3_statementFault_131 : decode cX3_statementFault 131 = .ok (.getfield 16, 3) := by decide +kernel
theorem dX3_statementFault_134 : decode cX3_statementFault 134 = .ok (.aload_n 0, 1) := by decide +kernel
theorem dX3_statementFault_135 : decode cX3_statementFault 135 = .ok (.getfield 29, 3) := by decide +kernel
theorem dX3_statementFault_138 : decode cX3_statementFault 138 = .ok (.iload_n 2, 1) := by decide +kernel
theorem dX3_statementFault_139 : decode cX3_statementFault 139 = .ok (.iconst 2, 1) := by decide +kernel
theorem dX3_statementFault_140 : decode cX3_statementFault 140 = .ok (.invokevirtual 259, 3) := by decide +kernel
theorem dX3_statementFault_143 : decode cX3_statementFault 143 = .ok (.invokevirtual 112, 3) := by decide +kernel
theorem dX3_statementFault_146 : decode cX3_statementFault 146 = .ok (.ireturn, 1) := by decide +kernel
theorem dX3_caskComes_0 : decode cX3_caskComes 0 = .ok (.aload_n 0, 1) := by decide +kernel
theorem dX3_caskComes_1 : decode cX3_caskComes 1 = .ok (.getfield 16, 3) := by decide +kernel
theorem dX3_caskComes_4 : decode cX3_caskComes 4 = .ok (.aload_n 0, 1) := by decide +kernel
theorem dX3_caskComes_5 : decode cX3_caskComes 5 = .ok (.getfield 29, 3) := by decide +kernel
theorem dX3_caskComes_8 : decode cX3_caskComes 8 = .ok (.iload_n 1, 1) := by decide +kernel
theorem dX3_caskComes_9 : decode cX3_caskComes 9 = .ok (.iconst 1, 1) := by decide +kernel
theorem dX3_caskComes_10 : decode cX3_caskComes 10 = .ok (.iadd, 1) := by decide +kernel
theorem dX3_caskComes_11 : decode cX3_caskComes 11 = .ok (.invokevirtual 265, 3) := by decide +kernel
theorem dX3_caskComes_14 : decode cX3_caskComes 14 = .ok (.aload_n 0, 1) := by decide +kernel
theorem dX3_caskComes_15 : decode cX3_caskComes 15 = .ok (.getfield 29, 3) := by decide +kernel
theorem dX3_caskComes_18 : decode cX3_caskComes 18 = .ok (.iload_n 1, 1) := by decide +kernel
theorem dX3_caskComes_19 : decode cX3_caskComes 19 = .ok (.iconst 2, 1) := by decide +kernel
theorem dX3_caskComes_20 : decode cX3_caskComes 20 = .ok (.iadd, 1) := by decide +kernel
theorem dX3_caskComes_21 : decode cX3_caskComes 21 = .ok (.iconst 3, 1) := by decide +kernel
theorem dX3_caskComes_22 : decode cX3_caskComes 22 = .ok (.invokevirtual 259, 3) := by decide +kernel
theorem dX3_caskComes_25 : decode cX3_caskComes 25 = .ok (.aload_n 0, 1) := by decide +kernel
theorem dX3_caskComes_26 : decode cX3_caskComes 26 = .ok (.getfield 29, 3) := by decide +kernel
theorem dX3_caskComes_29 : decode cX3_caskComes 29 = .ok (.iload_n 1, 1) := by decide +kernel
theorem dX3_caskComes_30 : decode cX3_caskComes 30 = .ok (.iconst 5, 1) := by decide +kernel
theorem dX3_caskComes_31 : decode cX3_caskComes 31 = .ok (.iadd, 1) := by decide +kernel
theorem dX3_caskComes_32 : decode cX3_caskComes 32 = .ok (.iconst 3, 1) := by decide +kernel
theorem dX3_caskComes_33 : decode cX3_caskComes 33 = .ok (.invokevirtual 259, 3) := by decide +kernel
theorem dX3_caskComes_36 : decode cX3_caskComes 36 = .ok (.aload_n 0, 1) := by decide +kernel
theorem dX3_caskComes_37 : decode cX3_caskComes 37 = .ok (.getfield 29, 3) := by decide +kernel
theorem dX3_caskComes_40 : decode cX3_caskComes 40 = .ok (.iload_n 1, 1) := by decide +kernel
theorem dX3_caskComes_41 : decode cX3_caskComes 41 = .ok (.bipush 8, 2) := by decide +kernel
theorem dX3_caskComes_43 : decode cX3_caskComes 43 = .ok (.iadd, 1) := by decide +kernel
theorem dX3_caskComes_44 : decode cX3_caskComes 44 = .ok (.iconst 2, 1) := by decide +kernel
theorem dX3_caskComes_45 : decode cX3_caskComes 45 = .ok (.invokevirtual 259, 3) := by decide +kernel
theorem dX3_caskComes_48 : decode cX3_caskComes 48 = .ok (.aload_n 0, 1) := by decide +kernel
theorem dX3_caskComes_49 : decode cX3_caskComes 49 = .ok (.getfield 29, 3) := by decide +kernel
theorem dX3_caskComes_52 : decode cX3_caskComes 52 = .ok (.iload_n 1, 1) := by decide +kernel
theorem dX3_caskComes_53 : decode cX3_caskComes 53 = .ok (.bipush 10, 2) := by decide +kernel
theorem dX3_caskComes_55 : decode cX3_caskComes 55 = .ok (.iadd, 1) := by decide +kernel
theorem dX3_caskComes_56 : decode cX3_caskComes 56 = .ok (.iconst 1, 1) := by decide +kernel
theorem dX3_caskComes_57 : decode cX3_caskComes 57 = .ok (.invokevirtual 259, 3) := by decide +kernel
theorem dX3_caskComes_60 : decode cX3_caskComes 60 = .ok (.invokevirtual 267, 3) := by decide +kernel
theorem dX3_caskComes_63 : decode cX3_caskComes 63 = .ok (.ireturn, 1) := by decide +kernel
theorem dX3_pourComes_0 : decode cX3_pourComes 0 = .ok (.aload_n 0, 1) := by decide +kernel
theorem dX3_pourComes_1 : decode cX3_pourComes 1 = .ok (.getfield 16, 3) := by decide +kernel
theorem dX3_pourComes_4 : decode cX3_pourComes 4 = .ok (.aload_n 0, 1) := by decide +kernel
theorem dX3_pourComes_5 : decode cX3_pourComes 5 = .ok (.getfield 29, 3) := by decide +kernel
theorem dX3_pourComes_8 : decode cX3_pourComes 8 = .ok (.iload_n 1, 1) := by decide +kernel
theorem dX3_pourComes_9 : decode cX3_pourComes 9 = .ok (.iconst 1, 1) := by decide +kernel
theorem dX3_pourComes_10 : decode cX3_pourComes 10 = .ok (.iadd, 1) := by decide +kernel
theorem dX3_pourComes_11 : decode cX3_pourComes 11 = .ok (.iconst 1, 1) := by decide +kernel
theorem dX3_pourComes_12 : decode cX3_pourComes 12 = .ok (.invokevirtual 259, 3) := by decide +kernel
theorem dX3_pourComes_15 : decode cX3_pourComes 15 = .ok (.aload_n 0, 1) := by decide +kernel
theorem dX3_pourComes_16 : decode cX3_pourComes 16 = .ok (.getfield 29, 3) := by decide +kernel
theorem dX3_pourComes_19 : decode cX3_pourComes 19 = .ok (.iload_n 1, 1) := by decide +kernel
theorem dX3_pourComes_20 : decode cX3_pourComes 20 = .ok (.iconst 2, 1) := by decide +kernel
theorem dX3_pourComes_21 : decode cX3_pourComes 21 = .ok (.iadd, 1) := by decide +kernel
theorem dX3_pourComes_22 : decode cX3_pourComes 22 = .ok (.iconst 1, 1) := by decide +kernel
theorem dX3_pourComes_23 : decode cX3_pourComes 23 = .ok (.invokevirtual 259, 3) := by decide +kernel
theorem dX3_pourComes_26 : decode cX3_pourComes 26 = .ok (.aload_n 0, 1) := by decide +kernel
theorem dX3_pourComes_27 : decode cX3_pourComes 27 = .ok (.getfield 29, 3) := by decide +kernel
theorem dX3_pourComes_30 : decode cX3_pourComes 30 = .ok (.iload_n 1, 1) := by decide +kernel
theorem dX3_pourComes_31 : decode cX3_pourComes 31 = .ok (.iconst 3, 1) := by decide +kernel
theorem dX3_pourComes_32 : decode cX3_pourComes 32 = .ok (.iadd, 1) := by decide +kernel
theorem dX3_pourComes_33 : decode cX3_pourComes 33 = .ok (.iconst 3, 1) := by decide +kernel
theorem dX3_pourComes_34 : decode cX3_pourComes 34 = .ok (.invokevirtual 259, 3) := by decide +kernel
theorem dX3_pourComes_37 : decode cX3_pourComes 37 = .ok (.invokevirtual 109, 3) := by decide +kernel
theorem dX3_pourComes_40 : decode cX3_pourComes 40 = .ok (.ireturn, 1) := by decide +kernel
theorem dX3_thinkOn_0 : decode cX3_thinkOn 0 = .ok (.aload_n 0, 1) := by decide +kernel
theorem dX3_thinkOn_1 : decode cX3_thinkOn 1 = .ok (.getfield 16, 3) := by decide +kernel
theorem dX3_thinkOn_4 : decode cX3_thinkOn 4 = .ok (.aload_n 0, 1) := by decide +kernel
theorem dX3_thinkOn_5 : decode cX3_thinkOn 5 = .ok (.getfield 10, 3) := by decide +kernel
theorem dX3_thinkOn_8 : decode cX3_thinkOn 8 = .ok (.invokevirtual 151, 3) := by decide +kernel
theorem dX3_thinkOn_11 : decode cX3_thinkOn 11 = .ok (.aload_n 0, 1) := by decide +kernel
theorem dX3_thinkOn_12 : decode cX3_thinkOn 12 = .ok (.getfield 16, 3) := by decide +kernel
theorem dX3_thinkOn_15 : decode cX3_thinkOn 15 = .ok (.iload_n 1, 1) := by decide +kernel
theorem dX3_thinkOn_16 : decode cX3_thinkOn 16 = .ok (.invokevirtual 155, 3) := by decide +kernel
theorem dX3_thinkOn_19 : decode cX3_thinkOn 19 = .ok (.return_, 1) := by decide +kernel
theorem dX3_keepsLess_0 : decode cX3_keepsLess 0 = .ok (.aload_n 0, 1) := by decide +kernel
theorem dX3_keepsLess_1 : decode cX3_keepsLess 1 = .ok (.getfield 16, 3) := by decide +kernel
theorem dX3_keepsLess_4 : decode cX3_keepsLess 4 = .ok (.iload_n 1, 1) := by decide +kernel
theorem dX3_keepsLess_5 : decode cX3_keepsLess 5 = .ok (.invokevirtual 76, 3) := by decide +kernel
theorem dX3_keepsLess_8 : decode cX3_keepsLess 8 = .ok (.invokevirtual 184, 3) := by decide +kernel
theorem dX3_keepsLess_11 : decode cX3_keepsLess 11 = .ok (.i2l, 1) := by decide +kernel
theorem dX3_keepsLess_12 : decode cX3_keepsLess 12 = .ok (.aload_n 0, 1) := by decide +kernel
theorem dX3_keepsLess_13 : decode cX3_keepsLess 13 = .ok (.getfield 10, 3) := by decide +kernel
theorem dX3_keepsLess_16 : decode cX3_keepsLess 16 = .ok (.iload_n 2, 1) := by decide +kernel
theorem dX3_keepsLess_17 : decode cX3_keepsLess 17 = .ok (.invokevirtual 76, 3) := by decide +kernel
theorem dX3_keepsLess_20 : decode cX3_keepsLess 20 = .ok (.getfield 88, 3) := by decide +kernel
theorem dX3_keepsLess_23 : decode cX3_keepsLess 23 = .ok (.i2l, 1) := by decide +kernel
theorem dX3_keepsLess_24 : decode cX3_keepsLess 24 = .ok (.lmul, 1) := by decide +kernel
theorem dX3_keepsLess_25 : decode cX3_keepsLess 25 = .ok (.lstore_n 3, 1) := by decide +kernel
theorem dX3_keepsLess_26 : decode cX3_keepsLess 26 = .ok (.aload_n 0, 1) := by decide +kernel
theorem dX3_keepsLess_27 : decode cX3_keepsLess 27 = .ok (.getfield 16, 3) := by decide +kernel
theorem dX3_keepsLess_30 : decode cX3_keepsLess 30 = .ok (.iload_n 2, 1) := by decide +kernel
theorem dX3_keepsLess_31 : decode cX3_keepsLess 31 = .ok (.invokevirtual 76, 3) := by decide +kernel
theorem dX3_keepsLess_34 : decode cX3_keepsLess 34 = .ok (.invokevirtual 184, 3) := by decide +kernel
theorem dX3_keepsLess_37 : decode cX3_keepsLess 37 = .ok (.i2l, 1) := by decide +kernel
theorem dX3_keepsLess_38 : decode cX3_keepsLess 38 = .ok (.aload_n 0, 1) := by decide +kernel
theorem dX3_keepsLess_39 : decode cX3_keepsLess 39 = .ok (.getfield 10, 3) := by decide +kernel
theorem dX3_keepsLess_42 : decode cX3_keepsLess 42 = .ok (.iload_n 1, 1) := by decide +kernel
theorem dX3_keepsLess_43 : decode cX3_keepsLess 43 = .ok (.invokevirtual 76, 3) := by decide +kernel
theorem dX3_keepsLess_46 : decode cX3_keepsLess 46 = .ok (.getfield 88, 3) := by decide +kernel
theorem dX3_keepsLess_49 : decode cX3_keepsLess 49 = .ok (.i2l, 1) := by decide +kernel
theorem dX3_keepsLess_50 : decode cX3_keepsLess 50 = .ok (.lmul, 1) := by decide +kernel
theorem dX3_keepsLess_51 : decode cX3_keepsLess 51 = .ok (.lstore 5, 2) := by decide +kernel
theorem dX3_keepsLess_53 : decode cX3_keepsLess 53 = .ok (.lload_n 3, 1) := by decide +kernel
theorem dX3_keepsLess_54 : decode cX3_keepsLess 54 = .ok (.lload 5, 2) := by decide +kernel
theorem dX3_keepsLess_56 : decode cX3_keepsLess 56 = .ok (.lcmp, 1) := by decide +kernel
theorem dX3_keepsLess_57 : decode cX3_keepsLess 57 = .ok (.ifCond .ge 7, 3) := by decide +kernel
theorem dX3_keepsLess_60 : decode cX3_keepsLess 60 = .ok (.iconst 1, 1) := by decide +kernel
theorem dX3_keepsLess_61 : decode cX3_keepsLess 61 = .ok (.goto 4, 3) := by decide +kernel
theorem dX3_keepsLess_64 : decode cX3_keepsLess 64 = .ok (.iconst 0, 1) := by decide +kernel
theorem dX3_keepsLess_65 : decode cX3_keepsLess 65 = .ok (.ireturn, 1) := by decide +kernel
theorem dX3_thinkTreaty_0 : decode cX3_thinkTreaty 0 = .ok (.aload_n 0, 1) := by decide +kernel
theorem dX3_thinkTreaty_1 : decode cX3_thinkTreaty 1 = .ok (.getfield 16, 3) := by decide +kernel
theorem dX3_thinkTreaty_4 : decode cX3_thinkTreaty 4 = .ok (.aload_n 0, 1) := by decide +kernel
theorem dX3_thinkTreaty_5 : decode cX3_thinkTreaty 5 = .ok (.getfield 10, 3) := by decide +kernel
theorem dX3_thinkTreaty_8 : decode cX3_thinkTreaty 8 = .ok (.invokevirtual 151, 3) := by decide +kernel
theorem dX3_thinkTreaty_11 : decode cX3_thinkTreaty 11 = .ok (.aload_n 0, 1) := by decide +kernel
theorem dX3_thinkTreaty_12 : decode cX3_thinkTreaty 12 = .ok (.getfield 16, 3) := by decide +kernel
theorem dX3_thinkTreaty_15 : decode cX3_thinkTreaty 15 = .ok (.iconst 1, 1) := by decide +kernel
theorem dX3_thinkTreaty_16 : decode cX3_thinkTreaty 16 = .ok (.iload_n 2, 1) := by decide +kernel
theorem dX3_thinkTreaty_17 : decode cX3_thinkTreaty 17 = .ok (.ifCond .ne 7, 3) := by decide +kernel
theorem dX3_thinkTreaty_20 : decode cX3_thinkTreaty 20 = .ok (.iconst 2, 1) := by decide +kernel
theorem dX3_thinkTreaty_21 : decode cX3_thinkTreaty 21 = .ok (.goto 5, 3) := by decide +kernel
theorem dX3_thinkTreaty_24 : decode cX3_thinkTreaty 24 = .ok (.bipush 8, 2) := by decide +kernel
theorem dX3_thinkTreaty_26 : decode cX3_thinkTreaty 26 = .ok (.invokevirtual 103, 3) := by decide +kernel
theorem dX3_thinkTreaty_29 : decode cX3_thinkTreaty 29 = .ok (.pop, 1) := by decide +kernel
theorem dX3_thinkTreaty_30 : decode cX3_thinkTreaty 30 = .ok (.aload_n 0, 1) := by decide +kernel
theorem dX3_thinkTreaty_31 : decode cX3_thinkTreaty 31 = .ok (.getfield 16, 3) := by decide +kernel
theorem dX3_thinkTreaty_34 : decode cX3_thinkTreaty 34 = .ok (.iconst 0, 1) := by decide +kernel
theorem dX3_thinkTreaty_35 : decode cX3_thinkTreaty 35 = .ok (.iload_n 3, 1) := by decide +kernel
theorem dX3_thinkTreaty_36 : decode cX3_thinkTreaty 36 = .ok (.ifCond .ne 13, 3) := by decide +kernel
theorem dX3_thinkTreaty_39 : decode cX3_thinkTreaty 39 = .ok (.aload_n 0, 1) := by decide +kernel
theorem dX3_thinkTreaty_40 : decode cX3_thinkTreaty 40 = .ok (.getfield 10, 3) := by decide +kernel
theorem dX3_thinkTreaty_43 : decode cX3_thinkTreaty 43 = .ok (.getfield 231, 3) := by decide +kernel
theorem dX3_thinkTreaty_46 : decode cX3_thinkTreaty 46 = .ok (.goto 12, 3) := by decide +kernel
theorem dX3_thinkTreaty_49 : decode cX3_thinkTreaty 49 = .ok (.aload_n 0, 1) := by decide +kernel
theorem dX3_thinkTreaty_50 : decode cX3_thinkTreaty 50 = .ok (.getfield 10, 3) := by decide +kernel
theorem dX3_thinkTreaty_53 : decode cX3_thinkTreaty 53 = .ok (.getfield 231, 3) := by decide +kernel
theorem dX3_thinkTreaty_56 : decode cX3_thinkTreaty 56 = .ok (.iconst 2, 1) := by decide +kernel
theorem dX3_thinkTreaty_57 : decode cX3_thinkTreaty 57 = .ok (.idiv, 1) := by decide +kernel
theorem dX3_thinkTreaty_58 : decode cX3_thinkTreaty 58 = .ok (.invokevirtual 103, 3) := by decide +kernel
theorem dX3_thinkTreaty_61 : decode cX3_thinkTreaty 61 = .ok (.pop, 1) := by decide +kernel
theorem dX3_thinkTreaty_62 : decode cX3_thinkTreaty 62 = .ok (.aload_n 0, 1) := by decide +kernel
theorem dX3_thinkTreaty_63 : decode cX3_thinkTreaty 63 = .ok (.getfield 16, 3) := by decide +kernel
theorem dX3_thinkTreaty_66 : decode cX3_thinkTreaty 66 = .ok (.iload_n 1, 1) := by decide +kernel
theorem dX3_thinkTreaty_67 : decode cX3_thinkTreaty 67 = .ok (.invokevirtual 155, 3) := by decide +kernel
theorem dX3_thinkTreaty_70 : decode cX3_thinkTreaty 70 = .ok (.return_, 1) := by decide +kernel
theorem dX3_bothKeep_0 : decode cX3_bothKeep 0 = .ok (.aload_n 0, 1) := by decide +kernel
theorem dX3_bothKeep_1 : decode cX3_bothKeep 1 = .ok (.iload_n 1, 1) := by decide +kernel
theorem dX3_bothKeep_2 : decode cX3_bothKeep 2 = .ok (.iload_n 2, 1) := by decide +kernel
theorem dX3_bothKeep_3 : decode cX3_bothKeep 3 = .ok (.iload_n 3, 1) := by decide +kernel
theorem dX3_bothKeep_4 : decode cX3_bothKeep 4 = .ok (.invokevirtual 271, 3) := by decide +kernel
theorem dX3_bothKeep_7 : decode cX3_bothKeep 7 = .ok (.aload_n 0, 1) := by decide +kernel
theorem dX3_bothKeep_8 : decode cX3_bothKeep 8 = .ok (.getfield 16, 3) := by decide +kernel
theorem dX3_bothKeep_11 : decode cX3_bothKeep 11 = .ok (.invokevirtual 125, 3) := by decide +kernel
theorem dX3_bothKeep_14 : decode cX3_bothKeep 14 = .ok (.istore 4, 2) := by decide +kernel
theorem dX3_bothKeep_16 : decode cX3_bothKeep 16 = .ok (.aload_n 0, 1) := by decide +kernel
theorem dX3_bothKeep_17 : decode cX3_bothKeep 17 = .ok (.getfield 16, 3) := by decide +kernel
theorem dX3_bothKeep_20 : decode cX3_bothKeep 20 = .ok (.invokevirtual 128, 3) := by decide +kernel
theorem dX3_bothKeep_23 : decode cX3_bothKeep 23 = .ok (.istore 5, 2) := by decide +kernel
theorem dX3_bothKeep_25 : decode cX3_bothKeep 25 = .ok (.aload_n 0, 1) := by decide +kernel
theorem dX3_bothKeep_26 : decode cX3_bothKeep 26 = .ok (.iload_n 1, 1) := by decide +kernel
theorem dX3_bothKeep_27 : decode cX3_bothKeep 27 = .ok (.iconst 1, 1) := by decide +kernel
theorem dX3_bothKeep_28 : decode cX3_bothKeep 28 = .ok (.iload_n 2, 1) := by decide +kernel
theorem dX3_bothKeep_29 : decode cX3_bothKeep 29 = .ok (.isub, 1) := by decide +kernel
theorem dX3_bothKeep_30 : decode cX3_bothKeep 30 = .ok (.iload_n 3, 1) := by decide +kernel
theorem dX3_bothKeep_31 : decode cX3_bothKeep 31 = .ok (.invokevirtual 271, 3) := by decide +kernel
theorem dX3_bothKeep_34 : decode cX3_bothKeep 34 = .ok (.aload_n 0, 1) := by decide +kernel
theorem dX3_bothKeep_35 : decode cX3_bothKeep 35 = .ok (.getfield 16, 3) := by decide +kernel
theorem dX3_bothKeep_38 : decode cX3_bothKeep 38 = .ok (.invokevirtual 125, 3) := by decide +kernel
theorem dX3_bothKeep_41 : decode cX3_bothKeep 41 = .ok (.iload 4, 2) := by decide +kernel
theorem dX3_bothKeep_43 : decode cX3_bothKeep 43 = .ok (.if_icmp .le 5, 3) := by decide +kernel
theorem dX3_bothKeep_46 : decode cX3_bothKeep 46 = .ok (.iconst 0, 1) := by decide +kernel
theorem dX3_bothKeep_47 : decode cX3_bothKeep 47 = .ok (.ireturn, 1) := by decide +kernel
theorem dX3_bothKeep_48 : decode cX3_bothKeep 48 = .ok (.aload_n 0, 1) := by decide +kernel
theorem dX3_bothKeep_49 : decode cX3_bothKeep 49 = .ok (.iload_n 1, 1) := by decide +kernel
theorem dX3_bothKeep_50 : decode cX3_bothKeep 50 = .ok (.iload_n 2, 1) := by decide +kernel
theorem dX3_bothKeep_51 : decode cX3_bothKeep 51 = .ok (.iconst 1, 1) := by decide +kernel
theorem dX3_bothKeep_52 : decode cX3_bothKeep 52 = .ok (.iload_n 3, 1) := by decide +kernel
theorem dX3_bothKeep_53 : decode cX3_bothKeep 53 = .ok (.isub, 1) := by decide +kernel
theorem dX3_bothKeep_54 : decode cX3_bothKeep 54 = .ok (.invokevirtual 271, 3) := by decide +kernel
theorem dX3_bothKeep_57 : decode cX3_bothKeep 57 = .ok (.aload_n 0, 1) := by decide +kernel
theorem dX3_bothKeep_58 : decode cX3_bothKeep 58 = .ok (.getfield 16, 3) := by decide +kernel
theorem dX3_bothKeep_61 : decode cX3_bothKeep 61 = .ok (.invokevirtual 128, 3) := by decide +kernel
theorem dX3_bothKeep_64 : decode cX3_bothKeep 64 = .ok (.iload 5, 2) := by decide +kernel
theorem dX3_bothKeep_66 : decode cX3_bothKeep 66 = .ok (.if_icmp .gt 7, 3) := by decide +kernel
theorem dX3_bothKeep_69 : decode cX3_bothKeep 69 = .ok (.iconst 1, 1) := by decide +kernel
theorem dX3_bothKeep_70 : decode cX3_bothKeep 70 = .ok (.goto 4, 3) := by decide +kernel
theorem dX3_bothKeep_73 : decode cX3_bothKeep 73 = .ok (.iconst 0, 1) := by decide +kernel
theorem dX3_bothKeep_74 : decode cX3_bothKeep 74 = .ok (.ireturn, 1) := by decide +kernel
theorem dX3_firstNotSo_0 : decode cX3_firstNotSo 0 = .ok (.iconst 0, 1) := by decide +kernel
theorem dX3_firstNotSo_1 : decode cX3_firstNotSo 1 = .ok (.istore_n 2, 1) := by decide +kernel
theorem dX3_firstNotSo_2 : decode cX3_firstNotSo 2 = .ok (.iload_n 2, 1) := by decide +kernel
theorem dX3_firstNotSo_3 : decode cX3_firstNotSo 3 = .ok (.aload_n 0, 1) := by decide +kernel
theorem dX3_firstNotSo_4 : decode cX3_firstNotSo 4 = .ok (.getfield 37, 3) := by decide +kernel
theorem dX3_firstNotSo_7 : decode cX3_firstNotSo 7 = .ok (.if_icmp .ge 53, 3) := by decide +kernel
theorem dX3_firstNotSo_10 : decode cX3_firstNotSo 10 = .ok (.iload_n 2, 1) := by decide +kernel
theorem dX3_firstNotSo_11 : decode cX3_firstNotSo 11 = .ok (.aload_n 0, 1) := by decide +kernel
theorem dX3_firstNotSo_12 : decode cX3_firstNotSo 12 = .ok (.getfield 33, 3) := by decide +kernel
theorem dX3_firstNotSo_15 : decode cX3_firstNotSo 15 = .ok (.arraylength, 1) := by decide +kernel
theorem dX3_firstNotSo_16 : decode cX3_firstNotSo 16 = .ok (.if_icmp .ge 44, 3) := by decide +kernel
theorem dX3_firstNotSo_19 : decode cX3_firstNotSo 19 = .ok (.aload_n 0, 1) := by decide +kernel
theorem dX3_firstNotSo_20 : decode cX3_firstNotSo 20 = .ok (.getfield 16, 3) := by decide +kernel
theorem dX3_firstNotSo_23 : decode cX3_firstNotSo 23 = .ok (.iload_n 1, 1) := by decide +kernel
theorem dX3_firstNotSo_24 : decode cX3_firstNotSo 24 = .ok (.invokevirtual 76, 3) := by decide +kernel
theorem dX3_firstNotSo_27 : decode cX3_firstNotSo 27 = .ok (.getfield 88, 3) := by decide +kernel
theorem dX3_firstNotSo_30 : decode cX3_firstNotSo 30 = .ok (.bipush 99, 2) := by decide +kernel
theorem dX3_firstNotSo_32 : decode cX3_firstNotSo 32 = .ok (.invokestatic 178, 3) := by decide +kernel
theorem dX3_firstNotSo_35 : decode cX3_firstNotSo 35 = .ok (.aload_n 0, 1) := by decide +kernel
theorem dX3_firstNotSo_36 : decode cX3_firstNotSo 36 = .ok (.getfield 33, 3) := by decide +kernel
theorem dX3_firstNotSo_39 : decode cX3_firstNotSo 39 = .ok (.iload_n 2, 1) := by decide +kernel
theorem dX3_firstNotSo_40 : decode cX3_firstNotSo 40 = .ok (.iaload, 1) := by decide +kernel
theorem dX3_firstNotSo_41 : decode cX3_firstNotSo 41 = .ok (.if_icmp .eq 5, 3) := by decide +kernel
theorem dX3_firstNotSo_44 : decode cX3_firstNotSo 44 = .ok (.iload_n 2, 1) := by decide +kernel
theorem dX3_firstNotSo_45 : decode cX3_firstNotSo 45 = .ok (.ireturn, 1) := by decide +kernel
theorem dX3_firstNotSo_46 : decode cX3_firstNotSo 46 = .ok (.aload_n 0, 1) := by decide +kernel
theorem dX3_firstNotSo_47 : decode cX3_firstNotSo 47 = .ok (.getfield 16, 3) := by decide +kernel
theorem dX3_firstNotSo_50 : decode cX3_firstNotSo 50 = .ok (.iconst 1, 1) := by decide +kernel
theorem dX3_firstNotSo_51 : decode cX3_firstNotSo 51 = .ok (.invokevirtual 155, 3) := by decide +kernel
theorem dX3_firstNotSo_54 : decode cX3_firstNotSo 54 = .ok (.iinc 2 1, 3) := by decide +kernel
theorem dX3_firstNotSo_57 : decode cX3_firstNotSo 57 = .ok (.goto (-55), 3) := by decide +kernel
theorem dX3_firstNotSo_60 : decode cX3_firstNotSo 60 = .ok (.bipush (-9), 2) := by decide +kernel
theorem dX3_firstNotSo_62 : decode cX3_firstNotSo 62 = .ok (.ireturn, 1) := by decide +kernel
theorem dX3_kindsByRow_0 : decode cX3_kindsByRow 0 = .ok (.iconst 0, 1) := by decide +kernel
theorem dX3_kindsByRow_1 : decode cX3_kindsByRow 1 = .ok (.istore_n 2, 1) := by decide +kernel
theorem dX3_kindsByRow_2 : decode cX3_kindsByRow 2 = .ok (.iconst 0, 1) := by decide +kernel
theorem dX3_kindsByRow_3 : decode cX3_kindsByRow 3 = .ok (.istore_n 3, 1) := by decide +kernel
theorem dX3_kindsByRow_4 : decode cX3_kindsByRow 4 = .ok (.iload_n 3, 1) := by decide +kernel
theorem dX3_kindsByRow_5 : decode cX3_kindsByRow 5 = .ok (.bipush 6, 2) := by decide +kernel
theorem dX3_kindsByRow_7 : decode cX3_kindsByRow 7 = .ok (.if_icmp .ge 48, 3) := by decide +kernel
theorem dX3_kindsByRow_10 : decode cX3_kindsByRow 10 = .ok (.aload_n 0, 1) := by decide +kernel
theorem dX3_kindsByRow_11 : decode cX3_kindsByRow 11 = .ok (.getfield 16, 3) := by decide +kernel
theorem dX3_kindsByRow_14 : decode cX3_kindsByRow 14 = .ok (.aload_n 0, 1) := by decide +kernel
theorem dX3_kindsByRow_15 : decode cX3_kindsByRow 15 = .ok (.getfield 10, 3) := by decide +kernel
theorem dX3_kindsByRow_18 : decode cX3_kindsByRow 18 = .ok (.invokevirtual 151, 3) := by decide +kernel
theorem dX3_kindsByRow_21 : decode cX3_kindsByRow 21 = .ok (.aload_n 0, 1) := by decide +kernel
theorem dX3_kindsByRow_22 : decode cX3_kindsByRow 22 = .ok (.getfield 16, 3) := by decide +kernel
theorem dX3_kindsByRow_25 : decode cX3_kindsByRow 25 = .ok (.iload_n 1, 1) := by decide +kernel
theorem dX3_kindsByRow_26 : decode cX3_kindsByRow 26 = .ok (.invokevirtual 76, 3) := by decide +kernel
theorem dX3_kindsByRow_29 : decode cX3_kindsByRow 29 = .ok (.iload_n 3, 1) := by decide +kernel
theorem dX3_kindsByRow_30 : decode cX3_kindsByRow 30 = .ok (.putfield 80, 3) := by decide +kernel
theorem dX3_kindsByRow_33 : decode cX3_kindsByRow 33 = .ok (.aload_n 0, 1) := by decide +kernel
theorem dX3_kindsByRow_34 : decode cX3_kindsByRow 34 = .ok (.iload_n 1, 1) := by decide +kernel
theorem dX3_kindsByRow_35 : decode cX3_kindsByRow 35 = .ok (.invokevirtual 207, 3) := by decide +kernel
theorem dX3_kindsByRow_38 : decode cX3_kindsByRow 38 = .ok (.bipush (-9), 2) := by decide +kernel
theorem dX3_kindsByRow_40 : decode cX3_kindsByRow 40 = .ok (.if_icmp .ne 9, 3) := by decide +kernel
theorem dX3_kindsByRow_43 : decode cX3_kindsByRow 43 = .ok (.iload_n 2, 1) := by decide +kernel
theorem dX3_kindsByRow_44 : decode cX3_kindsByRow 44 = .ok (.iconst 1, 1) := by decide +kernel
theorem dX3_kindsByRow_45 : decode cX3_kindsByRow 45 = .ok (.iload_n 3, 1) := by decide +kernel
theorem dX3_kindsByRow_46 : decode cX3_kindsByRow 46 = .ok (.ishl, 1) := by decide +kernel
theorem dX3_kindsByRow_47 : decode cX3_kindsByRow 47 = .ok (.ior, 1) := by decide +kernel
theorem dX3_kindsByRow_48 : decode cX3_kindsByRow 48 = .ok (.istore_n 2, 1) := by decide +kernel
theorem dX3_kindsByRow_49 : decode cX3_kindsByRow 49 = .ok (.iinc 3 1, 3) := by decide +kernel
theorem dX3_kindsByRow_52 : decode cX3_kindsByRow 52 = .ok (.goto (-48), 3) := by decide +kernel
theorem dX3_kindsByRow_55 : decode cX3_kindsByRow 55 = .ok (.iload_n 2, 1) := by decide +kernel
theorem dX3_kindsByRow_56 : decode cX3_kindsByRow 56 = .ok (.ireturn, 1) := by decide +kernel
theorem dX3_ratesByRow_0 : decode cX3_ratesByRow 0 = .ok (.iconst 0, 1) := by decide +kernel
theorem dX3_ratesByRow_1 : decode cX3_ratesByRow 1 = .ok (.istore_n 2, 1) := by decide +kernel
theorem dX3_ratesByRow_2 : decode cX3_ratesByRow 2 = .ok (.iconst 0, 1) := by decide +kernel
theorem dX3_ratesByRow_3 : decode cX3_ratesByRow 3 = .ok (.istore_n 3, 1) := by decide +kernel
theorem dX3_ratesByRow_4 : decode cX3_ratesByRow 4 = .ok (.iload_n 3, 1) := by decide +kernel
theorem dX3_ratesByRow_5 : decode cX3_ratesByRow 5 = .ok (.bipush 40, 2) := by decide +kernel
theorem dX3_ratesByRow_7 : decode cX3_ratesByRow 7 = .ok (.if_icmp .gt 43, 3) := by decide +kernel
theorem dX3_ratesByRow_10 : decode cX3_ratesByRow 10 = .ok (.aload_n 0, 1) := by decide +kernel
theorem dX3_ratesByRow_11 : decode cX3_ratesByRow 11 = .ok (.getfield 16, 3) := by decide +kernel
theorem dX3_ratesByRow_14 : decode cX3_ratesByRow 14 = .ok (.aload_n 0, 1) := by decide +kernel
theorem dX3_ratesByRow_15 : decode cX3_ratesByRow 15 = .ok (.getfield 10, 3) := by decide +kernel
theorem dX3_ratesByRow_18 : decode cX3_ratesByRow 18 = .ok (.invokevirtual 151, 3) := by decide +kernel
theorem dX3_ratesByRow_21 : decode cX3_ratesByRow 21 = .ok (.aload_n 0, 1) := by decide +kernel
theorem dX3_ratesByRow_22 : decode cX3_ratesByRow 22 = .ok (.getfield 16, 3) := by decide +kernel
theorem dX3_ratesByRow_25 : decode cX3_ratesByRow 25 = .ok (.iconst 0, 1) := by decide +kernel
theorem dX3_ratesByRow_26 : decode cX3_ratesByRow 26 = .ok (.iload_n 3, 1) := by decide +kernel
theorem dX3_ratesByRow_27 : decode cX3_ratesByRow 27 = .ok (.invokevirtual 103, 3) := by decide +kernel
theorem dX3_ratesByRow_30 : decode cX3_ratesByRow 30 = .ok (.pop, 1) := by decide +kernel
theorem dX3_ratesByRow_31 : decode cX3_ratesByRow 31 = .ok (.aload_n 0, 1) := by decide +kernel
theorem dX3_ratesByRow_32 : decode cX3_ratesByRow 32 = .ok (.iload_n 1, 1) := by decide +kernel
theorem dX3_ratesByRow_33 : decode cX3_ratesByRow 33 = .ok (.invokevirtual 207, 3) := by decide +kernel
theorem dX3_ratesByRow_36 : decode cX3_ratesByRow 36 = .ok (.bipush (-9), 2) := by decide +kernel
theorem dX3_ratesByRow_38 : decode cX3_ratesByRow 38 = .ok (.if_icmp .ne 6, 3) := by decide +kernel
theorem dX3_ratesByRow_41 : decode cX3_ratesByRow 41 = .ok (.iinc 2 1, 3) := by decide +kernel
theorem dX3_ratesByRow_44 : decode cX3_ratesByRow 44 = .ok (.iinc 3 1, 3) := by decide +kernel
theorem dX3_ratesByRow_47 : decode cX3_ratesByRow 47 = .ok (.goto (-43), 3) := by decide +kernel
theorem dX3_ratesByRow_50 : decode cX3_ratesByRow 50 = .ok (.iload_n 2, 1) := by decide +kernel
theorem dX3_ratesByRow_51 : decode cX3_ratesByRow 51 = .ok (.ireturn, 1) := by decide +kernel
theorem dX3_amountByLents_0 : decode cX3_amountByLents 0 = .ok (.aload_n 0, 1) := by decide +kernel
theorem dX3_amountByLents_1 : decode cX3_amountByLents 1 = .ok (.getfield 16, 3) := by decide +kernel
theorem dX3_amountByLents_4 : decode cX3_amountByLents 4 = .ok (.iload_n 1, 1) := by decide +kernel
theorem dX3_amountByLents_5 : decode cX3_amountByLents 5 = .ok (.invokevirtual 76, 3) := by decide +kernel
theorem dX3_amountByLents_8 : decode cX3_amountByLents 8 = .ok (.astore 4, 2) := by decide +kernel
theorem dX3_amountByLents_10 : decode cX3_amountByLents 10 = .ok (.aload 4, 2) := by decide +kernel
theorem dX3_amountByLents_12 : decode cX3_amountByLents 12 = .ok (.aload_n 0, 1) := by decide +kernel
theorem dX3_amountByLents_13 : decode cX3_amountByLents 13 = .ok (.getfield 10, 3) := by decide +kernel
theorem dX3_amountByLents_16 : decode cX3_amountByLents 16 = .ok (.iload_n 1, 1) := by decide +kernel
theorem dX3_amountByLents_17 : decode cX3_amountByLents 17 = .ok (.invokevirtual 76, 3) := by decide +kernel
theorem dX3_amountByLents_20 : decode cX3_amountByLents 20 = .ok (.invokevirtual 275, 3) := by decide +kernel
theorem dX3_amountByLents_23 : decode cX3_amountByLents 23 = .ok (.iconst 0, 1) := by decide +kernel
theorem dX3_amountByLents_24 : decode cX3_amountByLents 24 = .ok (.istore 5, 2) := by decide +kernel
theorem dX3_amountByLents_26 : decode cX3_amountByLents 26 = .ok (.iload 5, 2) := by decide +kernel
theorem dX3_amountByLents_28 : decode cX3_amountByLents 28 = .ok (.iload_n 2, 1) := by decide +kernel
theorem dX3_amountByLents_29 : decode cX3_amountByLents 29 = .ok (.if_icmp .ge 48, 3) := by decide +kernel
theorem dX3_amountByLents_32 : decode cX3_amountByLents 32 = .ok (.aload 4, 2) := by decide +kernel
theorem dX3_amountByLents_34 : decode cX3_amountByLents 34 = .ok (.aload_n 0, 1) := by decide +kernel
theorem dX3_amountByLents_35 : decode cX3_amountByLents 35 = .ok (.getfield 10, 3) := by decide +kernel
theorem dX3_amountByLents_38 : decode cX3_amountByLents 38 = .ok (.iload_n 3, 1) := by decide +kernel
theorem dX3_amountByLents_39 : decode cX3_amountByLents 39 = .ok (.iload 5, 2) := by decide +kernel
theorem dX3_amountByLents_41 : decode cX3_amountByLents 41 = .ok (.ishr, 1) := by decide +kernel
theorem dX3_amountByLents_42 : decode cX3_amountByLents 42 = .ok (.iconst 1, 1) := by decide +kernel
theorem dX3_amountByLents_43 : decode cX3_amountByLents 43 = .ok (.iand, 1) := by decide +kernel
theorem dX3_amountByLents_44 : decode cX3_amountByLents 44 = .ok (.iconst 1, 1) := by decide +kernel
theorem dX3_amountByLents_45 : decode cX3_amountByLents 45 = .ok (.if_icmp .ne 7, 3) := by decide +kernel
theorem dX3_amountByLents_48 : decode cX3_amountByLents 48 = .ok (.iconst 1, 1) := by decide +kernel
theorem dX3_amountByLents_49 : decode cX3_amountByLents 49 = .ok (.goto 4, 3) := by decide +kernel
theorem dX3_amountByLents_52 : decode cX3_amountByLents 52 = .ok (.iconst 0, 1) := by decide +kernel
theorem dX3_amountByLents_53 : decode cX3_amountByLents 53 = .ok (.invokevirtual 278, 3) := by decide +kernel
theorem dX3_amountByLents_56 : decode cX3_amountByLents 56 = .ok (.aload_n 0, 1) := by decide +kernel
theorem dX3_amountByLents_57 : decode cX3_amountByLents 57 = .ok (.getfield 10, 3) := by decide +kernel
theorem dX3_amountByLents_60 : decode cX3_amountByLents 60 = .ok (.getfield 115, 3) := by decide +kernel
theorem dX3_amountByLents_63 : decode cX3_amountByLents 63 = .ok (.iconst 1, 1) := by decide +kernel
theorem dX3_amountByLents_64 : decode cX3_amountByLents 64 = .ok (.iadd, 1) := by decide +kernel
theorem dX3_amountByLents_65 : decode cX3_amountByLents 65 = .ok (.iload 5, 2) := by decide +kernel
theorem dX3_amountByLents_67 : decode cX3_amountByLents 67 = .ok (.iadd, 1) := by decide +kernel
theorem dX3_amountByLents_68 : decode cX3_amountByLents 68 = .ok (.invokevirtual 282, 3) := by decide +kernel
theorem dX3_amountByLents_71 : decode cX3_amountByLents 71 = .ok (.iinc 5 1, 3) := by decide +kernel
theorem dX3_amountByLents_74 : decode cX3_amountByLents 74 = .ok (.goto (-48), 3) := by decide +kernel
theorem dX3_amountByLents_77 : decode cX3_amountByLents 77 = .ok (.aload 4, 2) := by decide +kernel
theorem dX3_amountByLents_79 : decode cX3_amountByLents 79 = .ok (.getfield 88, 3) := by decide +kernel
theorem dX3_amountByLents_82 : decode cX3_amountByLents 82 = .ok (.ireturn, 1) := by decide +kernel
theorem dX3_nextSeed_0 : decode cX3_nextSeed 0 = .ok (.iload_n 0, 1) := by decide +kernel
theorem dX3_nextSeed_1 : decode cX3_nextSeed 1 = .ok (.ldc_w 285, 3) := by decide +kernel
theorem dX3_nextSeed_4 : decode cX3_nextSeed 4 = .ok (.imul, 1) := by decide +kernel
theorem dX3_nextSeed_5 : decode cX3_nextSeed 5 = .ok (.ldc_w 286, 3) := by decide +kernel
theorem dX3_nextSeed_8 : decode cX3_nextSeed 8 = .ok (.iadd, 1) := by decide +kernel
theorem dX3_nextSeed_9 : decode cX3_nextSeed 9 = .ok (.ireturn, 1) := by decide +kernel
theorem dX3_drawn_0 : decode cX3_drawn 0 = .ok (.iload_n 1, 1) := by decide +kernel
theorem dX3_drawn_1 : decode cX3_drawn 1 = .ok (.ifCond .le 17, 3) := by decide +kernel
theorem dX3_drawn_4 : decode cX3_drawn 4 = .ok (.iload_n 0, 1) := by decide +kernel
theorem dX3_drawn_5 : decode cX3_drawn 5 = .ok (.ldc_w 287, 3) := by decide +kernel
theorem dX3_drawn_8 : decode cX3_drawn 8 = .ok (.iand, 1) := by decide +kernel
theorem dX3_drawn_9 : decode cX3_drawn 9 = .ok (.sipush 256, 3) := by decide +kernel
theorem dX3_drawn_12 : decode cX3_drawn 12 = .ok (.idiv, 1) := by decide +kernel
theorem dX3_drawn_13 : decode cX3_drawn 13 = .ok (.iload_n 1, 1) := by decide +kernel
theorem dX3_drawn_14 : decode cX3_drawn 14 = .ok (.irem, 1) := by decide +kernel
theorem dX3_drawn_15 : decode cX3_drawn 15 = .ok (.goto 4, 3) := by decide +kernel
theorem dX3_drawn_18 : decode cX3_drawn 18 = .ok (.iconst 0, 1) := by decide +kernel
theorem dX3_drawn_19 : decode cX3_drawn 19 = .ok (.ireturn, 1) := by decide +kernel
theorem dX3_power_0 : decode cX3_power 0 = .ok (.lconst 1, 1) := by decide +kernel
theorem dX3_power_1 : decode cX3_power 1 = .ok (.lstore_n 3, 1) := by decide +kernel
theorem dX3_power_2 : decode cX3_power 2 = .ok (.iconst 0, 1) := by decide +kernel
theorem dX3_power_3 : decode cX3_power 3 = .ok (.istore 5, 2) := by decide +kernel
theorem dX3_power_5 : decode cX3_power 5 = .ok (.iload 5, 2) := by decide +kernel
theorem dX3_power_7 : decode cX3_power 7 = .ok (.iload_n 2, 1) := by decide +kernel
theorem dX3_power_8 : decode cX3_power 8 = .ok (.if_icmp .ge 13, 3) := by decide +kernel
theorem dX3_power_11 : decode cX3_power 11 = .ok (.lload_n 3, 1) := by decide +kernel
theorem dX3_power_12 : decode cX3_power 12 = .ok (.lload_n 0, 1) := by decide +kernel
theorem dX3_power_13 : decode cX3_power 13 = .ok (.lmul, 1) := by decide +kernel
theorem dX3_power_14 : decode cX3_power 14 = .ok (.lstore_n 3, 1) := by decide +kernel
theorem dX3_power_15 : decode cX3_power 15 = .ok (.iinc 5 1, 3) := by decide +kernel
theorem dX3_power_18 : decode cX3_power 18 = .ok (.goto (-13), 3) := by decide +kernel
theorem dX3_power_21 : decode cX3_power 21 = .ok (.lload_n 3, 1) := by decide +kernel
theorem dX3_power_22 : decode cX3_power 22 = .ok (.lreturn, 1) := by decide +kernel
theorem dX3_partOf_0 : decode cX3_partOf 0 = .ok (.lload_n 0, 1) := by decide +kernel
theorem dX3_partOf_1 : decode cX3_partOf 1 = .ok (.lconst 0, 1) := by decide +kernel
theorem dX3_partOf_2 : decode cX3_partOf 2 = .ok (.lcmp, 1) := by decide +kernel
theorem dX3_partOf_3 : decode cX3_partOf 3 = .ok (.ifCond .ne 7, 3) := by decide +kernel
theorem dX3_partOf_6 : decode cX3_partOf 6 = .ok (.iload 4, 2) := by decide +kernel
theorem dX3_partOf_8 : decode cX3_partOf 8 = .ok (.i2l, 1) := by decide +kernel
theorem dX3_partOf_9 : decode cX3_partOf 9 = .ok (.lreturn, 1) := by decide +kernel
theorem dX3_partOf_10 : decode cX3_partOf 10 = .ok (.lload_n 0, 1) := by decide +kernel
theorem dX3_partOf_11 : decode cX3_partOf 11 = .ok (.lload_n 2, 1) := by decide +kernel
theorem dX3_partOf_12 : decode cX3_partOf 12 = .ok (.invokestatic 288, 3) := by decide +kernel
theorem dX3_partOf_15 : decode cX3_partOf 15 = .ok (.lstore 5, 2) := by decide +kernel
theorem dX3_partOf_17 : decode cX3_partOf 17 = .ok (.lload 5, 2) := by decide +kernel
theorem dX3_partOf_19 : decode cX3_partOf 19 = .ok (.lconst 0, 1) := by decide +kernel
theorem dX3_partOf_20 : decode cX3_partOf 20 = .ok (.lcmp, 1) := by decide +kernel
theorem dX3_partOf_21 : decode cX3_partOf 21 = .ok (.ifCond .ne 7, 3) := by decide +kernel
theorem dX3_partOf_24 : decode cX3_partOf 24 = .ok (.lconst 0, 1) := by decide +kernel
theorem dX3_partOf_25 : decode cX3_partOf 25 = .ok (.goto 16, 3) := by decide +kernel
theorem dX3_partOf_28 : decode cX3_partOf 28 = .ok (.iload 4, 2) := by decide +kernel
theorem dX3_partOf_30 : decode cX3_partOf 30 = .ok (.ifCond .ne 7, 3) := by decide +kernel
theorem dX3_partOf_33 : decode cX3_partOf 33 = .ok (.lload_n 0, 1) := by decide +kernel
theorem dX3_partOf_34 : decode cX3_partOf 34 = .ok (.goto 4, 3) := by decide +kernel
theorem dX3_partOf_37 : decode cX3_partOf 37 = .ok (.lload_n 2, 1) := by decide +kernel
theorem dX3_partOf_38 : decode cX3_partOf 38 = .ok (.lload 5, 2) := by decide +kernel
theorem dX3_partOf_40 : decode cX3_partOf 40 = .ok (.ldiv, 1) := by decide +kernel
theorem dX3_partOf_41 : decode cX3_partOf 41 = .ok (.lreturn, 1) := by decide +kernel
theorem dX3_commonDivisor_0 : decode cX3_commonDivisor 0 = .ok (.lload_n 0, 1) := by decide +kernel
theorem dX3_commonDivisor_1 : decode cX3_commonDivisor 1 = .ok (.lstore 4, 2) := by decide +kernel
theorem dX3_commonDivisor_3 : decode cX3_commonDivisor 3 = .ok (.lload_n 2, 1) := by decide +kernel
theorem dX3_commonDivisor_4 : decode cX3_commonDivisor 4 = .ok (.lstore 6, 2) := by decide +kernel
theorem dX3_commonDivisor_6 : decode cX3_commonDivisor 6 = .ok (.iconst 0, 1) := by decide +kernel
theorem dX3_commonDivisor_7 : decode cX3_commonDivisor 7 = .ok (.istore 8, 2) := by decide +kernel
theorem dX3_commonDivisor_9 : decode cX3_commonDivisor 9 = .ok (.iload 8, 2) := by decide +kernel
theorem dX3_commonDivisor_11 : decode cX3_commonDivisor 11 = .ok (.bipush 100, 2) := by decide +kernel
theorem dX3_commonDivisor_13 : decode cX3_commonDivisor 13 = .ok (.if_icmp .ge 31, 3) := by decide +kernel
theorem dX3_commonDivisor_16 : decode cX3_commonDivisor 16 = .ok (.lload 6, 2) := by decide +kernel
theorem dX3_commonDivisor_18 : decode cX3_commonDivisor 18 = .ok (.lconst 0, 1) := by decide +kernel
theorem dX3_commonDivisor_19 : decode cX3_commonDivisor 19 = .ok (.lcmp, 1) := by decide +kernel
theorem dX3_commonDivisor_20 : decode cX3_commonDivisor 20 = .ok (.ifCond .eq 24, 3) := by decide +kernel
theorem dX3_commonDivisor_23 : decode cX3_commonDivisor 23 = .ok (.lload 4, 2) := by decide +kernel
theorem dX3_commonDivisor_25 : decode cX3_commonDivisor 25 = .ok (.lload 6, 2) := by decide +kernel
theorem dX3_commonDivisor_27 : decode cX3_commonDivisor 27 = .ok (.lrem, 1) := by decide +kernel
theorem dX3_commonDivisor_28 : decode cX3_commonDivisor 28 = .ok (.lstore 9, 2) := by decide +kernel
theorem dX3_commonDivisor_30 : decode cX3_commonDivisor 30 = .ok (.lload 6, 2) := by decide +kernel
theorem dX3_commonDivisor_32 : decode cX3_commonDivisor 32 = .ok (.lstore 4, 2) := by decide +kernel
theorem dX3_commonDivisor_34 : decode cX3_commonDivisor 34 = .ok (.lload 9, 2) := by decide +kernel
theorem dX3_commonDivisor_36 : decode cX3_commonDivisor 36 = .ok (.lstore 6, 2) := by decide +kernel
theorem dX3_commonDivisor_38 : decode cX3_commonDivisor 38 = .ok (.iinc 8 1, 3) := by decide +kernel
theorem dX3_commonDivisor_41 : decode cX3_commonDivisor 41 = .ok (.goto (-32), 3) := by decide +kernel
theorem dX3_commonDivisor_44 : decode cX3_commonDivisor 44 = .ok (.lload 4, 2) := by decide +kernel
theorem dX3_commonDivisor_46 : decode cX3_commonDivisor 46 = .ok (.lreturn, 1) := by decide +kernel
end
section
theorem dX4_isIn_0 : decode cX4_isIn 0 = .ok (.iload_n 0, 1) := by decide +kernel
theorem dX4_isIn_1 : decode cX4_isIn 1 = .ok (.iload_n 1, 1) := by decide +kernel
theorem dX4_isIn_2 : decode cX4_isIn 2 = .ok (.if_icmp .lt 12, 3) := by decide +kernel
theorem dX4_isIn_5 : decode cX4_isIn 5 = .ok (.iload_n 0, 1) := by decide +kernel
theorem dX4_isIn_6 : decode cX4_isIn 6 = .ok (.iload_n 2, 1) := by decide +kernel
theorem dX4_isIn_7 : decode cX4_isIn 7 = .ok (.if_icmp .gt 7, 3) := by decide +kernel
theorem dX4_isIn_10 : decode cX4_isIn 10 = .ok (.iconst 1, 1) := by decide +kernel
theorem dX4_isIn_11 : decode cX4_isIn 11 = .ok (.goto 4, 3) := by decide +kernel
theorem dX4_isIn_14 : decode cX4_isIn 14 = .ok (.iconst 0, 1) := by decide +kernel
theorem dX4_isIn_15 : decode cX4_isIn 15 = .ok (.ireturn, 1) := by decide +kernel
theorem dX4_least_0 : decode cX4_least 0 = .ok (.iload_n 0, 1) := by decide +kernel
theorem dX4_least_1 : decode cX4_least 1 = .ok (.iload_n 1, 1) := by decide +kernel
theorem dX4_least_2 : decode cX4_least 2 = .ok (.if_icmp .ge 7, 3) := by decide +kernel
theorem dX4_least_5 : decode cX4_least 5 = .ok (.iload_n 0, 1) := by decide +kernel
theorem dX4_least_6 : decode cX4_least 6 = .ok (.goto 4, 3) := by decide +kernel
theorem dX4_least_9 : decode cX4_least 9 = .ok (.iload_n 1, 1) := by decide +kernel
theorem dX4_least_10 : decode cX4_least 10 = .ok (.ireturn, 1) := by decide +kernel
theorem dX4_size_0 : decode cX4_size 0 = .ok (.iload_n 0, 1) := by decide +kernel
theorem dX4_size_1 : decode cX4_size 1 = .ok (.ifCond .ge 8, 3) := by decide +kernel
theorem dX4_size_4 : decode cX4_size 4 = .ok (.iload_n 0, 1) := by decide +kernel
theorem dX4_size_5 : decode cX4_size 5 = .ok (.ineg, 1) := by decide +kernel
theorem dX4_size_6 : decode cX4_size 6 = .ok (.goto 4, 3) := by decide +kernel
theorem dX4_size_9 : decode cX4_size 9 = .ok (.iload_n 0, 1) := by decide +kernel
theorem dX4_size_10 : decode cX4_size 10 = .ok (.ireturn, 1) := by decide +kernel
theorem dX4_lays_0 : decode cX4_lays 0 = .ok (.iconst 0, 1) := by decide +kernel
theorem dX4_lays_1 : decode cX4_lays 1 = .ok (.istore_n 2, 1) := by decide +kernel
theorem dX4_lays_2 : decode cX4_lays 2 = .ok (.iload_n 2, 1) := by decide +kernel
theorem dX4_lays_3 : decode cX4_lays 3 = .ok (.bipush 47, 2) := by decide +kernel
theorem dX4_lays_5 : decode cX4_lays 5 = .ok (.if_icmp .ge 15, 3) := by decide +kernel
theorem dX4_lays_8 : decode cX4_lays 8 = .ok (.aload_n 1, 1) := by decide +kernel
theorem dX4_lays_9 : decode cX4_lays 9 = .ok (.iload_n 2, 1) := by decide +kernel
theorem dX4_lays_10 : decode cX4_lays 10 = .ok (.aload_n 0, 1) := by decide +kernel
theorem dX4_lays_11 : decode cX4_lays 11 = .ok (.iload_n 2, 1) := by decide +kernel
theorem dX4_lays_12 : decode cX4_lays 12 = .ok (.iaload, 1) := by decide +kernel
theorem dX4_lays_13 : decode cX4_lays 13 = .ok (.iastore, 1) := by decide +kernel
theorem dX4_lays_14 : decode cX4_lays 14 = .ok (.iinc 2 1, 3) := by decide +kernel
theorem dX4_lays_17 : decode cX4_lays 17 = .ok (.goto (-15), 3) := by decide +kernel
theorem dX4_lays_20 : decode cX4_lays 20 = .ok (.return_, 1) := by decide +kernel
theorem dX4_no_0 : decode cX4_no 0 = .ok (.aload_n 0, 1) := by decide +kernel
theorem dX4_no_1 : decode cX4_no 1 = .ok (.getfield 28, 3) := by decide +kernel
theorem dX4_no_4 : decode cX4_no 4 = .ok (.iload_n 1, 1) := by decide +kernel
theorem dX4_no_5 : decode cX4_no 5 = .ok (.ineg, 1) := by decide +kernel
theorem dX4_no_6 : decode cX4_no 6 = .ok (.dup2, 1) := by decide +kernel
theorem dX4_no_7 : decode cX4_no 7 = .ok (.iaload, 1) := by decide +kernel
theorem dX4_no_8 : decode cX4_no 8 = .ok (.iconst 1, 1) := by decide +kernel
theorem dX4_no_9 : decode cX4_no 9 = .ok (.iadd, 1) := by decide +kernel
theorem dX4_no_10 : decode cX4_no 10 = .ok (.iastore, 1) := by decide +kernel
theorem dX4_no_11 : decode cX4_no 11 = .ok (.iload_n 1, 1) := by decide +kernel
theorem dX4_no_12 : decode cX4_no 12 = .ok (.ireturn, 1) := by decide +kernel
theorem dX4_noWide_0 : decode cX4_noWide 0 = .ok (.ldc2_w 34, 3) := by decide +kernel
theorem dX4_noWide_3 : decode cX4_noWide 3 = .ok (.aload_n 0, 1) := by decide +kernel
theorem dX4_noWide_4 : decode cX4_noWide 4 = .ok (.iload_n 1, 1) := by decide +kernel
theorem dX4_noWide_5 : decode cX4_noWide 5 = .ok (.invokevirtual 36, 3) := by decide +kernel
theorem dX4_noWide_8 : decode cX4_noWide 8 = .ok (.i2l, 1) := by decide +kernel
theorem dX4_noWide_9 : decode cX4_noWide 9 = .ok (.lsub, 1) := by decide +kernel
theorem dX4_noWide_10 : decode cX4_noWide 10 = .ok (.lreturn, 1) := by decide +kernel
theorem dX4_isCask_0 : decode cX4_isCask 0 = .ok (.iload_n 1, 1) := by decide +kernel
theorem dX4_isCask_1 : decode cX4_isCask 1 = .ok (.iconst 0, 1) := by decide +kernel
theorem dX4_isCask_2 : decode cX4_isCask 2 = .ok (.aload_n 0, 1) := by decide +kernel
theorem dX4_isCask_3 : decode cX4_isCask 3 = .ok (.getfield 9, 3) := by decide +kernel
theorem dX4_isCask_6 : decode cX4_isCask 6 = .ok (.iconst 0, 1) := by decide +kernel
theorem dX4_isCask_7 : decode cX4_isCask 7 = .ok (.iaload, 1) := by decide +kernel
theorem dX4_isCask_8 : decode cX4_isCask 8 = .ok (.iconst 1, 1) := by decide +kernel
theorem dX4_isCask_9 : decode cX4_isCask 9 = .ok (.isub, 1) := by decide +kernel
theorem dX4_isCask_10 : decode cX4_isCask 10 = .ok (.invokestatic 40, 3) := by decide +kernel
theorem dX4_isCask_13 : decode cX4_isCask 13 = .ok (.ireturn, 1) := by decide +kernel
theorem dX4_at_0 : decode cX4_at 0 = .ok (.iconst 5, 1) := by decide +kernel
theorem dX4_at_1 : decode cX4_at 1 = .ok (.bipush 6, 2) := by decide +kernel
theorem dX4_at_3 : decode cX4_at 3 = .ok (.iload_n 0, 1) := by decide +kernel
theorem dX4_at_4 : decode cX4_at 4 = .ok (.imul, 1) := by decide +kernel
theorem dX4_at_5 : decode cX4_at 5 = .ok (.iadd, 1) := by decide +kernel
theorem dX4_at_6 : decode cX4_at 6 = .ok (.iload_n 1, 1) := by decide +kernel
theorem dX4_at_7 : decode cX4_at 7 = .ok (.iadd, 1) := by decide +kernel
theorem dX4_at_8 : decode cX4_at 8 = .ok (.ireturn, 1) := by decide +kernel
theorem dX4_takesOf_0 : decode cX4_takesOf 0 = .ok (.iload_n 2, 1) := by decide +kernel
theorem dX4_takesOf_1 : decode cX4_takesOf 1 = .ok (.iload_n 3, 1) := by decide +kernel
theorem dX4_takesOf_2 : decode cX4_takesOf 2 = .ok (.imul, 1) := by decide +kernel
theorem dX4_takesOf_3 : decode cX4_takesOf 3 = .ok (.bipush 100, 2) := by decide +kernel
theorem dX4_takesOf_5 : decode cX4_takesOf 5 = .ok (.idiv, 1) := by decide +kernel
theorem dX4_takesOf_6 : decode cX4_takesOf 6 = .ok (.istore 4, 2) := by decide +kernel
theorem dX4_takesOf_8 : decode cX4_takesOf 8 = .ok (.aload_n 0, 1) := by decide +kernel
theorem dX4_takesOf_9 : decode cX4_takesOf 9 = .ok (.iload_n 1, 1) := by decide +kernel
theorem dX4_takesOf_10 : decode cX4_takesOf 10 = .ok (.iconst 0, 1) := by decide +kernel
theorem dX4_takesOf_11 : decode cX4_takesOf 11 = .ok (.invokestatic 44, 3) := by decide +kernel
theorem dX4_takesOf_14 : decode cX4_takesOf 14 = .ok (.iaload, 1) := by decide +kernel
theorem dX4_takesOf_15 : decode cX4_takesOf 15 = .ok (.tableswitch 80 1 5 #[33, 80, 38, 40, 55], 33) := by decide +kernel
theorem dX4_takesOf_48 : decode cX4_takesOf 48 = .ok (.iload 4, 2) := by decide +kernel
theorem dX4_takesOf_50 : decode cX4_takesOf 50 = .ok (.iconst 2, 1) := by decide +kernel
theorem dX4_takesOf_51 : decode cX4_takesOf 51 = .ok (.idiv, 1) := by decide +kernel
theorem dX4_takesOf_52 : decode cX4_takesOf 52 = .ok (.ireturn, 1) := by decide +kernel
theorem dX4_takesOf_53 : decode cX4_takesOf 53 = .ok (.iconst 0, 1) := by decide +kernel
theorem dX4_takesOf_54 : decode cX4_takesOf 54 = .ok (.ireturn, 1) := by decide +kernel
theorem dX4_takesOf_55 : decode cX4_takesOf 55 = .ok (.iload_n 2, 1) := by decide +kernel
theorem dX4_takesOf_56 : decode cX4_takesOf 56 = .ok (.iload 4, 2) := by decide +kernel
theorem dX4_takesOf_58 : decode cX4_takesOf 58 = .ok (.aload_n 0, 1) := by decide +kernel
theorem dX4_takesOf_59 : decode cX4_takesOf 59 = .ok (.iload_n 1, 1) := by decide +kernel
theorem dX4_takesOf_60 : decode cX4_takesOf 60 = .ok (.iconst 4, 1) := by decide +kernel
theorem dX4_takesOf_61 : decode cX4_takesOf 61 = .ok (.invokestatic 44, 3) := by decide +kernel
theorem dX4_takesOf_64 : decode cX4_takesOf 64 = .ok (.iaload, 1) := by decide +kernel
theorem dX4_takesOf_65 : decode cX4_takesOf 65 = .ok (.iadd, 1) := by decide +kernel
theorem dX4_takesOf_66 : decode cX4_takesOf 66 = .ok (.invokestatic 48, 3) := by decide +kernel
theorem dX4_takesOf_69 : decode cX4_takesOf 69 = .ok (.ireturn, 1) := by decide +kernel
theorem dX4_takesOf_70 : decode cX4_takesOf 70 = .ok (.iload_n 2, 1) := by decide +kernel
theorem dX4_takesOf_71 : decode cX4_takesOf 71 = .ok (.aload_n 0, 1) := by decide +kernel
theorem dX4_takesOf_72 : decode cX4_takesOf 72 = .ok (.iload_n 1, 1) := by decide +kernel
theorem dX4_takesOf_73 : decode cX4_takesOf 73 = .ok (.iconst 5, 1) := by decide +kernel
theorem dX4_takesOf_74 : decode cX4_takesOf 74 = .ok (.invokestatic 44, 3) := by decide +kernel
theorem dX4_takesOf_77 : decode cX4_takesOf 77 = .ok (.iaload, 1) := by decide +kernel
theorem dX4_takesOf_78 : decode cX4_takesOf 78 = .ok (.iload_n 2, 1) := by decide +kernel
theorem dX4_takesOf_79 : decode cX4_takesOf 79 = .ok (.if_icmp .le 10, 3) := by decide +kernel
theorem dX4_takesOf_82 : decode cX4_takesOf 82 = .ok (.iconst 2, 1) := by decide +kernel
theorem dX4_takesOf_83 : decode cX4_takesOf 83 = .ok (.iload 4, 2) := by decide +kernel
theorem dX4_takesOf_85 : decode cX4_takesOf 85 = .ok (.imul, 1) := by decide +kernel
theorem dX4_takesOf_86 : decode cX4_takesOf 86 = .ok (.goto 5, 3) := by decide +kernel
theorem dX4_takesOf_89 : decode cX4_takesOf 89 = .ok (.iload 4, 2) := by decide +kernel
theorem dX4_takesOf_91 : decode cX4_takesOf 91 = .ok (.invokestatic 48, 3) := by decide +kernel
theorem dX4_takesOf_94 : decode cX4_takesOf 94 = .ok (.ireturn, 1) := by decide +kernel
theorem dX4_takesOf_95 : decode cX4_takesOf 95 = .ok (.iload 4, 2) := by decide +kernel
theorem dX4_takesOf_97 : decode cX4_takesOf 97 = .ok (.ireturn, 1) := by decide +kernel
theorem dX4_strengthOf_0 : decode cX4_strengthOf 0 = .ok (.aload_n 0, 1) := by decide +kernel
theorem dX4_strengthOf_1 : decode cX4_strengthOf 1 = .ok (.iload_n 1, 1) := by decide +kernel
theorem dX4_strengthOf_2 : decode cX4_strengthOf 2 = .ok (.iconst 3, 1) := by decide +kernel
theorem dX4_strengthOf_3 : decode cX4_strengthOf 3 = .ok (.invokestatic 44, 3) := by decide +kernel
theorem dX4_strengthOf_6 : decode cX4_strengthOf 6 = .ok (.iaload, 1) := by decide +kernel
theorem dX4_strengthOf_7 : decode cX4_strengthOf 7 = .ok (.istore_n 3, 1) := by decide +kernel
theorem dX4_strengthOf_8 : decode cX4_strengthOf 8 = .ok (.aload_n 0, 1) := by decide +kernel
theorem dX4_strengthOf_9 : decode cX4_strengthOf 9 = .ok (.iload_n 1, 1) := by decide +kernel
theorem dX4_strengthOf_10 : decode cX4_strengthOf 10 = .ok (.iconst 0, 1) := by decide +kernel
theorem dX4_strengthOf_11 : decode cX4_strengthOf 11 = .ok (.invokestatic 44, 3) := by decide +kernel
theorem dX4_strengthOf_14 : decode cX4_strengthOf 14 = .ok (.iaload, 1) := by decide +kernel
theorem dX4_strengthOf_15 : decode cX4_strengthOf 15 = .ok (.tableswitch 73 1 5 #[33, 45, 73, 45, 64], 33) := by decide +kernel
theorem dX4_strengthOf_48 : decode cX4_strengthOf 48 = .ok (.iload_n 3, 1) := by decide +kernel
theorem dX4_strengthOf_49 : decode cX4_strengthOf 49 = .ok (.ifCond .le 9, 3) := by decide +kernel
theorem dX4_strengthOf_52 : decode cX4_strengthOf 52 = .ok (.iload_n 3, 1) := by decide +kernel
theorem dX4_strengthOf_53 : decode cX4_strengthOf 53 = .ok (.iconst 1, 1) := by decide +kernel
theorem dX4_strengthOf_54 : decode cX4_strengthOf 54 = .ok (.isub, 1) := by decide +kernel
theorem dX4_strengthOf_55 : decode cX4_strengthOf 55 = .ok (.goto 4, 3) := by decide +kernel
theorem dX4_strengthOf_58 : decode cX4_strengthOf 58 = .ok (.iconst 0, 1) := by decide +kernel
theorem dX4_strengthOf_59 : decode cX4_strengthOf 59 = .ok (.ireturn, 1) := by decide +kernel
theorem dX4_strengthOf_60 : decode cX4_strengthOf 60 = .ok (.iload_n 2, 1) := by decide +kernel
theorem dX4_strengthOf_61 : decode cX4_strengthOf 61 = .ok (.iconst 5, 1) := by decide +kernel
theorem dX4_strengthOf_62 : decode cX4_strengthOf 62 = .ok (.irem, 1) := by decide +kernel
theorem dX4_strengthOf_63 : decode cX4_strengthOf 63 = .ok (.ifCond .ne 14, 3) := by decide +kernel
theorem dX4_strengthOf_66 : decode cX4_strengthOf 66 = .ok (.bipush 99, 2) := by decide +kernel
theorem dX4_strengthOf_68 : decode cX4_strengthOf 68 = .ok (.iload_n 3, 1) := by decide +kernel
theorem dX4_strengthOf_69 : decode cX4_strengthOf 69 = .ok (.iconst 1, 1) := by decide +kernel
theorem dX4_strengthOf_70 : decode cX4_strengthOf 70 = .ok (.iadd, 1) := by decide +kernel
theorem dX4_strengthOf_71 : decode cX4_strengthOf 71 = .ok (.invokestatic 48, 3) := by decide +kernel
theorem dX4_strengthOf_74 : decode cX4_strengthOf 74 = .ok (.goto 4, 3) := by decide +kernel
theorem dX4_strengthOf_77 : decode cX4_strengthOf 77 = .ok (.iload_n 3, 1) := by decide +kernel
theorem dX4_strengthOf_78 : decode cX4_strengthOf 78 = .ok (.ireturn, 1) := by decide +kernel
theorem dX4_strengthOf_79 : decode cX4_strengthOf 79 = .ok (.bipush 99, 2) := by decide +kernel
theorem dX4_strengthOf_81 : decode cX4_strengthOf 81 = .ok (.iload_n 3, 1) := by decide +kernel
theorem dX4_strengthOf_82 : decode cX4_strengthOf 82 = .ok (.iconst 1, 1) := by decide +kernel
theorem dX4_strengthOf_83 : decode cX4_strengthOf 83 = .ok (.iadd, 1) := by decide +kernel
theorem dX4_strengthOf_84 : decode cX4_strengthOf 84 = .ok (.invokestatic 48, 3) := by decide +kernel
theorem dX4_strengthOf_87 : decode cX4_strengthOf 87 = .ok (.ireturn, 1) := by decide +kernel
theorem dX4_strengthOf_88 : decode cX4_strengthOf 88 = .ok (.iload_n 3, 1) := by decide +kernel
theorem dX4_strengthOf_89 : decode cX4_strengthOf 89 = .ok (.ireturn, 1) := by decide +kernel
theorem dX4_backOf_0 : decode cX4_backOf 0 = .ok (.aload_n 0, 1) := by decide +kernel
theorem dX4_backOf_1 : decode cX4_backOf 1 = .ok (.iload_n 1, 1) := by decide +kernel
theorem dX4_backOf_2 : decode cX4_backOf 2 = .ok (.iconst 5, 1) := by decide +kernel
theorem dX4_backOf_3 : decode cX4_backOf 3 = .ok (.invokestatic 44, 3) := by decide +kernel
theorem dX4_backOf_6 : decode cX4_backOf 6 = .ok (.iaload, 1) := by decide +kernel
theorem dX4_backOf_7 : decode cX4_backOf 7 = .ok (.istore_n 2, 1) := by decide +kernel
theorem dX4_backOf_8 : decode cX4_backOf 8 = .ok (.aload_n 0, 1) := by decide +kernel
theorem dX4_backOf_9 : decode cX4_backOf 9 = .ok (.iload_n 1, 1) := by decide +kernel
theorem dX4_backOf_10 : decode cX4_backOf 10 = .ok (.iconst 0, 1) := by decide +kernel
theorem dX4_backOf_11 : decode cX4_backOf 11 = .ok (.invokestatic 44, 3) := by decide +kernel
theorem dX4_backOf_14 : decode cX4_backOf 14 = .ok (.iaload, 1) := by decide +kernel
theorem dX4_backOf_15 : decode cX4_backOf 15 = .ok (.tableswitch 64 0 4 #[33, 64, 37, 64, 60], 33) := by decide +kernel
theorem dX4_backOf_48 : decode cX4_backOf 48 = .ok (.iload_n 2, 1) := by decide +kernel
theorem dX4_backOf_49 : decode cX4_backOf 49 = .ok (.iconst 2, 1) := by decide +kernel
theorem dX4_backOf_50 : decode cX4_backOf 50 = .ok (.idiv, 1) := by decide +kernel
theorem dX4_backOf_51 : decode cX4_backOf 51 = .ok (.ireturn, 1) := by decide +kernel
theorem dX4_backOf_52 : decode cX4_backOf 52 = .ok (.iload_n 2, 1) := by decide +kernel
theorem dX4_backOf_53 : decode cX4_backOf 53 = .ok (.aload_n 0, 1) := by decide +kernel
theorem dX4_backOf_54 : decode cX4_backOf 54 = .ok (.iload_n 1, 1) := by decide +kernel
theorem dX4_backOf_55 : decode cX4_backOf 55 = .ok (.iconst 4, 1) := by decide +kernel
theorem dX4_backOf_56 : decode cX4_backOf 56 = .ok (.invokestatic 44, 3) := by decide +kernel
theorem dX4_backOf_59 : decode cX4_backOf 59 = .ok (.iaload, 1) := by decide +kernel
theorem dX4_backOf_60 : decode cX4_backOf 60 = .ok (.if_icmp .lt 13, 3) := by decide +kernel
theorem dX4_backOf_63 : decode cX4_backOf 63 = .ok (.aload_n 0, 1) := by decide +kernel
theorem dX4_backOf_64 : decode cX4_backOf 64 = .ok (.iload_n 1, 1) := by decide +kernel
theorem dX4_backOf_65 : decode cX4_backOf 65 = .ok (.iconst 4, 1) := by decide +kernel
theorem dX4_backOf_66 : decode cX4_backOf 66 = .ok (.invokestatic 44, 3) := by decide +kernel
theorem dX4_backOf_69 : decode cX4_backOf 69 = .ok (.iaload, 1) := by decide +kernel
theorem dX4_backOf_70 : decode cX4_backOf 70 = .ok (.goto 4, 3) := by decide +kernel
theorem dX4_backOf_73 : decode cX4_backOf 73 = .ok (.iconst 0, 1) := by decide +kernel
theorem dX4_backOf_74 : decode cX4_backOf 74 = .ok (.ireturn, 1) := by decide +kernel
theorem dX4_backOf_75 : decode cX4_backOf 75 = .ok (.iload_n 2, 1) := by decide +kernel
theorem dX4_backOf_76 : decode cX4_backOf 76 = .ok (.iconst 3, 1) := by decide +kernel
theorem dX4_backOf_77 : decode cX4_backOf 77 = .ok (.idiv, 1) := by decide +kernel
theorem dX4_backOf_78 : decode cX4_backOf 78 = .ok (.ireturn, 1) := by decide +kernel
theorem dX4_backOf_79 : decode cX4_backOf 79 = .ok (.iconst 0, 1) := by decide +kernel
theorem dX4_backOf_80 : decode cX4_backOf 80 = .ok (.ireturn, 1) := by decide +kernel
theorem dX4_yearBy_0 : decode cX4_yearBy 0 = .ok (.aload_n 1, 1) := by decide +kernel
theorem dX4_yearBy_1 : decode cX4_yearBy 1 = .ok (.iconst 1, 1) := by decide +kernel
theorem dX4_yearBy_2 : decode cX4_yearBy 2 = .ok (.dup2, 1) := by decide +kernel
theorem dX4_yearBy_3 : decode cX4_yearBy 3 = .ok (.iaload, 1) := by decide +kernel
theorem dX4_yearBy_4 : decode cX4_yearBy 4 = .ok (.iconst 1, 1) := by decide +kernel
theorem dX4_yearBy_5 : decode cX4_yearBy 5 = .ok (.iadd, 1) := by decide +kernel
theorem dX4_yearBy_6 : decode cX4_yearBy 6 = .ok (.iastore, 1) := by decide +kernel
theorem dX4_yearBy_7 : decode cX4_yearBy 7 = .ok (.iload_n 2, 1) := by decide +kernel
theorem dX4_yearBy_8 : decode cX4_yearBy 8 = .ok (.ifCond .eq 16, 3) := by decide +kernel
theorem dX4_yearBy_11 : decode cX4_yearBy 11 = .ok (.bipush 80, 2) := by decide +kernel
theorem dX4_yearBy_13 : decode cX4_yearBy 13 = .ok (.iconst 2, 1) := by decide +kernel
theorem dX4_yearBy_14 : decode cX4_yearBy 14 = .ok (.aload_n 1, 1) := by decide +kernel
theorem dX4_yearBy_15 : decode cX4_yearBy 15 = .ok (.iconst 2, 1) := by decide +kernel
theorem dX4_yearBy_16 : decode cX4_yearBy 16 = .ok (.iaload, 1) := by decide +kernel
theorem dX4_yearBy_17 : decode cX4_yearBy 17 = .ok (.imul, 1) := by decide +kernel
theorem dX4_yearBy_18 : decode cX4_yearBy 18 = .ok (.invokestatic 48, 3) := by decide +kernel
theorem dX4_yearBy_21 : decode cX4_yearBy 21 = .ok (.goto 6, 3) := by decide +kernel
theorem dX4_yearBy_24 : decode cX4_yearBy 24 = .ok (.aload_n 1, 1) := by decide +kernel
theorem dX4_yearBy_25 : decode cX4_yearBy 25 = .ok (.iconst 2, 1) := by decide +kernel
theorem dX4_yearBy_26 : decode cX4_yearBy 26 = .ok (.iaload, 1) := by decide +kernel
theorem dX4_yearBy_27 : decode cX4_yearBy 27 = .ok (.istore_n 3, 1) := by decide +kernel
theorem dX4_yearBy_28 : decode cX4_yearBy 28 = .ok (.aload_n 0, 1) := by decide +kernel
theorem dX4_yearBy_29 : decode cX4_yearBy 29 = .ok (.iconst 0, 1) := by decide +kernel
theorem dX4_yearBy_30 : decode cX4_yearBy 30 = .ok (.putfield 51, 3) := by decide +kernel
theorem dX4_yearBy_33 : decode cX4_yearBy 33 = .ok (.aload_n 0, 1) := by decide +kernel
theorem dX4_yearBy_34 : decode cX4_yearBy 34 = .ok (.iconst 0, 1) := by decide +kernel
theorem dX4_yearBy_35 : decode cX4_yearBy 35 = .ok (.putfield 55, 3) := by decide +kernel
theorem dX4_yearBy_38 : decode cX4_yearBy 38 = .ok (.iconst 0, 1) := by decide +kernel
theorem dX4_yearBy_39 : decode cX4_yearBy 39 = .ok (.istore 4, 2) := by decide +kernel
theorem dX4_yearBy_41 : decode cX4_yearBy 41 = .ok (.iload 4, 2) := by decide +kernel
theorem dX4_yearBy_43 : decode cX4_yearBy 43 = .ok (.aload_n 1, 1) := by decide +kernel
theorem dX4_yearBy_44 : decode cX4_yearBy 44 = .ok (.iconst 0, 1) := by decide +kernel
theorem dX4_yearBy_45 : decode cX4_yearBy 45 = .ok (.iaload, 1) := by decide +kernel
theorem dX4_yearBy_46 : decode cX4_yearBy 46 = .ok (.if_icmp .ge 157, 3) := by decide +kernel
theorem dX4_yearBy_49 : decode cX4_yearBy 49 = .ok (.aload_n 1, 1) := by decide +kernel
theorem dX4_yearBy_50 : decode cX4_yearBy 50 = .ok (.iload 4, 2) := by decide +kernel
theorem dX4_yearBy_52 : decode cX4_yearBy 52 = .ok (.aload_n 1, 1) := by decide +kernel
theorem dX4_yearBy_53 : decode cX4_yearBy 53 = .ok (.iload 4, 2) := by decide +kernel
theorem dX4_yearBy_55 : decode cX4_yearBy 55 = .ok (.iconst 2, 1) := by decide +kernel
theorem dX4_yearBy_56 : decode cX4_yearBy 56 = .ok (.invokestatic 44, 3) := by decide +kernel
theorem dX4_yearBy_59 : decode cX4_yearBy 59 = .ok (.iaload, 1) := by decide +kernel
theorem dX4_yearBy_60 : decode cX4_yearBy 60 = .ok (.iload_n 3, 1) := by decide +kernel
theorem dX4_yearBy_61 : decode cX4_yearBy 61 = .ok (.invokestatic 58, 3) := by decide +kernel
theorem dX4_yearBy_64 : decode cX4_yearBy 64 = .ok (.istore 5, 2) := by decide +kernel
theorem dX4_yearBy_66 : decode cX4_yearBy 66 = .ok (.aload_n 1, 1) := by decide +kernel
theorem dX4_yearBy_67 : decode cX4_yearBy 67 = .ok (.iload 4, 2) := by decide +kernel
theorem dX4_yearBy_69 : decode cX4_yearBy 69 = .ok (.iconst 2, 1) := by decide +kernel
theorem dX4_yearBy_70 : decode cX4_yearBy 70 = .ok (.invokestatic 44, 3) := by decide +kernel
theorem dX4_yearBy_73 : decode cX4_yearBy 73 = .ok (.dup2, 1) := by decide +kernel
theorem dX4_yearBy_74 : decode cX4_yearBy 74 = .ok (.iaload, 1) := by decide +kernel
theorem dX4_yearBy_75 : decode cX4_yearBy 75 = .ok (.iload 5, 2) := by decide +kernel
theorem dX4_yearBy_77 : decode cX4_yearBy 77 = .ok (.isub, 1) := by decide +kernel
theorem dX4_yearBy_78 : decode cX4_yearBy 78 = .ok (.iastore, 1) := by decide +kernel
theorem dX4_yearBy_79 : decode cX4_yearBy 79 = .ok (.aload_n 1, 1) := by decide +kernel
theorem dX4_yearBy_80 : decode cX4_yearBy 80 = .ok (.iload 4, 2) := by decide +kernel
theorem dX4_yearBy_82 : decode cX4_yearBy 82 = .ok (.iconst 5, 1) := by decide +kernel
theorem dX4_yearBy_83 : decode cX4_yearBy 83 = .ok (.invokestatic 44, 3) := by decide +kernel
theorem dX4_yearBy_86 : decode cX4_yearBy 86 = .ok (.dup2, 1) := by decide +kernel
theorem dX4_yearBy_87 : decode cX4_yearBy 87 = .ok (.iaload, 1) := by decide +kernel
theorem dX4_yearBy_88 : decode cX4_yearBy 88 = .ok (.iload 5, 2) := by decide +kernel
theorem dX4_yearBy_90 : decode cX4_yearBy 90 = .ok (.iadd, 1) := by decide +kernel
theorem dX4_yearBy_91 : decode cX4_yearBy 91 = .ok (.iastore, 1) := by decide +kernel
theorem dX4_yearBy_92 : decode cX4_yearBy 92 = .ok (.aload_n 0, 1) := by decide +kernel
theorem dX4_yearBy_93 : decode cX4_yearBy 93 = .ok (.dup, 1) := by decide +kernel
theorem dX4_yearBy_94 : decode cX4_yearBy 94 = .ok (.getfield 51, 3) := by decide +kernel
theorem dX4_yearBy_97 : decode cX4_yearBy 97 = .ok (.iload 5, 2) := by decide +kernel
theorem dX4_yearBy_99 : decode cX4_yearBy 99 = .ok (.iadd, 1) := by decide +kernel
theorem dX4_yearBy_100 : decode cX4_yearBy 100 = .ok (.putfield 51, 3) := by decide +kernel
theorem dX4_yearBy_103 : decode cX4_yearBy 103 = .ok (.aload_n 1, 1) := by decide +kernel
theorem dX4_yearBy_104 : decode cX4_yearBy 104 = .ok (.iload 4, 2) := by decide +kernel
theorem dX4_yearBy_106 : decode cX4_yearBy 106 = .ok (.iconst 3, 1) := by decide +kernel
theorem dX4_yearBy_107 : decode cX4_yearBy 107 = .ok (.invokestatic 44, 3) := by decide +kernel
theorem dX4_yearBy_110 : decode cX4_yearBy 110 = .ok (.aload_n 1, 1) := by decide +kernel
theorem dX4_yearBy_111 : decode cX4_yearBy 111 = .ok (.iload 4, 2) := by decide +kernel
theorem dX4_yearBy_113 : decode cX4_yearBy 113 = .ok (.aload_n 1, 1) := by decide +kernel
theorem dX4_yearBy_114 : decode cX4_yearBy 114 = .ok (.iconst 1, 1) := by decide +kernel
theorem dX4_yearBy_115 : decode cX4_yearBy 115 = .ok (.iaload, 1) := by decide +kernel
theorem dX4_yearBy_116 : decode cX4_yearBy 116 = .ok (.invokestatic 62, 3) := by decide +kernel
theorem dX4_yearBy_119 : decode cX4_yearBy 119 = .ok (.iastore, 1) := by decide +kernel
theorem dX4_yearBy_120 : decode cX4_yearBy 120 = .ok (.aload_n 1, 1) := by decide +kernel
theorem dX4_yearBy_121 : decode cX4_yearBy 121 = .ok (.iconst 1, 1) := by decide +kernel
theorem dX4_yearBy_122 : decode cX4_yearBy 122 = .ok (.iaload, 1) := by decide +kernel
theorem dX4_yearBy_123 : decode cX4_yearBy 123 = .ok (.bipush 7, 2) := by decide +kernel
theorem dX4_yearBy_125 : decode cX4_yearBy 125 = .ok (.irem, 1) := by decide +kernel
theorem dX4_yearBy_126 : decode cX4_yearBy 126 = .ok (.ifCond .eq 6, 3) := by decide +kernel
theorem dX4_yearBy_129 : decode cX4_yearBy 129 = .ok (.goto 68, 3) := by decide +kernel
theorem dX4_yearBy_132 : decode cX4_yearBy 132 = .ok (.aload_n 1, 1) := by decide +kernel
theorem dX4_yearBy_133 : decode cX4_yearBy 133 = .ok (.iload 4, 2) := by decide +kernel
theorem dX4_yearBy_135 : decode cX4_yearBy 135 = .ok (.invokestatic 66, 3) := by decide +kernel
theorem dX4_yearBy_138 : decode cX4_yearBy 138 = .ok (.aload_n 1, 1) := by decide +kernel
theorem dX4_yearBy_139 : decode cX4_yearBy 139 = .ok (.iload 4, 2) := by decide +kernel
theorem dX4_yearBy_141 : decode cX4_yearBy 141 = .ok (.iconst 1, 1) := by decide +kernel
theorem dX4_yearBy_142 : decode cX4_yearBy 142 = .ok (.invokestatic 44, 3) := by decide +kernel
theorem dX4_yearBy_145 : decode cX4_yearBy 145 = .ok (.iaload, 1) := by decide +kernel
theorem dX4_yearBy_146 : decode cX4_yearBy 146 = .ok (.aload_n 1, 1) := by decide +kernel
theorem dX4_yearBy_147 : decode cX4_yearBy 147 = .ok (.iload 4, 2) := by decide +kernel
theorem dX4_yearBy_149 : decode cX4_yearBy 149 = .ok (.iconst 2, 1) := by decide +kernel
theorem dX4_yearBy_150 : decode cX4_yearBy 150 = .ok (.invokestatic 44, 3) := by decide +kernel
theorem dX4_yearBy_153 : decode cX4_yearBy 153 = .ok (.iaload, 1) := by decide +kernel
theorem dX4_yearBy_154 : decode cX4_yearBy 154 = .ok (.isub, 1) := by decide +kernel
theorem dX4_yearBy_155 : decode cX4_yearBy 155 = .ok (.invokestatic 48, 3) := by decide +kernel
theorem dX4_yearBy_158 : decode cX4_yearBy 158 = .ok (.istore 6, 2) := by decide +kernel
theorem dX4_yearBy_160 : decode cX4_yearBy 160 = .ok (.aload_n 1, 1) := by decide +kernel
theorem dX4_yearBy_161 : decode cX4_yearBy 161 = .ok (.iload 4, 2) := by decide +kernel
theorem dX4_yearBy_163 : decode cX4_yearBy 163 = .ok (.iconst 2, 1) := by decide +kernel
theorem dX4_yearBy_164 : decode cX4_yearBy 164 = .ok (.invokestatic 44, 3) := by decide +kernel
theorem dX4_yearBy_167 : decode cX4_yearBy 167 = .ok (.dup2, 1) := by decide +kernel
theorem dX4_yearBy_168 : decode cX4_yearBy 168 = .ok (.iaload, 1) := by decide +kernel
theorem dX4_yearBy_169 : decode cX4_yearBy 169 = .ok (.iload 6, 2) := by decide +kernel
theorem dX4_yearBy_171 : decode cX4_yearBy 171 = .ok (.iadd, 1) := by decide +kernel
theorem dX4_yearBy_172 : decode cX4_yearBy 172 = .ok (.iastore, 1) := by decide +kernel
theorem dX4_yearBy_173 : decode cX4_yearBy 173 = .ok (.aload_n 1, 1) := by decide +kernel
theorem dX4_yearBy_174 : decode cX4_yearBy 174 = .ok (.iload 4, 2) := by decide +kernel
theorem dX4_yearBy_176 : decode cX4_yearBy 176 = .ok (.iconst 5, 1) := by decide +kernel
theorem dX4_yearBy_177 : decode cX4_yearBy 177 = .ok (.invokestatic 44, 3) := by decide +kernel
theorem dX4_yearBy_180 : decode cX4_yearBy 180 = .ok (.dup2, 1) := by decide +kernel
theorem dX4_yearBy_181 : decode cX4_yearBy 181 = .ok (.iaload, 1) := by decide +kernel
theorem dX4_yearBy_182 : decode cX4_yearBy 182 = .ok (.iload 6, 2) := by decide +kernel
theorem dX4_yearBy_184 : decode cX4_yearBy 184 = .ok (.isub, 1) := by decide +kernel
theorem dX4_yearBy_185 : decode cX4_yearBy 185 = .ok (.iastore, 1) := by decide +kernel
theorem dX4_yearBy_186 : decode cX4_yearBy 186 = .ok (.aload_n 0, 1) := by decide +kernel
theorem dX4_yearBy_187 : decode cX4_yearBy 187 = .ok (.dup, 1) := by decide +kernel
theorem dX4_yearBy_188 : decode cX4_yearBy 188 = .ok (.getfield 55, 3) := by decide +kernel
theorem dX4_yearBy_191 : decode cX4_yearBy 191 = .ok (.iload 6, 2) := by decide +kernel
theorem dX4_yearBy_193 : decode cX4_yearBy 193 = .ok (.iadd, 1) := by decide +kernel
theorem dX4_yearBy_194 : decode cX4_yearBy 194 = .ok (.putfield 55, 3) := by decide +kernel
theorem dX4_yearBy_197 : decode cX4_yearBy 197 = .ok (.iinc 4 1, 3) := by decide +kernel
theorem dX4_yearBy_200 : decode cX4_yearBy 200 = .ok (.goto (-159), 3) := by decide +kernel
theorem dX4_yearBy_203 : decode cX4_yearBy 203 = .ok (.return_, 1) := by decide +kernel
theorem dX4_year_0 : decode cX4_year 0 = .ok (.aload_n 0, 1) := by decide +kernel
theorem dX4_year_1 : decode cX4_year 1 = .ok (.aload_n 1, 1) := by decide +kernel
theorem dX4_year_2 : decode cX4_year 2 = .ok (.aload_n 1, 1) := by decide +kernel
theorem dX4_year_3 : decode cX4_year 3 = .ok (.iconst 1, 1) := by decide +kernel
theorem dX4_year_4 : decode cX4_year 4 = .ok (.iaload, 1) := by decide +kernel
theorem dX4_year_5 : decode cX4_year 5 = .ok (.iconst 1, 1) := by decide +kernel
theorem dX4_year_6 : decode cX4_year 6 = .ok (.iadd, 1) := by decide +kernel
theorem dX4_year_7 : decode cX4_year 7 = .ok (.aload_n 1, 1) := by decide +kernel
theorem dX4_year_8 : decode cX4_year 8 = .ok (.iconst 3, 1) := by decide +kernel
theorem dX4_year_9 : decode cX4_year 9 = .ok (.iaload, 1) := by decide +kernel
theorem dX4_year_10 : decode cX4_year 10 = .ok (.irem, 1) := by decide +kernel
theorem dX4_year_11 : decode cX4_year 11 = .ok (.ifCond .ne 7, 3) := by decide +kernel
theorem dX4_year_14 : decode cX4_year 14 = .ok (.iconst 1, 1) := by decide +kernel
theorem dX4_year_15 : decode cX4_year 15 = .ok (.goto 4, 3) := by decide +kernel
theorem dX4_year_18 : decode cX4_year 18 = .ok (.iconst 0, 1) := by decide +kernel
theorem dX4_year_19 : decode cX4_year 19 = .ok (.invokevirtual 70, 3) := by decide +kernel
theorem dX4_year_22 : decode cX4_year 22 = .ok (.return_, 1) := by decide +kernel
theorem dX4_yearsOn_0 : decode cX4_yearsOn 0 = .ok (.iconst 0, 1) := by decide +kernel
theorem dX4_yearsOn_1 : decode cX4_yearsOn 1 = .ok (.istore_n 3, 1) := by decide +kernel
theorem dX4_yearsOn_2 : decode cX4_yearsOn 2 = .ok (.iload_n 3, 1) := by decide +kernel
theorem dX4_yearsOn_3 : decode cX4_yearsOn 3 = .ok (.iload_n 2, 1) := by decide +kernel
theorem dX4_yearsOn_4 : decode cX4_yearsOn 4 = .ok (.if_icmp .ge 14, 3) := by decide +kernel
theorem dX4_yearsOn_7 : decode cX4_yearsOn 7 = .ok (.aload_n 0, 1) := by decide +kernel
theorem dX4_yearsOn_8 : decode cX4_yearsOn 8 = .ok (.aload_n 1, 1) := by decide +kernel
theorem dX4_yearsOn_9 : decode cX4_yearsOn 9 = .ok (.invokevirtual 74, 3) := by decide +kernel
theorem dX4_yearsOn_12 : decode cX4_yearsOn 12 = .ok (.iinc 3 1, 3) := by decide +kernel
theorem dX4_yearsOn_15 : decode cX4_yearsOn 15 = .ok (.goto (-13), 3) := by decide +kernel
theorem dX4_yearsOn_18 : decode cX4_yearsOn 18 = .ok (.return_, 1) := by decide +kernel
theorem dX4_inMind_0 : decode cX4_inMind 0 = .ok (.aload_n 0, 1) := by decide +kernel
theorem dX4_inMind_1 : decode cX4_inMind 1 = .ok (.getfield 9, 3) := by decide +kernel
theorem dX4_inMind_4 : decode cX4_inMind 4 = .ok (.aload_n 0, 1) := by decide +kernel
theorem dX4_inMind_5 : decode cX4_inMind 5 = .ok (.getfield 13, 3) := by decide +kernel
theorem dX4_inMind_8 : decode cX4_inMind 8 = .ok (.invokestatic 78, 3) := by decide +kernel
theorem dX4_inMind_11 : decode cX4_inMind 11 = .ok (.aload_n 0, 1) := by decide +kernel
theorem dX4_inMind_12 : decode cX4_inMind 12 = .ok (.aload_n 0, 1) := by decide +kernel
theorem dX4_inMind_13 : decode cX4_inMind 13 = .ok (.getfield 13, 3) := by decide +kernel
theorem dX4_inMind_16 : decode cX4_inMind 16 = .ok (.iload_n 1, 1) := by decide +kernel
theorem dX4_inMind_17 : decode cX4_inMind 17 = .ok (.invokevirtual 82, 3) := by decide +kernel
theorem dX4_inMind_20 : decode cX4_inMind 20 = .ok (.return_, 1) := by decide +kernel
theorem dX4_sumOf_0 : decode cX4_sumOf 0 = .ok (.iconst 0, 1) := by decide +kernel
theorem dX4_sumOf_1 : decode cX4_sumOf 1 = .ok (.istore_n 2, 1) := by decide +kernel
theorem dX4_sumOf_2 : decode cX4_sumOf 2 = .ok (.iconst 0, 1) := by decide +kernel
theorem dX4_sumOf_3 : decode cX4_sumOf 3 = .ok (.istore_n 3, 1) := by decide +kernel
theorem dX4_sumOf_4 : decode cX4_sumOf 4 = .ok (.iload_n 3, 1) := by decide +kernel
theorem dX4_sumOf_5 : decode cX4_sumOf 5 = .ok (.aload_n 0, 1) := by decide +kernel
theorem dX4_sumOf_6 : decode cX4_sumOf 6 = .ok (.iconst 0, 1) := by decide +kernel
theorem dX4_sumOf_7 : decode cX4_sumOf 7 = .ok (.iaload, 1) := by decide +kernel
theorem dX4_sumOf_8 : decode cX4_sumOf 8 = .ok (.if_icmp .ge 19, 3) := by decide +kernel
theorem dX4_sumOf_11 : decode cX4_sumOf 11 = .ok (.iload_n 2, 1) := by decide +kernel
theorem dX4_sumOf_12 : decode cX4_sumOf 12 = .ok (.aload_n 0, 1) := by decide +kernel
theorem dX4_sumOf_13 : decode cX4_sumOf 13 = .ok (.iload_n 3, 1) := by decide +kernel
theorem dX4_sumOf_14 : decode cX4_sumOf 14 = .ok (.iload_n 1, 1) := by decide +kernel
theorem dX4_sumOf_15 : decode cX4_sumOf 15 = .ok (.invokestatic 44, 3) := by decide +kernel
theorem dX4_sumOf_18 : decode cX4_sumOf 18 = .ok (.iaload, 1) := by decide +kernel
theorem dX4_sumOf_19 : decode cX4_sumOf 19 = .ok (.iadd, 1) := by decide +kernel
theorem dX4_sumOf_20 : decode cX4_sumOf 20 = .ok (.istore_n 2, 1) := by decide +kernel
theorem dX4_sumOf_21 : decode cX4_sumOf 21 = .ok (.iinc 3 1, 3) := by decide +kernel
theorem dX4_sumOf_24 : decode cX4_sumOf 24 = .ok (.goto (-20), 3) := by decide +kernel
theorem dX4_sumOf_27 : decode cX4_sumOf 27 = .ok (.iload_n 2, 1) := by decide +kernel
theorem dX4_sumOf_28 : decode cX4_sumOf 28 = .ok (.ireturn, 1) := by decide +kernel
theorem dX4_letter_0 : decode cX4_letter 0 = .ok (.iload_n 1, 1) := by decide +kernel
theorem dX4_letter_1 : decode cX4_letter 1 = .ok (.ifCond .ge 10, 3) := by decide +kernel
theorem dX4_letter_4 : decode cX4_letter 4 = .ok (.aload_n 0, 1) := by decide +kernel
theorem dX4_letter_5 : decode cX4_letter 5 = .ok (.bipush (-4), 2) := by decide +kernel
theorem dX4_letter_7 : decode cX4_letter 7 = .ok (.invokevirtual 36, 3) := by decide +kernel
theorem dX4_letter_10 : decode cX4_letter 10 = .ok (.ireturn, 1) := by decide +kernel
theorem dX4_letter_11 : decode cX4_letter 11 = .ok (.iload_n 1, 1) := by decide +kernel
theorem dX4_letter_12 : decode cX4_letter 12 = .ok (.sipush 255, 3) := by decide +kernel
theorem dX4_letter_15 : decode cX4_letter 15 = .ok (.if_icmp .gt 12, 3) := by decide +kernel
theorem dX4_letter_18 : decode cX4_letter 18 = .ok (.aload_n 0, 1) := by decide +kernel
theorem dX4_letter_19 : decode cX4_letter 19 = .ok (.getfield 86, 3) := by decide +kernel
theorem dX4_letter_22 : decode cX4_letter 22 = .ok (.bipush 96, 2) := by decide +kernel
theorem dX4_letter_24 : decode cX4_letter 24 = .ok (.if_icmp .ne 10, 3) := by decide +kernel
theorem dX4_letter_27 : decode cX4_letter 27 = .ok (.aload_n 0, 1) := by decide +kernel
theorem dX4_letter_28 : decode cX4_letter 28 = .ok (.bipush (-6), 2) := by decide +kernel
theorem dX4_letter_30 : decode cX4_letter 30 = .ok (.invokevirtual 36, 3) := by decide +kernel
theorem dX4_letter_33 : decode cX4_letter 33 = .ok (.ireturn, 1) := by decide +kernel
theorem dX4_letter_34 : decode cX4_letter 34 = .ok (.aload_n 0, 1) := by decide +kernel
theorem dX4_letter_35 : decode cX4_letter 35 = .ok (.getfield 22, 3) := by decide +kernel
theorem dX4_letter_38 : decode cX4_letter 38 = .ok (.aload_n 0, 1) := by decide +kernel
theorem dX4_letter_39 : decode cX4_letter 39 = .ok (.getfield 86, 3) := by decide +kernel
theorem dX4_letter_42 : decode cX4_letter 42 = .ok (.iload_n 1, 1) := by decide +kernel
theorem dX4_letter_43 : decode cX4_letter 43 = .ok (.iastore, 1) := by decide +kernel
theorem dX4_letter_44 : decode cX4_letter 44 = .ok (.aload_n 0, 1) := by decide +kernel
theorem dX4_letter_45 : decode cX4_letter 45 = .ok (.dup, 1) := by decide +kernel
theorem dX4_letter_46 : decode cX4_letter 46 = .ok (.getfield 86, 3) := by decide +kernel
theorem dX4_letter_49 : decode cX4_letter 49 = .ok (.iconst 1, 1) := by decide +kernel
theorem dX4_letter_50 : decode cX4_letter 50 = .ok (.iadd, 1) := by decide +kernel
theorem dX4_letter_51 : decode cX4_letter 51 = .ok (.putfield 86, 3) := by decide +kernel
theorem dX4_letter_54 : decode cX4_letter 54 = .ok (.aload_n 0, 1) := by decide +kernel
theorem dX4_letter_55 : decode cX4_letter 55 = .ok (.getfield 86, 3) := by decide +kernel
theorem dX4_letter_58 : decode cX4_letter 58 = .ok (.ireturn, 1) := by decide +kernel
theorem dX4_here_0 : decode cX4_here 0 = .ok (.aload_n 0, 1) := by decide +kernel
theorem dX4_here_1 : decode cX4_here 1 = .ok (.getfield 89, 3) := by decide +kernel
theorem dX4_here_4 : decode cX4_here 4 = .ok (.aload_n 0, 1) := by decide +kernel
theorem dX4_here_5 : decode cX4_here 5 = .ok (.getfield 86, 3) := by decide +kernel
theorem dX4_here_8 : decode cX4_here 8 = .ok (.if_icmp .ge 15, 3) := by decide +kernel
theorem dX4_here_11 : decode cX4_here 11 = .ok (.aload_n 0, 1) := by decide +kernel
theorem dX4_here_12 : decode cX4_here 12 = .ok (.getfield 22, 3) := by decide +kernel
theorem dX4_here_15 : decode cX4_here 15 = .ok (.aload_n 0, 1) := by decide +kernel
theorem dX4_here_16 : decode cX4_here 16 = .ok (.getfield 89, 3) := by decide +kernel
theorem dX4_here_19 : decode cX4_here 19 = .ok (.iaload, 1) := by decide +kernel
theorem dX4_here_20 : decode cX4_here 20 = .ok (.goto 4, 3) := by decide +kernel
theorem dX4_here_23 : decode cX4_here 23 = .ok (.iconst (-1), 1) := by decide +kernel
theorem dX4_here_24 : decode cX4_here 24 = .ok (.ireturn, 1) := by decide +kernel
theorem dX4_readsNumber_0 : decode cX4_readsNumber 0 = .ok (.aload_n 0, 1) := by decide +kernel
theorem dX4_readsNumber_1 : decode cX4_readsNumber 1 = .ok (.getfield 31, 3) := by decide +kernel
theorem dX4_readsNumber_4 : decode cX4_readsNumber 4 = .ok (.iload_n 1, 1) := by decide +kernel
theorem dX4_readsNumber_5 : decode cX4_readsNumber 5 = .ok (.iconst 0, 1) := by decide +kernel
theorem dX4_readsNumber_6 : decode cX4_readsNumber 6 = .ok (.iastore, 1) := by decide +kernel
theorem dX4_readsNumber_7 : decode cX4_readsNumber 7 = .ok (.iconst 0, 1) := by decide +kernel
theorem dX4_readsNumber_8 : decode cX4_readsNumber 8 = .ok (.istore_n 3, 1) := by decide +kernel
theorem dX4_readsNumber_9 : decode cX4_readsNumber 9 = .ok (.iload_n 3, 1) := by decide +kernel
theorem dX4_readsNumber_10 : decode cX4_readsNumber 10 = .ok (.iload_n 2, 1) := by decide +kernel
theorem dX4_readsNumber_11 : decode cX4_readsNumber 11 = .ok (.if_icmp .ge 58, 3) := by decide +kernel
theorem dX4_readsNumber_14 : decode cX4_readsNumber 14 = .ok (.aload_n 0, 1) := by decide +kernel
theorem dX4_readsNumber_15 : decode cX4_readsNumber 15 = .ok (.invokevirtual 92, 3) := by decide +kernel
theorem dX4_readsNumber_18 : decode cX4_readsNumber 18 = .ok (.bipush 48, 2) := by decide +kernel
theorem dX4_readsNumber_20 : decode cX4_readsNumber 20 = .ok (.bipush 57, 2) := by decide +kernel
theorem dX4_readsNumber_22 : decode cX4_readsNumber 22 = .ok (.invokestatic 40, 3) := by decide +kernel
theorem dX4_readsNumber_25 : decode cX4_readsNumber 25 = .ok (.ifCond .ne 5, 3) := by decide +kernel
theorem dX4_readsNumber_28 : decode cX4_readsNumber 28 = .ok (.iconst 0, 1) := by decide +kernel
theorem dX4_readsNumber_29 : decode cX4_readsNumber 29 = .ok (.ireturn, 1) := by decide +kernel
theorem dX4_readsNumber_30 : decode cX4_readsNumber 30 = .ok (.aload_n 0, 1) := by decide +kernel
theorem dX4_readsNumber_31 : decode cX4_readsNumber 31 = .ok (.getfield 31, 3) := by decide +kernel
theorem dX4_readsNumber_34 : decode cX4_readsNumber 34 = .ok (.iload_n 1, 1) := by decide +kernel
theorem dX4_readsNumber_35 : decode cX4_readsNumber 35 = .ok (.bipush 10, 2) := by decide +kernel
theorem dX4_readsNumber_37 : decode cX4_readsNumber 37 = .ok (.aload_n 0, 1) := by decide +kernel
theorem dX4_readsNumber_38 : decode cX4_readsNumber 38 = .ok (.getfield 31, 3) := by decide +kernel
theorem dX4_readsNumber_41 : decode cX4_readsNumber 41 = .ok (.iload_n 1, 1) := by decide +kernel
theorem dX4_readsNumber_42 : decode cX4_readsNumber 42 = .ok (.iaload, 1) := by decide +kernel
theorem dX4_readsNumber_43 : decode cX4_readsNumber 43 = .ok (.imul, 1) := by decide +kernel
theorem dX4_readsNumber_44 : decode cX4_readsNumber 44 = .ok (.aload_n 0, 1) := by decide +kernel
theorem dX4_readsNumber_45 : decode cX4_readsNumber 45 = .ok (.invokevirtual 92, 3) := by decide +kernel
theorem dX4_readsNumber_48 : decode cX4_readsNumber 48 = .ok (.iadd, 1) := by decide +kernel
theorem dX4_readsNumber_49 : decode cX4_readsNumber 49 = .ok (.bipush 48, 2) := by decide +kernel
theorem dX4_readsNumber_51 : decode cX4_readsNumber 51 = .ok (.isub, 1) := by decide +kernel
theorem dX4_readsNumber_52 : decode cX4_readsNumber 52 = .ok (.iastore, 1) := by decide +kernel
theorem dX4_readsNumber_53 : decode cX4_readsNumber 53 = .ok (.aload_n 0, 1) := by decide +kernel
theorem dX4_readsNumber_54 : decode cX4_readsNumber 54 = .ok (.dup, 1) := by decide +kernel
theorem dX4_readsNumber_55 : decode cX4_readsNumber 55 = .ok (.getfield 89, 3) := by decide +kernel
theorem dX4_readsNumber_58 : decode cX4_readsNumber 58 = .ok (.iconst 1, 1) := by decide +kernel
theorem dX4_readsNumber_59 : decode cX4_readsNumber 59 = .ok (.iadd, 1) := by decide +kernel
theorem dX4_readsNumber_60 : decode cX4_readsNumber 60 = .ok (.putfield 89, 3) := by decide +kernel
theorem dX4_readsNumber_63 : decode cX4_readsNumber 63 = .ok (.iinc 3 1, 3) := by decide +kernel
theorem dX4_readsNumber_66 : decode cX4_readsNumber 66 = .ok (.goto (-57), 3) := by decide +kernel
theorem dX4_readsNumber_69 : decode cX4_readsNumber 69 = .ok (.iconst 1, 1) := by decide +kernel
theorem dX4_readsNumber_70 : decode cX4_readsNumber 70 = .ok (.ireturn, 1) := by decide +kernel
theorem dX4_kindOf_0 : decode cX4_kindOf 0 = .ok (.iload_n 0, 1) := by decide +kernel
theorem dX4_kindOf_1 : decode cX4_kindOf 1 = .ok (.tableswitch 99 98 115 #[91, 99, 99, 99, 99, 99, 97, 93, 99, 99, 99, 89, 99, 87, 99, 99, 99, 95], 87) := by decide +kernel
theorem dX4_kindOf_88 : decode cX4_kindOf 88 = .ok (.iconst 0, 1) := by decide +kernel
theorem dX4_kindOf_89 : decode cX4_kindOf 89 = .ok (.ireturn, 1) := by decide +kernel
theorem dX4_kindOf_90 : decode cX4_kindOf 90 = .ok (.iconst 1, 1) := by decide +kernel
theorem dX4_kindOf_91 : decode cX4_kindOf 91 = .ok (.ireturn, 1) := by decide +kernel
theorem dX4_kindOf_92 : decode cX4_kindOf 92 = .ok (.iconst 2, 1) := by decide +kernel
theorem dX4_kindOf_93 : decode cX4_kindOf 93 = .ok (.ireturn, 1) := by decide +kernel
theorem dX4_kindOf_94 : decode cX4_kindOf 94 = .ok (.iconst 3, 1) := by decide +kernel
theorem dX4_kindOf_95 : decode cX4_kindOf 95 = .ok (.ireturn, 1) := by decide +kernel
theorem dX4_kindOf_96 : decode cX4_kindOf 96 = .ok (.iconst 4, 1) := by decide +kernel
theorem dX4_kindOf_97 : decode cX4_kindOf 97 = .ok (.ireturn, 1) := by decide +kernel
theorem dX4_kindOf_98 : decode cX4_kindOf 98 = .ok (.iconst 5, 1) := by decide +kernel
theorem dX4_kindOf_99 : decode cX4_kindOf 99 = .ok (.ireturn, 1) := by decide +kernel
theorem dX4_kindOf_100 : decode cX4_kindOf 100 = .ok (.bipush (-9), 2) := by decide +kernel
theorem dX4_kindOf_102 : decode cX4_kindOf 102 = .ok (.ireturn, 1) := by decide +kernel
theorem dX4_readsKind_0 : decode cX4_readsKind 0 = .ok (.aload_n 0, 1) := by decide +kernel
theorem dX4_readsKind_1 : decode cX4_readsKind 1 = .ok (.getfield 31, 3) := by decide +kernel
theorem dX4_readsKind_4 : decode cX4_readsKind 4 = .ok (.iconst 0, 1) := by decide +kernel
theorem dX4_readsKind_5 : decode cX4_readsKind 5 = .ok (.aload_n 0, 1) := by decide +kernel
theorem dX4_readsKind_6 : decode cX4_readsKind 6 = .ok (.invokevirtual 92, 3) := by decide +kernel
theorem dX4_readsKind_9 : decode cX4_readsKind 9 = .ok (.invokestatic 96, 3) := by decide +kernel
theorem dX4_readsKind_12 : decode cX4_readsKind 12 = .ok (.iastore, 1) := by decide +kernel
theorem dX4_readsKind_13 : decode cX4_readsKind 13 = .ok (.aload_n 0, 1) := by decide +kernel
theorem dX4_readsKind_14 : decode cX4_readsKind 14 = .ok (.dup, 1) := by decide +kernel
theorem dX4_readsKind_15 : decode cX4_readsKind 15 = .ok (.getfield 89, 3) := by decide +kernel
theorem dX4_readsKind_18 : decode cX4_readsKind 18 = .ok (.aload_n 0, 1) := by decide +kernel
theorem dX4_readsKind_19 : decode cX4_readsKind 19 = .ok (.getfield 31, 3) := by decide +kernel
theorem dX4_readsKind_22 : decode cX4_readsKind 22 = .ok (.iconst 0, 1) := by decide +kernel
theorem dX4_readsKind_23 : decode cX4_readsKind 23 = .ok (.iaload, 1) := by decide +kernel
theorem dX4_readsKind_24 : decode cX4_readsKind 24 = .ok (.ifCond .ge 7, 3) := by decide +kernel
theorem dX4_readsKind_27 : decode cX4_readsKind 27 = .ok (.iconst 0, 1) := by decide +kernel
theorem dX4_readsKind_28 : decode cX4_readsKind 28 = .ok (.goto 4, 3) := by decide +kernel
theorem dX4_readsKind_31 : decode cX4_readsKind 31 = .ok (.iconst 1, 1) := by decide +kernel
theorem dX4_readsKind_32 : decode cX4_readsKind 32 = .ok (.iadd, 1) := by decide +kernel
theorem dX4_readsKind_33 : decode cX4_readsKind 33 = .ok (.putfield 89, 3) := by decide +kernel
theorem dX4_readsKind_36 : decode cX4_readsKind 36 = .ok (.aload_n 0, 1) := by decide +kernel
theorem dX4_readsKind_37 : decode cX4_readsKind 37 = .ok (.getfield 31, 3) := by decide +kernel
theorem dX4_readsKind_40 : decode cX4_readsKind 40 = .ok (.iconst 0, 1) := by decide +kernel
theorem dX4_readsKind_41 : decode cX4_readsKind 41 = .ok (.iaload, 1) := by decide +kernel
theorem dX4_readsKind_42 : decode cX4_readsKind 42 = .ok (.ifCond .lt 7, 3) := by decide +kernel
theorem dX4_readsKind_45 : decode cX4_readsKind 45 = .ok (.iconst 1, 1) := by decide +kernel
theorem dX4_readsKind_46 : decode cX4_readsKind 46 = .ok (.goto 4, 3) := by decide +kernel
theorem dX4_readsKind_49 : decode cX4_readsKind 49 = .ok (.iconst 0, 1) := by decide +kernel
theorem dX4_readsKind_50 : decode cX4_readsKind 50 = .ok (.ireturn, 1) := by decide +kernel
theorem dX4_readsStatement_0 : decode cX4_readsStatement 0 = .ok (.aload_n 0, 1) := by decide +kernel
theorem dX4_readsStatement_1 : decode cX4_readsStatement 1 = .ok (.invokevirtual 92, 3) := by decide +kernel
theorem dX4_readsStatement_4 : decode cX4_readsStatement 4 = .ok (.istore_n 1, 1) := by decide +kernel
theorem dX4_readsStatement_5 : decode cX4_readsStatement 5 = .ok (.aload_n 0, 1) := by decide +kernel
theorem dX4_readsStatement_6 : decode cX4_readsStatement 6 = .ok (.dup, 1) := by decide +kernel
theorem dX4_readsStatement_7 : decode cX4_readsStatement 7 = .ok (.getfield 89, 3) := by decide +kernel
theorem dX4_readsStatement_10 : decode cX4_readsStatement 10 = .ok (.iconst 1, 1) := by decide +kernel
theorem dX4_readsStatement_11 : decode cX4_readsStatement 11 = .ok (.iadd, 1) := by decide +kernel
theorem dX4_readsStatement_12 : decode cX4_readsStatement 12 = .ok (.putfield 89, 3) := by decide +kernel
theorem dX4_readsStatement_15 : decode cX4_readsStatement 15 = .ok (.iload_n 1, 1) := by decide +kernel
theorem dX4_readsStatement_16 : decode cX4_readsStatement 16 = .ok (.lookupswitch 168 #[(99, 60), (101, 122), (108, 122), (112, 132), (114, 112), (121, 112)], 60) := by decide +kernel
theorem dX4_readsStatement_76 : decode cX4_readsStatement 76 = .ok (.aload_n 0, 1) := by decide +kernel
theorem dX4_readsStatement_77 : decode cX4_readsStatement 77 = .ok (.invokevirtual 99, 3) := by decide +kernel
theorem dX4_readsStatement_80 : decode cX4_readsStatement 80 = .ok (.ifCond .eq 43, 3) := by decide +kernel
theorem dX4_readsStatement_83 : decode cX4_readsStatement 83 = .ok (.aload_n 0, 1) := by decide +kernel
theorem dX4_readsStatement_84 : decode cX4_readsStatement 84 = .ok (.iconst 1, 1) := by decide +kernel
theorem dX4_readsStatement_85 : decode cX4_readsStatement 85 = .ok (.iconst 3, 1) := by decide +kernel
theorem dX4_readsStatement_86 : decode cX4_readsStatement 86 = .ok (.invokevirtual 103, 3) := by decide +kernel
theorem dX4_readsStatement_89 : decode cX4_readsStatement 89 = .ok (.ifCond .eq 34, 3) := by decide +kernel
theorem dX4_readsStatement_92 : decode cX4_readsStatement 92 = .ok (.aload_n 0, 1) := by decide +kernel
theorem dX4_readsStatement_93 : decode cX4_readsStatement 93 = .ok (.iconst 2, 1) := by decide +kernel
theorem dX4_readsStatement_94 : decode cX4_readsStatement 94 = .ok (.iconst 3, 1) := by decide +kernel
theorem dX4_readsStatement_95 : decode cX4_readsStatement 95 = .ok (.invokevirtual 103, 3) := by decide +kernel
theorem dX4_readsStatement_98 : decode cX4_readsStatement 98 = .ok (.ifCond .eq 25, 3) := by decide +kernel
theorem dX4_readsStatement_101 : decode cX4_readsStatement 101 = .ok (.aload_n 0, 1) := by decide +kernel
theorem dX4_readsStatement_102 : decode cX4_readsStatement 102 = .ok (.iconst 3, 1) := by decide +kernel
theorem dX4_readsStatement_103 : decode cX4_readsStatement 103 = .ok (.iconst 2, 1) := by decide +kernel
theorem dX4_readsStatement_104 : decode cX4_readsStatement 104 = .ok (.invokevirtual 103, 3) := by decide +kernel
theorem dX4_readsStatement_107 : decode cX4_readsStatement 107 = .ok (.ifCond .eq 16, 3) := by decide +kernel
theorem dX4_readsStatement_110 : decode cX4_readsStatement 110 = .ok (.aload_n 0, 1) := by decide +kernel
theorem dX4_readsStatement_111 : decode cX4_readsStatement 111 = .ok (.iconst 4, 1) := by decide +kernel
theorem dX4_readsStatement_112 : decode cX4_readsStatement 112 = .ok (.iconst 1, 1) := by decide +kernel
theorem dX4_readsStatement_113 : decode cX4_readsStatement 113 = .ok (.invokevirtual 103, 3) := by decide +kernel
theorem dX4_readsStatement_116 : decode cX4_readsStatement 116 = .ok (.ifCond .eq 7, 3) := by decide +kernel
theorem dX4_readsStatement_119 : decode cX4_readsStatement 119 = .ok (.iconst 1, 1) := by decide +kernel
theorem dX4_readsStatement_120 : decode cX4_readsStatement 120 = .ok (.goto 4, 3) := by decide +kernel
theorem dX4_readsStatement_123 : decode cX4_readsStatement 123 = .ok (.iconst 0, 1) := by decide +kernel
theorem dX4_readsStatement_124 : decode cX4_readsStatement 124 = .ok (.istore_n 2, 1) := by decide +kernel
theorem dX4_readsStatement_125 : decode cX4_readsStatement 125 = .ok (.goto 71, 3) := by decide +kernel
theorem dX4_readsStatement_128 : decode cX4_readsStatement 128 = .ok (.aload_n 0, 1) := by decide +kernel
theorem dX4_readsStatement_129 : decode cX4_readsStatement 129 = .ok (.iconst 0, 1) := by decide +kernel
theorem dX4_readsStatement_130 : decode cX4_readsStatement 130 = .ok (.iconst 2, 1) := by decide +kernel
theorem dX4_readsStatement_131 : decode cX4_readsStatement 131 = .ok (.invokevirtual 103, 3) := by decide +kernel
theorem dX4_readsStatement_134 : decode cX4_readsStatement 134 = .ok (.istore_n 2, 1) := by decide +kernel
theorem dX4_readsStatement_135 : decode cX4_readsStatement 135 = .ok (.goto 61, 3) := by decide +kernel
theorem dX4_readsStatement_138 : decode cX4_readsStatement 138 = .ok (.aload_n 0, 1) := by decide +kernel
theorem dX4_readsStatement_139 : decode cX4_readsStatement 139 = .ok (.iconst 0, 1) := by decide +kernel
theorem dX4_readsStatement_140 : decode cX4_readsStatement 140 = .ok (.iconst 1, 1) := by decide +kernel
theorem dX4_readsStatement_141 : decode cX4_readsStatement 141 = .ok (.invokevirtual 103, 3) := by decide +kernel
theorem dX4_readsStatement_144 : decode cX4_readsStatement 144 = .ok (.istore_n 2, 1) := by decide +kernel
theorem dX4_readsStatement_145 : decode cX4_readsStatement 145 = .ok (.goto 51, 3) := by decide +kernel
theorem dX4_readsStatement_148 : decode cX4_readsStatement 148 = .ok (.aload_n 0, 1) := by decide +kernel
theorem dX4_readsStatement_149 : decode cX4_readsStatement 149 = .ok (.iconst 0, 1) := by decide +kernel
theorem dX4_readsStatement_150 : decode cX4_readsStatement 150 = .ok (.iconst 1, 1) := by decide +kernel
theorem dX4_readsStatement_151 : decode cX4_readsStatement 151 = .ok (.invokevirtual 103, 3) := by decide +kernel
theorem dX4_readsStatement_154 : decode cX4_readsStatement 154 = .ok (.ifCond .eq 25, 3) := by decide +kernel
theorem dX4_readsStatement_157 : decode cX4_readsStatement 157 = .ok (.aload_n 0, 1) := by decide +kernel
theorem dX4_readsStatement_158 : decode cX4_readsStatement 158 = .ok (.iconst 1, 1) := by decide +kernel
theorem dX4_readsStatement_159 : decode cX4_readsStatement 159 = .ok (.iconst 1, 1) := by decide +kernel
theorem dX4_readsStatement_160 : decode cX4_readsStatement 160 = .ok (.invokevirtual 103, 3) := by decide +kernel
theorem dX4_readsStatement_163 : decode cX4_readsStatement 163 = .ok (.ifCond .eq 16, 3) := by decide +kernel
theorem dX4_readsStatement_166 : decode cX4_readsStatement 166 = .ok (.aload_n 0, 1) := by decide +kernel
theorem dX4_readsStatement_167 : decode cX4_readsStatement 167 = .ok (.iconst 2, 1) := by decide +kernel
theorem dX4_readsStatement_168 : decode cX4_readsStatement 168 = .ok (.iconst 3, 1) := by decide +kernel
theorem dX4_readsStatement_169 : decode cX4_readsStatement 169 = .ok (.invokevirtual 103, 3) := by decide +kernel
theorem dX4_readsStatement_172 : decode cX4_readsStatement 172 = .ok (.ifCond .eq 7, 3) := by decide +kernel
theorem dX4_readsStatement_175 : decode cX4_readsStatement 175 = .ok (.iconst 1, 1) := by decide +kernel
theorem dX4_readsStatement_176 : decode cX4_readsStatement 176 = .ok (.goto 4, 3) := by decide +kernel
theorem dX4_readsStatement_179 : decode cX4_readsStatement 179 = .ok (.iconst 0, 1) := by decide +kernel
theorem dX4_readsStatement_180 : decode cX4_readsStatement 180 = .ok (.istore_n 2, 1) := by decide +kernel
theorem dX4_readsStatement_181 : decode cX4_readsStatement 181 = .ok (.goto 15, 3) := by decide +kernel
theorem dX4_readsStatement_184 : decode cX4_readsStatement 184 = .ok (.aload_n 0, 1) := by decide +kernel
theorem dX4_readsStatement_185 : decode cX4_readsStatement 185 = .ok (.dup, 1) := by decide +kernel
theorem dX4_readsStatement_186 : decode cX4_readsStatement 186 = .ok (.getfield 89, 3) := by decide +kernel
theorem dX4_readsStatement_189 : decode cX4_readsStatement 189 = .ok (.iconst 1, 1) := by decide +kernel
theorem dX4_readsStatement_190 : decode cX4_readsStatement 190 = .ok (.isub, 1) := by decide +kernel
theorem dX4_readsStatement_191 : decode cX4_readsStatement 191 = .ok (.putfield 89, 3) := by decide +kernel
theorem dX4_readsStatement_194 : decode cX4_readsStatement 194 = .ok (.iconst 0, 1) := by decide +kernel
theorem dX4_readsStatement_195 : decode cX4_readsStatement 195 = .ok (.ireturn, 1) := by decide +kernel
theorem dX4_readsStatement_196 : decode cX4_readsStatement 196 = .ok (.iload_n 2, 1) := by decide +kernel
theorem dX4_readsStatement_197 : decode cX4_readsStatement 197 = .ok (.ifCond .eq 12, 3) := by decide +kernel
theorem dX4_readsStatement_200 : decode cX4_readsStatement 200 = .ok (.aload_n 0, 1) := by decide +kernel
theorem dX4_readsStatement_201 : decode cX4_readsStatement 201 = .ok (.invokevirtual 92, 3) := by decide +kernel
theorem dX4_readsStatement_204 : decode cX4_readsStatement 204 = .ok (.bipush 59, 2) := by decide +kernel
theorem dX4_readsStatement_206 : decode cX4_readsStatement 206 = .ok (.if_icmp .eq 5, 3) := by decide +kernel
theorem dX4_readsStatement_209 : decode cX4_readsStatement 209 = .ok (.iconst 0, 1) := by decide +kernel
theorem dX4_readsStatement_210 : decode cX4_readsStatement 210 = .ok (.ireturn, 1) := by decide +kernel
theorem dX4_readsStatement_211 : decode cX4_readsStatement 211 = .ok (.aload_n 0, 1) := by decide +kernel
theorem dX4_readsStatement_212 : decode cX4_readsStatement 212 = .ok (.dup, 1) := by decide +kernel
theorem dX4_readsStatement_213 : decode cX4_readsStatement 213 = .ok (.getfield 89, 3) := by decide +kernel
theorem dX4_readsStatement_216 : decode cX4_readsStatement 216 = .ok (.iconst 1, 1) := by decide +kernel
theorem dX4_readsStatement_217 : decode cX4_readsStatement 217 = .ok (.iadd, 1) := by decide +kernel
theorem dX4_readsStatement_218 : decode cX4_readsStatement 218 = .ok (.putfield 89, 3) := by decide +kernel
theorem dX4_readsStatement_221 : decode cX4_readsStatement 221 = .ok (.iconst 1, 1) := by decide +kernel
theorem dX4_readsStatement_222 : decode cX4_readsStatement 222 = .ok (.ireturn, 1) := by decide +kernel
theorem dX4_canPour_0 : decode cX4_canPour 0 = .ok (.iload_n 3, 1) := by decide +kernel
theorem dX4_canPour_1 : decode cX4_canPour 1 = .ok (.aload_n 0, 1) := by decide +kernel
theorem dX4_canPour_2 : decode cX4_canPour 2 = .ok (.getfield 9, 3) := by decide +kernel
theorem dX4_canPour_5 : decode cX4_canPour 5 = .ok (.iload_n 1, 1) := by decide +kernel
theorem dX4_canPour_6 : decode cX4_canPour 6 = .ok (.iconst 2, 1) := by decide +kernel
theorem dX4_canPour_7 : decode cX4_canPour 7 = .ok (.invokestatic 44, 3) := by decide +kernel
theorem dX4_canPour_10 : decode cX4_canPour 10 = .ok (.iaload, 1) := by decide +kernel
theorem dX4_canPour_11 : decode cX4_canPour 11 = .ok (.if_icmp .gt 32, 3) := by decide +kernel
theorem dX4_canPour_14 : decode cX4_canPour 14 = .ok (.aload_n 0, 1) := by decide +kernel
theorem dX4_canPour_15 : decode cX4_canPour 15 = .ok (.getfield 9, 3) := by decide +kernel
theorem dX4_canPour_18 : decode cX4_canPour 18 = .ok (.iload_n 2, 1) := by decide +kernel
theorem dX4_canPour_19 : decode cX4_canPour 19 = .ok (.iconst 2, 1) := by decide +kernel
theorem dX4_canPour_20 : decode cX4_canPour 20 = .ok (.invokestatic 44, 3) := by decide +kernel
theorem dX4_canPour_23 : decode cX4_canPour 23 = .ok (.iaload, 1) := by decide +kernel
theorem dX4_canPour_24 : decode cX4_canPour 24 = .ok (.iload_n 3, 1) := by decide +kernel
theorem dX4_canPour_25 : decode cX4_canPour 25 = .ok (.iadd, 1) := by decide +kernel
theorem dX4_canPour_26 : decode cX4_canPour 26 = .ok (.aload_n 0, 1) := by decide +kernel
theorem dX4_canPour_27 : decode cX4_canPour 27 = .ok (.getfield 9, 3) := by decide +kernel
theorem dX4_canPour_30 : decode cX4_canPour 30 = .ok (.iload_n 2, 1) := by decide +kernel
theorem dX4_canPour_31 : decode cX4_canPour 31 = .ok (.iconst 1, 1) := by decide +kernel
theorem dX4_canPour_32 : decode cX4_canPour 32 = .ok (.invokestatic 44, 3) := by decide +kernel
theorem dX4_canPour_35 : decode cX4_canPour 35 = .ok (.iaload, 1) := by decide +kernel
theorem dX4_canPour_36 : decode cX4_canPour 36 = .ok (.if_icmp .gt 7, 3) := by decide +kernel
theorem dX4_canPour_39 : decode cX4_canPour 39 = .ok (.iconst 1, 1) := by decide +kernel
theorem dX4_canPour_40 : decode cX4_canPour 40 = .ok (.goto 4, 3) := by decide +kernel
theorem dX4_canPour_43 : decode cX4_canPour 43 = .ok (.iconst 0, 1) := by decide +kernel
theorem dX4_canPour_44 : decode cX4_canPour 44 = .ok (.ireturn, 1) := by decide +kernel
theorem dX4_mixed_0 : decode cX4_mixed 0 = .ok (.iload_n 3, 1) := by decide +kernel
theorem dX4_mixed_1 : decode cX4_mixed 1 = .ok (.aload_n 0, 1) := by decide +kernel
theorem dX4_mixed_2 : decode cX4_mixed 2 = .ok (.getfield 9, 3) := by decide +kernel
theorem dX4_mixed_5 : decode cX4_mixed 5 = .ok (.iload_n 1, 1) := by decide +kernel
theorem dX4_mixed_6 : decode cX4_mixed 6 = .ok (.iconst 3, 1) := by decide +kernel
theorem dX4_mixed_7 : decode cX4_mixed 7 = .ok (.invokestatic 44, 3) := by decide +kernel
theorem dX4_mixed_10 : decode cX4_mixed 10 = .ok (.iaload, 1) := by decide +kernel
theorem dX4_mixed_11 : decode cX4_mixed 11 = .ok (.imul, 1) := by decide +kernel
theorem dX4_mixed_12 : decode cX4_mixed 12 = .ok (.aload_n 0, 1) := by decide +kernel
theorem dX4_mixed_13 : decode cX4_mixed 13 = .ok (.getfield 9, 3) := by decide +kernel
theorem dX4_mixed_16 : decode cX4_mixed 16 = .ok (.iload_n 2, 1) := by decide +kernel
theorem dX4_mixed_17 : decode cX4_mixed 17 = .ok (.iconst 2, 1) := by decide +kernel
theorem dX4_mixed_18 : decode cX4_mixed 18 = .ok (.invokestatic 44, 3) := by decide +kernel
theorem dX4_mixed_21 : decode cX4_mixed 21 = .ok (.iaload, 1) := by decide +kernel
theorem dX4_mixed_22 : decode cX4_mixed 22 = .ok (.aload_n 0, 1) := by decide +kernel
theorem dX4_mixed_23 : decode cX4_mixed 23 = .ok (.getfield 9, 3) := by decide +kernel
theorem dX4_mixed_26 : decode cX4_mixed 26 = .ok (.iload_n 2, 1) := by decide +kernel
theorem dX4_mixed_27 : decode cX4_mixed 27 = .ok (.iconst 3, 1) := by decide +kernel
theorem dX4_mixed_28 : decode cX4_mixed 28 = .ok (.invokestatic 44, 3) := by decide +kernel
theorem dX4_mixed_31 : decode cX4_mixed 31 = .ok (.iaload, 1) := by decide +kernel
theorem dX4_mixed_32 : decode cX4_mixed 32 = .ok (.imul, 1) := by decide +kernel
theorem dX4_mixed_33 : decode cX4_mixed 33 = .ok (.iadd, 1) := by decide +kernel
theorem dX4_mixed_34 : decode cX4_mixed 34 = .ok (.iload_n 3, 1) := by decide +kernel
theorem dX4_mixed_35 : decode cX4_mixed 35 = .ok (.aload_n 0, 1) := by decide +kernel
theorem dX4_mixed_36 : decode cX4_mixed 36 = .ok (.getfield 9, 3) := by decide +kernel
theorem dX4_mixed_39 : decode cX4_mixed 39 = .ok (.iload_n 2, 1) := by decide +kernel
theorem dX4_mixed_40 : decode cX4_mixed 40 = .ok (.iconst 2, 1) := by decide +kernel
theorem dX4_mixed_41 : decode cX4_mixed 41 = .ok (.invokestatic 44, 3) := by decide +kernel
theorem dX4_mixed_44 : decode cX4_mixed 44 = .ok (.iaload, 1) := by decide +kernel
theorem dX4_mixed_45 : decode cX4_mixed 45 = .ok (.iadd, 1) := by decide +kernel
theorem dX4_mixed_46 : decode cX4_mixed 46 = .ok (.idiv, 1) := by decide +kernel
theorem dX4_mixed_47 : decode cX4_mixed 47 = .ok (.ireturn, 1) := by decide +kernel
theorem dX4_pours_0 : decode cX4_pours 0 = .ok (.aload_n 0, 1) := by decide +kernel
theorem dX4_pours_1 : decode cX4_pours 1 = .ok (.getfield 9, 3) := by decide +kernel
theorem dX4_pours_4 : decode cX4_pours 4 = .ok (.iload_n 2, 1) := by decide +kernel
theorem dX4_pours_5 : decode cX4_pours 5 = .ok (.iconst 3, 1) := by decide +kernel
theorem dX4_pours_6 : decode cX4_pours 6 = .ok (.invokestatic 44, 3) := by decide +kernel
theorem dX4_pours_9 : decode cX4_pours 9 = .ok (.aload_n 0, 1) := by decide +kernel
theorem dX4_pours_10 : decode cX4_pours 10 = .ok (.iload_n 1, 1) := by decide +kernel
theorem dX4_pours_11 : decode cX4_pours 11 = .ok (.iload_n 2, 1) := by decide +kernel
theorem dX4_pours_12 : decode cX4_pours 12 = .ok (.iload_n 3, 1) := by decide +kernel
theorem dX4_pours_13 : decode cX4_pours 13 = .ok (.invokevirtual 107, 3) := by decide +kernel
theorem dX4_pours_16 : decode cX4_pours 16 = .ok (.iastore, 1) := by decide +kernel
theorem dX4_pours_17 : decode cX4_pours 17 = .ok (.aload_n 0, 1) := by decide +kernel
theorem dX4_pours_18 : decode cX4_pours 18 = .ok (.getfield 9, 3) := by decide +kernel
theorem dX4_pours_21 : decode cX4_pours 21 = .ok (.iload_n 1, 1) := by decide +kernel
theorem dX4_pours_22 : decode cX4_pours 22 = .ok (.iconst 2, 1) := by decide +kernel
theorem dX4_pours_23 : decode cX4_pours 23 = .ok (.invokestatic 44, 3) := by decide +kernel
theorem dX4_pours_26 : decode cX4_pours 26 = .ok (.dup2, 1) := by decide +kernel
theorem dX4_pours_27 : decode cX4_pours 27 = .ok (.iaload, 1) := by decide +kernel
theorem dX4_pours_28 : decode cX4_pours 28 = .ok (.iload_n 3, 1) := by decide +kernel
theorem dX4_pours_29 : decode cX4_pours 29 = .ok (.isub, 1) := by decide +kernel
theorem dX4_pours_30 : decode cX4_pours 30 = .ok (.iastore, 1) := by decide +kernel
theorem dX4_pours_31 : decode cX4_pours 31 = .ok (.aload_n 0, 1) := by decide +kernel
theorem dX4_pours_32 : decode cX4_pours 32 = .ok (.getfield 9, 3) := by decide +kernel
theorem dX4_pours_35 : decode cX4_pours 35 = .ok (.iload_n 2, 1) := by decide +kernel
theorem dX4_pours_36 : decode cX4_pours 36 = .ok (.iconst 2, 1) := by decide +kernel
theorem dX4_pours_37 : decode cX4_pours 37 = .ok (.invokestatic 44, 3) := by decide +kernel
theorem dX4_pours_40 : decode cX4_pours 40 = .ok (.dup2, 1) := by decide +kernel
theorem dX4_pours_41 : decode cX4_pours 41 = .ok (.iaload, 1) := by decide +kernel
theorem dX4_pours_42 : decode cX4_pours 42 = .ok (.iload_n 3, 1) := by decide +kernel
theorem dX4_pours_43 : decode cX4_pours 43 = .ok (.iadd, 1) := by decide +kernel
theorem dX4_pours_44 : decode cX4_pours 44 = .ok (.iastore, 1) := by decide +kernel
theorem dX4_pours_45 : decode cX4_pours 45 = .ok (.return_, 1) := by decide +kernel
theorem dX4_isDone_0 : decode cX4_isDone 0 = .ok (.aload_n 0, 1) := by decide +kernel
theorem dX4_isDone_1 : decode cX4_isDone 1 = .ok (.getfield 31, 3) := by decide +kernel
theorem dX4_isDone_4 : decode cX4_isDone 4 = .ok (.iconst 0, 1) := by decide +kernel
theorem dX4_isDone_5 : decode cX4_isDone 5 = .ok (.iaload, 1) := by decide +kernel
theorem dX4_isDone_6 : decode cX4_isDone 6 = .ok (.istore_n 2, 1) := by decide +kernel
theorem dX4_isDone_7 : decode cX4_isDone 7 = .ok (.aload_n 0, 1) := by decide +kernel
theorem dX4_isDone_8 : decode cX4_isDone 8 = .ok (.getfield 31, 3) := by decide +kernel
theorem dX4_isDone_11 : decode cX4_isDone 11 = .ok (.iconst 1, 1) := by decide +kernel
theorem dX4_isDone_12 : decode cX4_isDone 12 = .ok (.iaload, 1) := by decide +kernel
theorem dX4_isDone_13 : decode cX4_isDone 13 = .ok (.istore_n 3, 1) := by decide +kernel
theorem dX4_isDone_14 : decode cX4_isDone 14 = .ok (.iload_n 1, 1) := by decide +kernel
theorem dX4_isDone_15 : decode cX4_isDone 15 = .ok (.lookupswitch 263 #[(99, 49), (101, 186), (108, 168), (112, 195), (114, 149)], 49) := by decide +kernel
theorem dX4_isDone_64 : decode cX4_isDone 64 = .ok (.iload_n 3, 1) := by decide +kernel
theorem dX4_isDone_65 : decode cX4_isDone 65 = .ok (.iconst 1, 1) := by decide +kernel
theorem dX4_isDone_66 : decode cX4_isDone 66 = .ok (.sipush 400, 3) := by decide +kernel
theorem dX4_isDone_69 : decode cX4_isDone 69 = .ok (.invokestatic 40, 3) := by decide +kernel
theorem dX4_isDone_72 : decode cX4_isDone 72 = .ok (.ifCond .eq 24, 3) := by decide +kernel
theorem dX4_isDone_75 : decode cX4_isDone 75 = .ok (.aload_n 0, 1) := by decide +kernel
theorem dX4_isDone_76 : decode cX4_isDone 76 = .ok (.getfield 31, 3) := by decide +kernel
theorem dX4_isDone_79 : decode cX4_isDone 79 = .ok (.iconst 2, 1) := by decide +kernel
theorem dX4_isDone_80 : decode cX4_isDone 80 = .ok (.iaload, 1) := by decide +kernel
theorem dX4_isDone_81 : decode cX4_isDone 81 = .ok (.iload_n 3, 1) := by decide +kernel
theorem dX4_isDone_82 : decode cX4_isDone 82 = .ok (.if_icmp .gt 14, 3) := by decide +kernel
theorem dX4_isDone_85 : decode cX4_isDone 85 = .ok (.aload_n 0, 1) := by decide +kernel
theorem dX4_isDone_86 : decode cX4_isDone 86 = .ok (.getfield 9, 3) := by decide +kernel
theorem dX4_isDone_89 : decode cX4_isDone 89 = .ok (.iconst 0, 1) := by decide +kernel
theorem dX4_isDone_90 : decode cX4_isDone 90 = .ok (.iaload, 1) := by decide +kernel
theorem dX4_isDone_91 : decode cX4_isDone 91 = .ok (.bipush 7, 2) := by decide +kernel
theorem dX4_isDone_93 : decode cX4_isDone 93 = .ok (.if_icmp .ne 5, 3) := by decide +kernel
theorem dX4_isDone_96 : decode cX4_isDone 96 = .ok (.iconst 0, 1) := by decide +kernel
theorem dX4_isDone_97 : decode cX4_isDone 97 = .ok (.ireturn, 1) := by decide +kernel
theorem dX4_isDone_98 : decode cX4_isDone 98 = .ok (.iconst 0, 1) := by decide +kernel
theorem dX4_isDone_99 : decode cX4_isDone 99 = .ok (.istore 4, 2) := by decide +kernel
theorem dX4_isDone_101 : decode cX4_isDone 101 = .ok (.iload 4, 2) := by decide +kernel
theorem dX4_isDone_103 : decode cX4_isDone 103 = .ok (.iconst 5, 1) := by decide +kernel
theorem dX4_isDone_104 : decode cX4_isDone 104 = .ok (.if_icmp .ge 32, 3) := by decide +kernel
theorem dX4_isDone_107 : decode cX4_isDone 107 = .ok (.aload_n 0, 1) := by decide +kernel
theorem dX4_isDone_108 : decode cX4_isDone 108 = .ok (.getfield 9, 3) := by decide +kernel
theorem dX4_isDone_111 : decode cX4_isDone 111 = .ok (.aload_n 0, 1) := by decide +kernel
theorem dX4_isDone_112 : decode cX4_isDone 112 = .ok (.getfield 9, 3) := by decide +kernel
theorem dX4_isDone_115 : decode cX4_isDone 115 = .ok (.iconst 0, 1) := by decide +kernel
theorem dX4_isDone_116 : decode cX4_isDone 116 = .ok (.iaload, 1) := by decide +kernel
theorem dX4_isDone_117 : decode cX4_isDone 117 = .ok (.iload 4, 2) := by decide +kernel
theorem dX4_isDone_119 : decode cX4_isDone 119 = .ok (.invokestatic 44, 3) := by decide +kernel
theorem dX4_isDone_122 : decode cX4_isDone 122 = .ok (.aload_n 0, 1) := by decide +kernel
theorem dX4_isDone_123 : decode cX4_isDone 123 = .ok (.getfield 31, 3) := by decide +kernel
theorem dX4_isDone_126 : decode cX4_isDone 126 = .ok (.iload 4, 2) := by decide +kernel
theorem dX4_isDone_128 : decode cX4_isDone 128 = .ok (.iaload, 1) := by decide +kernel
theorem dX4_isDone_129 : decode cX4_isDone 129 = .ok (.iastore, 1) := by decide +kernel
theorem dX4_isDone_130 : decode cX4_isDone 130 = .ok (.iinc 4 1, 3) := by decide +kernel
theorem dX4_isDone_133 : decode cX4_isDone 133 = .ok (.goto (-32), 3) := by decide +kernel
theorem dX4_isDone_136 : decode cX4_isDone 136 = .ok (.aload_n 0, 1) := by decide +kernel
theorem dX4_isDone_137 : decode cX4_isDone 137 = .ok (.getfield 9, 3) := by decide +kernel
theorem dX4_isDone_140 : decode cX4_isDone 140 = .ok (.aload_n 0, 1) := by decide +kernel
theorem dX4_isDone_141 : decode cX4_isDone 141 = .ok (.getfield 9, 3) := by decide +kernel
theorem dX4_isDone_144 : decode cX4_isDone 144 = .ok (.iconst 0, 1) := by decide +kernel
theorem dX4_isDone_145 : decode cX4_isDone 145 = .ok (.iaload, 1) := by decide +kernel
theorem dX4_isDone_146 : decode cX4_isDone 146 = .ok (.iconst 5, 1) := by decide +kernel
theorem dX4_isDone_147 : decode cX4_isDone 147 = .ok (.invokestatic 44, 3) := by decide +kernel
theorem dX4_isDone_150 : decode cX4_isDone 150 = .ok (.iconst 0, 1) := by decide +kernel
theorem dX4_isDone_151 : decode cX4_isDone 151 = .ok (.iastore, 1) := by decide +kernel
theorem dX4_isDone_152 : decode cX4_isDone 152 = .ok (.aload_n 0, 1) := by decide +kernel
theorem dX4_isDone_153 : decode cX4_isDone 153 = .ok (.getfield 9, 3) := by decide +kernel
theorem dX4_isDone_156 : decode cX4_isDone 156 = .ok (.iconst 0, 1) := by decide +kernel
theorem dX4_isDone_157 : decode cX4_isDone 157 = .ok (.dup2, 1) := by decide +kernel
theorem dX4_isDone_158 : decode cX4_isDone 158 = .ok (.iaload, 1) := by decide +kernel
theorem dX4_isDone_159 : decode cX4_isDone 159 = .ok (.iconst 1, 1) := by decide +kernel
theorem dX4_isDone_160 : decode cX4_isDone 160 = .ok (.iadd, 1) := by decide +kernel
theorem dX4_isDone_161 : decode cX4_isDone 161 = .ok (.iastore, 1) := by decide +kernel
theorem dX4_isDone_162 : decode cX4_isDone 162 = .ok (.iconst 1, 1) := by decide +kernel
theorem dX4_isDone_163 : decode cX4_isDone 163 = .ok (.ireturn, 1) := by decide +kernel
theorem dX4_isDone_164 : decode cX4_isDone 164 = .ok (.aload_n 0, 1) := by decide +kernel
theorem dX4_isDone_165 : decode cX4_isDone 165 = .ok (.getfield 9, 3) := by decide +kernel
theorem dX4_isDone_168 : decode cX4_isDone 168 = .ok (.iconst 2, 1) := by decide +kernel
theorem dX4_isDone_169 : decode cX4_isDone 169 = .ok (.iload_n 2, 1) := by decide +kernel
theorem dX4_isDone_170 : decode cX4_isDone 170 = .ok (.iastore, 1) := by decide +kernel
theorem dX4_isDone_171 : decode cX4_isDone 171 = .ok (.iload_n 2, 1) := by decide +kernel
theorem dX4_isDone_172 : decode cX4_isDone 172 = .ok (.bipush 40, 2) := by decide +kernel
theorem dX4_isDone_174 : decode cX4_isDone 174 = .ok (.if_icmp .gt 7, 3) := by decide +kernel
theorem dX4_isDone_177 : decode cX4_isDone 177 = .ok (.iconst 1, 1) := by decide +kernel
theorem dX4_isDone_178 : decode cX4_isDone 178 = .ok (.goto 4, 3) := by decide +kernel
theorem dX4_isDone_181 : decode cX4_isDone 181 = .ok (.iconst 0, 1) := by decide +kernel
theorem dX4_isDone_182 : decode cX4_isDone 182 = .ok (.ireturn, 1) := by decide +kernel
theorem dX4_isDone_183 : decode cX4_isDone 183 = .ok (.aload_n 0, 1) := by decide +kernel
theorem dX4_isDone_184 : decode cX4_isDone 184 = .ok (.getfield 9, 3) := by decide +kernel
theorem dX4_isDone_187 : decode cX4_isDone 187 = .ok (.iconst 3, 1) := by decide +kernel
theorem dX4_isDone_188 : decode cX4_isDone 188 = .ok (.iload_n 2, 1) := by decide +kernel
theorem dX4_isDone_189 : decode cX4_isDone 189 = .ok (.iastore, 1) := by decide +kernel
theorem dX4_isDone_190 : decode cX4_isDone 190 = .ok (.iload_n 2, 1) := by decide +kernel
theorem dX4_isDone_191 : decode cX4_isDone 191 = .ok (.iconst 1, 1) := by decide +kernel
theorem dX4_isDone_192 : decode cX4_isDone 192 = .ok (.if_icmp .lt 7, 3) := by decide +kernel
theorem dX4_isDone_195 : decode cX4_isDone 195 = .ok (.iconst 1, 1) := by decide +kernel
theorem dX4_isDone_196 : decode cX4_isDone 196 = .ok (.goto 4, 3) := by decide +kernel
theorem dX4_isDone_199 : decode cX4_isDone 199 = .ok (.iconst 0, 1) := by decide +kernel
theorem dX4_isDone_200 : decode cX4_isDone 200 = .ok (.ireturn, 1) := by decide +kernel
theorem dX4_isDone_201 : decode cX4_isDone 201 = .ok (.aload_n 0, 1) := by decide +kernel
theorem dX4_isDone_202 : decode cX4_isDone 202 = .ok (.getfield 9, 3) := by decide +kernel
theorem dX4_isDone_205 : decode cX4_isDone 205 = .ok (.iconst 4, 1) := by decide +kernel
theorem dX4_isDone_206 : decode cX4_isDone 206 = .ok (.iload_n 2, 1) := by decide +kernel
theorem dX4_isDone_207 : decode cX4_isDone 207 = .ok (.iastore, 1) := by decide +kernel
theorem dX4_isDone_208 : decode cX4_isDone 208 = .ok (.iconst 1, 1) := by decide +kernel
theorem dX4_isDone_209 : decode cX4_isDone 209 = .ok (.ireturn, 1) := by decide +kernel
theorem dX4_isDone_210 : decode cX4_isDone 210 = .ok (.aload_n 0, 1) := by decide +kernel
theorem dX4_isDone_211 : decode cX4_isDone 211 = .ok (.iload_n 2, 1) := by decide +kernel
theorem dX4_isDone_212 : decode cX4_isDone 212 = .ok (.invokevirtual 111, 3) := by decide +kernel
theorem dX4_isDone_215 : decode cX4_isDone 215 = .ok (.ifCond .eq 47, 3) := by decide +kernel
theorem dX4_isDone_218 : decode cX4_isDone 218 = .ok (.aload_n 0, 1) := by decide +kernel
theorem dX4_isDone_219 : decode cX4_isDone 219 = .ok (.iload_n 3, 1) := by decide +kernel
theorem dX4_isDone_220 : decode cX4_isDone 220 = .ok (.invokevirtual 111, 3) := by decide +kernel
theorem dX4_isDone_223 : decode cX4_isDone 223 = .ok (.ifCond .eq 39, 3) := by decide +kernel
theorem dX4_isDone_226 : decode cX4_isDone 226 = .ok (.iload_n 2, 1) := by decide +kernel
theorem dX4_isDone_227 : decode cX4_isDone 227 = .ok (.iload_n 3, 1) := by decide +kernel
theorem dX4_isDone_228 : decode cX4_isDone 228 = .ok (.if_icmp .eq 34, 3) := by decide +kernel
theorem dX4_isDone_231 : decode cX4_isDone 231 = .ok (.aload_n 0, 1) := by decide +kernel
theorem dX4_isDone_232 : decode cX4_isDone 232 = .ok (.getfield 31, 3) := by decide +kernel
theorem dX4_isDone_235 : decode cX4_isDone 235 = .ok (.iconst 2, 1) := by decide +kernel
theorem dX4_isDone_236 : decode cX4_isDone 236 = .ok (.iaload, 1) := by decide +kernel
theorem dX4_isDone_237 : decode cX4_isDone 237 = .ok (.iconst 1, 1) := by decide +kernel
theorem dX4_isDone_238 : decode cX4_isDone 238 = .ok (.sipush 400, 3) := by decide +kernel
theorem dX4_isDone_241 : decode cX4_isDone 241 = .ok (.invokestatic 40, 3) := by decide +kernel
theorem dX4_isDone_244 : decode cX4_isDone 244 = .ok (.ifCond .eq 18, 3) := by decide +kernel
theorem dX4_isDone_247 : decode cX4_isDone 247 = .ok (.aload_n 0, 1) := by decide +kernel
theorem dX4_isDone_248 : decode cX4_isDone 248 = .ok (.iload_n 2, 1) := by decide +kernel
theorem dX4_isDone_249 : decode cX4_isDone 249 = .ok (.iload_n 3, 1) := by decide +kernel
theorem dX4_isDone_250 : decode cX4_isDone 250 = .ok (.aload_n 0, 1) := by decide +kernel
theorem dX4_isDone_251 : decode cX4_isDone 251 = .ok (.getfield 31, 3) := by decide +kernel
theorem dX4_isDone_254 : decode cX4_isDone 254 = .ok (.iconst 2, 1) := by decide +kernel
theorem dX4_isDone_255 : decode cX4_isDone 255 = .ok (.iaload, 1) := by decide +kernel
theorem dX4_isDone_256 : decode cX4_isDone 256 = .ok (.invokevirtual 115, 3) := by decide +kernel
theorem dX4_isDone_259 : decode cX4_isDone 259 = .ok (.ifCond .ne 5, 3) := by decide +kernel
theorem dX4_isDone_262 : decode cX4_isDone 262 = .ok (.iconst 0, 1) := by decide +kernel
theorem dX4_isDone_263 : decode cX4_isDone 263 = .ok (.ireturn, 1) := by decide +kernel
theorem dX4_isDone_264 : decode cX4_isDone 264 = .ok (.aload_n 0, 1) := by decide +kernel
theorem dX4_isDone_265 : decode cX4_isDone 265 = .ok (.iload_n 2, 1) := by decide +kernel
theorem dX4_isDone_266 : decode cX4_isDone 266 = .ok (.iload_n 3, 1) := by decide +kernel
theorem dX4_isDone_267 : decode cX4_isDone 267 = .ok (.aload_n 0, 1) := by decide +kernel
theorem dX4_isDone_268 : decode cX4_isDone 268 = .ok (.getfield 31, 3) := by decide +kernel
theorem dX4_isDone_271 : decode cX4_isDone 271 = .ok (.iconst 2, 1) := by decide +kernel
theorem dX4_isDone_272 : decode cX4_isDone 272 = .ok (.iaload, 1) := by decide +kernel
theorem dX4_isDone_273 : decode cX4_isDone 273 = .ok (.invokevirtual 118, 3) := by decide +kernel
theorem dX4_isDone_276 : decode cX4_isDone 276 = .ok (.iconst 1, 1) := by decide +kernel
theorem dX4_isDone_277 : decode cX4_isDone 277 = .ok (.ireturn, 1) := by decide +kernel
theorem dX4_isDone_278 : decode cX4_isDone 278 = .ok (.iload_n 2, 1) := by decide +kernel
theorem dX4_isDone_279 : decode cX4_isDone 279 = .ok (.iconst 1, 1) := by decide +kernel
theorem dX4_isDone_280 : decode cX4_isDone 280 = .ok (.bipush 60, 2) := by decide +kernel
theorem dX4_isDone_282 : decode cX4_isDone 282 = .ok (.invokestatic 40, 3) := by decide +kernel
theorem dX4_isDone_285 : decode cX4_isDone 285 = .ok (.ifCond .eq 17, 3) := by decide +kernel
theorem dX4_isDone_288 : decode cX4_isDone 288 = .ok (.aload_n 0, 1) := by decide +kernel
theorem dX4_isDone_289 : decode cX4_isDone 289 = .ok (.getfield 9, 3) := by decide +kernel
theorem dX4_isDone_292 : decode cX4_isDone 292 = .ok (.iconst 1, 1) := by decide +kernel
theorem dX4_isDone_293 : decode cX4_isDone 293 = .ok (.iaload, 1) := by decide +kernel
theorem dX4_isDone_294 : decode cX4_isDone 294 = .ok (.iload_n 2, 1) := by decide +kernel
theorem dX4_isDone_295 : decode cX4_isDone 295 = .ok (.iadd, 1) := by decide +kernel
theorem dX4_isDone_296 : decode cX4_isDone 296 = .ok (.sipush 999, 3) := by decide +kernel
theorem dX4_isDone_299 : decode cX4_isDone 299 = .ok (.if_icmp .le 5, 3) := by decide +kernel
theorem dX4_isDone_302 : decode cX4_isDone 302 = .ok (.iconst 0, 1) := by decide +kernel
theorem dX4_isDone_303 : decode cX4_isDone 303 = .ok (.ireturn, 1) := by decide +kernel
theorem dX4_isDone_304 : decode cX4_isDone 304 = .ok (.aload_n 0, 1) := by decide +kernel
theorem dX4_isDone_305 : decode cX4_isDone 305 = .ok (.aload_n 0, 1) := by decide +kernel
theorem dX4_isDone_306 : decode cX4_isDone 306 = .ok (.getfield 9, 3) := by decide +kernel
theorem dX4_isDone_309 : decode cX4_isDone 309 = .ok (.iload_n 2, 1) := by decide +kernel
theorem dX4_isDone_310 : decode cX4_isDone 310 = .ok (.invokevirtual 82, 3) := by decide +kernel
theorem dX4_isDone_313 : decode cX4_isDone 313 = .ok (.iconst 1, 1) := by decide +kernel
theorem dX4_isDone_314 : decode cX4_isDone 314 = .ok (.ireturn, 1) := by decide +kernel
theorem dX4_town_0 : decode cX4_town 0 = .ok (.aload_n 0, 1) := by decide +kernel
theorem dX4_town_1 : decode cX4_town 1 = .ok (.iconst 0, 1) := by decide +kernel
theorem dX4_town_2 : decode cX4_town 2 = .ok (.putfield 89, 3) := by decide +kernel
theorem dX4_town_5 : decode cX4_town 5 = .ok (.iconst 0, 1) := by decide +kernel
theorem dX4_town_6 : decode cX4_town 6 = .ok (.istore_n 1, 1) := by decide +kernel
theorem dX4_town_7 : decode cX4_town 7 = .ok (.bipush (-9), 2) := by decide +kernel
theorem dX4_town_9 : decode cX4_town 9 = .ok (.istore_n 2, 1) := by decide +kernel
theorem dX4_town_10 : decode cX4_town 10 = .ok (.aload_n 0, 1) := by decide +kernel
theorem dX4_town_11 : decode cX4_town 11 = .ok (.invokevirtual 122, 3) := by decide +kernel
theorem dX4_town_14 : decode cX4_town 14 = .ok (.ifCond .ne 12, 3) := by decide +kernel
theorem dX4_town_17 : decode cX4_town 17 = .ok (.sipush (-1000), 3) := by decide +kernel
theorem dX4_town_20 : decode cX4_town 20 = .ok (.aload_n 0, 1) := by decide +kernel
theorem dX4_town_21 : decode cX4_town 21 = .ok (.getfield 89, 3) := by decide +kernel
theorem dX4_town_24 : decode cX4_town 24 = .ok (.isub, 1) := by decide +kernel
theorem dX4_town_25 : decode cX4_town 25 = .ok (.istore_n 2, 1) := by decide +kernel
theorem dX4_town_26 : decode cX4_town 26 = .ok (.iinc 1 1, 3) := by decide +kernel
theorem dX4_town_29 : decode cX4_town 29 = .ok (.iload_n 2, 1) := by decide +kernel
theorem dX4_town_30 : decode cX4_town 30 = .ok (.bipush (-9), 2) := by decide +kernel
theorem dX4_town_32 : decode cX4_town 32 = .ok (.if_icmp .ne 14, 3) := by decide +kernel
theorem dX4_town_35 : decode cX4_town 35 = .ok (.aload_n 0, 1) := by decide +kernel
theorem dX4_town_36 : decode cX4_town 36 = .ok (.getfield 89, 3) := by decide +kernel
theorem dX4_town_39 : decode cX4_town 39 = .ok (.aload_n 0, 1) := by decide +kernel
theorem dX4_town_40 : decode cX4_town 40 = .ok (.getfield 86, 3) := by decide +kernel
theorem dX4_town_43 : decode cX4_town 43 = .ok (.if_icmp .lt (-33), 3) := by decide +kernel
theorem dX4_town_46 : decode cX4_town 46 = .ok (.aload_n 0, 1) := by decide +kernel
theorem dX4_town_47 : decode cX4_town 47 = .ok (.getfield 9, 3) := by decide +kernel
theorem dX4_town_50 : decode cX4_town 50 = .ok (.aload_n 0, 1) := by decide +kernel
theorem dX4_town_51 : decode cX4_town 51 = .ok (.getfield 19, 3) := by decide +kernel
theorem dX4_town_54 : decode cX4_town 54 = .ok (.invokestatic 78, 3) := by decide +kernel
theorem dX4_town_57 : decode cX4_town 57 = .ok (.aload_n 0, 1) := by decide +kernel
theorem dX4_town_58 : decode cX4_town 58 = .ok (.iconst 0, 1) := by decide +kernel
theorem dX4_town_59 : decode cX4_town 59 = .ok (.putfield 89, 3) := by decide +kernel
theorem dX4_town_62 : decode cX4_town 62 = .ok (.iload_n 2, 1) := by decide +kernel
theorem dX4_town_63 : decode cX4_town 63 = .ok (.bipush (-9), 2) := by decide +kernel
theorem dX4_town_65 : decode cX4_town 65 = .ok (.if_icmp .ne 63, 3) := by decide +kernel
theorem dX4_town_68 : decode cX4_town 68 = .ok (.aload_n 0, 1) := by decide +kernel
theorem dX4_town_69 : decode cX4_town 69 = .ok (.getfield 89, 3) := by decide +kernel
theorem dX4_town_72 : decode cX4_town 72 = .ok (.aload_n 0, 1) := by decide +kernel
theorem dX4_town_73 : decode cX4_town 73 = .ok (.getfield 86, 3) := by decide +kernel
theorem dX4_town_76 : decode cX4_town 76 = .ok (.if_icmp .ge 52, 3) := by decide +kernel
theorem dX4_town_79 : decode cX4_town 79 = .ok (.aload_n 0, 1) := by decide +kernel
theorem dX4_town_80 : decode cX4_town 80 = .ok (.getfield 89, 3) := by decide +kernel
theorem dX4_town_83 : decode cX4_town 83 = .ok (.istore_n 3, 1) := by decide +kernel
theorem dX4_town_84 : decode cX4_town 84 = .ok (.aload_n 0, 1) := by decide +kernel
theorem dX4_town_85 : decode cX4_town 85 = .ok (.invokevirtual 92, 3) := by decide +kernel
theorem dX4_town_88 : decode cX4_town 88 = .ok (.istore 4, 2) := by decide +kernel
theorem dX4_town_90 : decode cX4_town 90 = .ok (.aload_n 0, 1) := by decide +kernel
theorem dX4_town_91 : decode cX4_town 91 = .ok (.invokevirtual 122, 3) := by decide +kernel
theorem dX4_town_94 : decode cX4_town 94 = .ok (.istore 5, 2) := by decide +kernel
theorem dX4_town_96 : decode cX4_town 96 = .ok (.aload_n 0, 1) := by decide +kernel
theorem dX4_town_97 : decode cX4_town 97 = .ok (.iload 4, 2) := by decide +kernel
theorem dX4_town_99 : decode cX4_town 99 = .ok (.invokevirtual 125, 3) := by decide +kernel
theorem dX4_town_102 : decode cX4_town 102 = .ok (.ifCond .eq 6, 3) := by decide +kernel
theorem dX4_town_105 : decode cX4_town 105 = .ok (.goto (-43), 3) := by decide +kernel
theorem dX4_town_108 : decode cX4_town 108 = .ok (.sipush (-2000), 3) := by decide +kernel
theorem dX4_town_111 : decode cX4_town 111 = .ok (.iload_n 3, 1) := by decide +kernel
theorem dX4_town_112 : decode cX4_town 112 = .ok (.isub, 1) := by decide +kernel
theorem dX4_town_113 : decode cX4_town 113 = .ok (.istore_n 2, 1) := by decide +kernel
theorem dX4_town_114 : decode cX4_town 114 = .ok (.aload_n 0, 1) := by decide +kernel
theorem dX4_town_115 : decode cX4_town 115 = .ok (.getfield 19, 3) := by decide +kernel
theorem dX4_town_118 : decode cX4_town 118 = .ok (.aload_n 0, 1) := by decide +kernel
theorem dX4_town_119 : decode cX4_town 119 = .ok (.getfield 9, 3) := by decide +kernel
theorem dX4_town_122 : decode cX4_town 122 = .ok (.invokestatic 78, 3) := by decide +kernel
theorem dX4_town_125 : decode cX4_town 125 = .ok (.goto (-63), 3) := by decide +kernel
theorem dX4_town_128 : decode cX4_town 128 = .ok (.aload_n 0, 1) := by decide +kernel
theorem dX4_town_129 : decode cX4_town 129 = .ok (.iconst 0, 1) := by decide +kernel
theorem dX4_town_130 : decode cX4_town 130 = .ok (.putfield 86, 3) := by decide +kernel
theorem dX4_town_133 : decode cX4_town 133 = .ok (.iload_n 2, 1) := by decide +kernel
theorem dX4_town_134 : decode cX4_town 134 = .ok (.bipush (-9), 2) := by decide +kernel
theorem dX4_town_136 : decode cX4_town 136 = .ok (.if_icmp .ne 7, 3) := by decide +kernel
theorem dX4_town_139 : decode cX4_town 139 = .ok (.iload_n 1, 1) := by decide +kernel
theorem dX4_town_140 : decode cX4_town 140 = .ok (.goto 4, 3) := by decide +kernel
theorem dX4_town_143 : decode cX4_town 143 = .ok (.iload_n 2, 1) := by decide +kernel
theorem dX4_town_144 : decode cX4_town 144 = .ok (.ireturn, 1) := by decide +kernel
theorem dX4_cask_0 : decode cX4_cask 0 = .ok (.aload_n 0, 1) := by decide +kernel
theorem dX4_cask_1 : decode cX4_cask 1 = .ok (.iload_n 1, 1) := by decide +kernel
theorem dX4_cask_2 : decode cX4_cask 2 = .ok (.invokevirtual 111, 3) := by decide +kernel
theorem dX4_cask_5 : decode cX4_cask 5 = .ok (.ifCond .ne 9, 3) := by decide +kernel
theorem dX4_cask_8 : decode cX4_cask 8 = .ok (.aload_n 0, 1) := by decide +kernel
theorem dX4_cask_9 : decode cX4_cask 9 = .ok (.iconst (-1), 1) := by decide +kernel
theorem dX4_cask_10 : decode cX4_cask 10 = .ok (.invokevirtual 36, 3) := by decide +kernel
theorem dX4_cask_13 : decode cX4_cask 13 = .ok (.ireturn, 1) := by decide +kernel
theorem dX4_cask_14 : decode cX4_cask 14 = .ok (.iload_n 2, 1) := by decide +kernel
theorem dX4_cask_15 : decode cX4_cask 15 = .ok (.iconst 0, 1) := by decide +kernel
theorem dX4_cask_16 : decode cX4_cask 16 = .ok (.iconst 5, 1) := by decide +kernel
theorem dX4_cask_17 : decode cX4_cask 17 = .ok (.invokestatic 40, 3) := by decide +kernel
theorem dX4_cask_20 : decode cX4_cask 20 = .ok (.ifCond .eq 16, 3) := by decide +kernel
theorem dX4_cask_23 : decode cX4_cask 23 = .ok (.aload_n 0, 1) := by decide +kernel
theorem dX4_cask_24 : decode cX4_cask 24 = .ok (.getfield 9, 3) := by decide +kernel
theorem dX4_cask_27 : decode cX4_cask 27 = .ok (.iload_n 1, 1) := by decide +kernel
theorem dX4_cask_28 : decode cX4_cask 28 = .ok (.iload_n 2, 1) := by decide +kernel
theorem dX4_cask_29 : decode cX4_cask 29 = .ok (.invokestatic 44, 3) := by decide +kernel
theorem dX4_cask_32 : decode cX4_cask 32 = .ok (.iaload, 1) := by decide +kernel
theorem dX4_cask_33 : decode cX4_cask 33 = .ok (.goto 9, 3) := by decide +kernel
theorem dX4_cask_36 : decode cX4_cask 36 = .ok (.aload_n 0, 1) := by decide +kernel
theorem dX4_cask_37 : decode cX4_cask 37 = .ok (.bipush (-2), 2) := by decide +kernel
theorem dX4_cask_39 : decode cX4_cask 39 = .ok (.invokevirtual 36, 3) := by decide +kernel
theorem dX4_cask_42 : decode cX4_cask 42 = .ok (.ireturn, 1) := by decide +kernel
theorem dX4_set_0 : decode cX4_set 0 = .ok (.iload_n 1, 1) := by decide +kernel
theorem dX4_set_1 : decode cX4_set 1 = .ok (.iconst 0, 1) := by decide +kernel
theorem dX4_set_2 : decode cX4_set 2 = .ok (.iconst 2, 1) := by decide +kernel
theorem dX4_set_3 : decode cX4_set 3 = .ok (.invokestatic 40, 3) := by decide +kernel
theorem dX4_set_6 : decode cX4_set 6 = .ok (.ifCond .ne 10, 3) := by decide +kernel
theorem dX4_set_9 : decode cX4_set 9 = .ok (.aload_n 0, 1) := by decide +kernel
theorem dX4_set_10 : decode cX4_set 10 = .ok (.bipush (-2), 2) := by decide +kernel
theorem dX4_set_12 : decode cX4_set 12 = .ok (.invokevirtual 36, 3) := by decide +kernel
theorem dX4_set_15 : decode cX4_set 15 = .ok (.ireturn, 1) := by decide +kernel
theorem dX4_set_16 : decode cX4_set 16 = .ok (.iload_n 2, 1) := by decide +kernel
theorem dX4_set_17 : decode cX4_set 17 = .ok (.iload_n 1, 1) := by decide +kernel
theorem dX4_set_18 : decode cX4_set 18 = .ok (.iconst 1, 1) := by decide +kernel
theorem dX4_set_19 : decode cX4_set 19 = .ok (.if_icmp .ne 7, 3) := by decide +kernel
theorem dX4_set_22 : decode cX4_set 22 = .ok (.iconst 1, 1) := by decide +kernel
theorem dX4_set_23 : decode cX4_set 23 = .ok (.goto 4, 3) := by decide +kernel
theorem dX4_set_26 : decode cX4_set 26 = .ok (.iconst 0, 1) := by decide +kernel
theorem dX4_set_27 : decode cX4_set 27 = .ok (.if_icmp .ge 10, 3) := by decide +kernel
theorem dX4_set_30 : decode cX4_set 30 = .ok (.aload_n 0, 1) := by decide +kernel
theorem dX4_set_31 : decode cX4_set 31 = .ok (.bipush (-4), 2) := by decide +kernel
theorem dX4_set_33 : decode cX4_set 33 = .ok (.invokevirtual 36, 3) := by decide +kernel
theorem dX4_set_36 : decode cX4_set 36 = .ok (.ireturn, 1) := by decide +kernel
theorem dX4_set_37 : decode cX4_set 37 = .ok (.iload_n 2, 1) := by decide +kernel
theorem dX4_set_38 : decode cX4_set 38 = .ok (.iload_n 1, 1) := by decide +kernel
theorem dX4_set_39 : decode cX4_set 39 = .ok (.ifCond .ne 8, 3) := by decide +kernel
theorem dX4_set_42 : decode cX4_set 42 = .ok (.bipush 40, 2) := by decide +kernel
theorem dX4_set_44 : decode cX4_set 44 = .ok (.goto 5, 3) := by decide +kernel
theorem dX4_set_47 : decode cX4_set 47 = .ok (.bipush 9, 2) := by decide +kernel
theorem dX4_set_49 : decode cX4_set 49 = .ok (.if_icmp .le 10, 3) := by decide +kernel
theorem dX4_set_52 : decode cX4_set 52 = .ok (.aload_n 0, 1) := by decide +kernel
theorem dX4_set_53 : decode cX4_set 53 = .ok (.bipush (-6), 2) := by decide +kernel
theorem dX4_set_55 : decode cX4_set 55 = .ok (.invokevirtual 36, 3) := by decide +kernel
theorem dX4_set_58 : decode cX4_set 58 = .ok (.ireturn, 1) := by decide +kernel
theorem dX4_set_59 : decode cX4_set 59 = .ok (.aload_n 0, 1) := by decide +kernel
theorem dX4_set_60 : decode cX4_set 60 = .ok (.getfield 9, 3) := by decide +kernel
theorem dX4_set_63 : decode cX4_set 63 = .ok (.iconst 2, 1) := by decide +kernel
theorem dX4_set_64 : decode cX4_set 64 = .ok (.iload_n 1, 1) := by decide +kernel
theorem dX4_set_65 : decode cX4_set 65 = .ok (.iadd, 1) := by decide +kernel
theorem dX4_set_66 : decode cX4_set 66 = .ok (.iaload, 1) := by decide +kernel
theorem dX4_set_67 : decode cX4_set 67 = .ok (.istore_n 3, 1) := by decide +kernel
theorem dX4_set_68 : decode cX4_set 68 = .ok (.aload_n 0, 1) := by decide +kernel
theorem dX4_set_69 : decode cX4_set 69 = .ok (.getfield 9, 3) := by decide +kernel
theorem dX4_set_72 : decode cX4_set 72 = .ok (.iconst 2, 1) := by decide +kernel
theorem dX4_set_73 : decode cX4_set 73 = .ok (.iload_n 1, 1) := by decide +kernel
theorem dX4_set_74 : decode cX4_set 74 = .ok (.iadd, 1) := by decide +kernel
theorem dX4_set_75 : decode cX4_set 75 = .ok (.iload_n 2, 1) := by decide +kernel
theorem dX4_set_76 : decode cX4_set 76 = .ok (.iastore, 1) := by decide +kernel
theorem dX4_set_77 : decode cX4_set 77 = .ok (.iload_n 3, 1) := by decide +kernel
theorem dX4_set_78 : decode cX4_set 78 = .ok (.ireturn, 1) := by decide +kernel
theorem dX4_fill_0 : decode cX4_fill 0 = .ok (.aload_n 0, 1) := by decide +kernel
theorem dX4_fill_1 : decode cX4_fill 1 = .ok (.iload_n 1, 1) := by decide +kernel
theorem dX4_fill_2 : decode cX4_fill 2 = .ok (.invokevirtual 111, 3) := by decide +kernel
theorem dX4_fill_5 : decode cX4_fill 5 = .ok (.ifCond .ne 9, 3) := by decide +kernel
theorem dX4_fill_8 : decode cX4_fill 8 = .ok (.aload_n 0, 1) := by decide +kernel
theorem dX4_fill_9 : decode cX4_fill 9 = .ok (.iconst (-1), 1) := by decide +kernel
theorem dX4_fill_10 : decode cX4_fill 10 = .ok (.invokevirtual 36, 3) := by decide +kernel
theorem dX4_fill_13 : decode cX4_fill 13 = .ok (.ireturn, 1) := by decide +kernel
theorem dX4_fill_14 : decode cX4_fill 14 = .ok (.iload_n 2, 1) := by decide +kernel
theorem dX4_fill_15 : decode cX4_fill 15 = .ok (.ifCond .ge 10, 3) := by decide +kernel
theorem dX4_fill_18 : decode cX4_fill 18 = .ok (.aload_n 0, 1) := by decide +kernel
theorem dX4_fill_19 : decode cX4_fill 19 = .ok (.bipush (-4), 2) := by decide +kernel
theorem dX4_fill_21 : decode cX4_fill 21 = .ok (.invokevirtual 36, 3) := by decide +kernel
theorem dX4_fill_24 : decode cX4_fill 24 = .ok (.ireturn, 1) := by decide +kernel
theorem dX4_fill_25 : decode cX4_fill 25 = .ok (.iload_n 2, 1) := by decide +kernel
theorem dX4_fill_26 : decode cX4_fill 26 = .ok (.aload_n 0, 1) := by decide +kernel
theorem dX4_fill_27 : decode cX4_fill 27 = .ok (.getfield 9, 3) := by decide +kernel
theorem dX4_fill_30 : decode cX4_fill 30 = .ok (.iload_n 1, 1) := by decide +kernel
theorem dX4_fill_31 : decode cX4_fill 31 = .ok (.iconst 1, 1) := by decide +kernel
theorem dX4_fill_32 : decode cX4_fill 32 = .ok (.invokestatic 44, 3) := by decide +kernel
theorem dX4_fill_35 : decode cX4_fill 35 = .ok (.iaload, 1) := by decide +kernel
theorem dX4_fill_36 : decode cX4_fill 36 = .ok (.if_icmp .le 10, 3) := by decide +kernel
theorem dX4_fill_39 : decode cX4_fill 39 = .ok (.aload_n 0, 1) := by decide +kernel
theorem dX4_fill_40 : decode cX4_fill 40 = .ok (.bipush (-6), 2) := by decide +kernel
theorem dX4_fill_42 : decode cX4_fill 42 = .ok (.invokevirtual 36, 3) := by decide +kernel
theorem dX4_fill_45 : decode cX4_fill 45 = .ok (.ireturn, 1) := by decide +kernel
theorem dX4_fill_46 : decode cX4_fill 46 = .ok (.aload_n 0, 1) := by decide +kernel
theorem dX4_fill_47 : decode cX4_fill 47 = .ok (.getfield 9, 3) := by decide +kernel
theorem dX4_fill_50 : decode cX4_fill 50 = .ok (.iload_n 1, 1) := by decide +kernel
theorem dX4_fill_51 : decode cX4_fill 51 = .ok (.iconst 2, 1) := by decide +kernel
theorem dX4_fill_52 : decode cX4_fill 52 = .ok (.invokestatic 44, 3) := by decide +kernel
theorem dX4_fill_55 : decode cX4_fill 55 = .ok (.iaload, 1) := by decide +kernel
theorem dX4_fill_56 : decode cX4_fill 56 = .ok (.istore_n 3, 1) := by decide +kernel
theorem dX4_fill_57 : decode cX4_fill 57 = .ok (.aload_n 0, 1) := by decide +kernel
theorem dX4_fill_58 : decode cX4_fill 58 = .ok (.getfield 9, 3) := by decide +kernel
theorem dX4_fill_61 : decode cX4_fill 61 = .ok (.iload_n 1, 1) := by decide +kernel
theorem dX4_fill_62 : decode cX4_fill 62 = .ok (.iconst 2, 1) := by decide +kernel
theorem dX4_fill_63 : decode cX4_fill 63 = .ok (.invokestatic 44, 3) := by decide +kernel
theorem dX4_fill_66 : decode cX4_fill 66 = .ok (.iload_n 2, 1) := by decide +kernel
theorem dX4_fill_67 : decode cX4_fill 67 = .ok (.iastore, 1) := by decide +kernel
theorem dX4_fill_68 : decode cX4_fill 68 = .ok (.iload_n 3, 1) := by decide +kernel
theorem dX4_fill_69 : decode cX4_fill 69 = .ok (.ireturn, 1) := by decide +kernel
theorem dX4_takes_0 : decode cX4_takes 0 = .ok (.aload_n 0, 1) := by decide +kernel
theorem dX4_takes_1 : decode cX4_takes 1 = .ok (.iload_n 1, 1) := by decide +kernel
theorem dX4_takes_2 : decode cX4_takes 2 = .ok (.invokevirtual 111, 3) := by decide +kernel
theorem dX4_takes_5 : decode cX4_takes 5 = .ok (.ifCond .ne 9, 3) := by decide +kernel
theorem dX4_takes_8 : decode cX4_takes 8 = .ok (.aload_n 0, 1) := by decide +kernel
theorem dX4_takes_9 : decode cX4_takes 9 = .ok (.iconst (-1), 1) := by decide +kernel
theorem dX4_takes_10 : decode cX4_takes 10 = .ok (.invokevirtual 36, 3) := by decide +kernel
theorem dX4_takes_13 : decode cX4_takes 13 = .ok (.ireturn, 1) := by decide +kernel
theorem dX4_takes_14 : decode cX4_takes 14 = .ok (.iload_n 2, 1) := by decide +kernel
theorem dX4_takes_15 : decode cX4_takes 15 = .ok (.ifCond .lt 7, 3) := by decide +kernel
theorem dX4_takes_18 : decode cX4_takes 18 = .ok (.iload_n 3, 1) := by decide +kernel
theorem dX4_takes_19 : decode cX4_takes 19 = .ok (.ifCond .ge 10, 3) := by decide +kernel
theorem dX4_takes_22 : decode cX4_takes 22 = .ok (.aload_n 0, 1) := by decide +kernel
theorem dX4_takes_23 : decode cX4_takes 23 = .ok (.bipush (-4), 2) := by decide +kernel
theorem dX4_takes_25 : decode cX4_takes 25 = .ok (.invokevirtual 36, 3) := by decide +kernel
theorem dX4_takes_28 : decode cX4_takes 28 = .ok (.ireturn, 1) := by decide +kernel
theorem dX4_takes_29 : decode cX4_takes 29 = .ok (.iload_n 2, 1) := by decide +kernel
theorem dX4_takes_30 : decode cX4_takes 30 = .ok (.sipush 400, 3) := by decide +kernel
theorem dX4_takes_33 : decode cX4_takes 33 = .ok (.if_icmp .gt 9, 3) := by decide +kernel
theorem dX4_takes_36 : decode cX4_takes 36 = .ok (.iload_n 3, 1) := by decide +kernel
theorem dX4_takes_37 : decode cX4_takes 37 = .ok (.bipush 80, 2) := by decide +kernel
theorem dX4_takes_39 : decode cX4_takes 39 = .ok (.if_icmp .le 12, 3) := by decide +kernel
theorem dX4_takes_42 : decode cX4_takes 42 = .ok (.aload_n 0, 1) := by decide +kernel
theorem dX4_takes_43 : decode cX4_takes 43 = .ok (.bipush (-6), 2) := by decide +kernel
theorem dX4_takes_45 : decode cX4_takes 45 = .ok (.invokevirtual 36, 3) := by decide +kernel
theorem dX4_takes_48 : decode cX4_takes 48 = .ok (.goto 13, 3) := by decide +kernel
theorem dX4_takes_51 : decode cX4_takes 51 = .ok (.aload_n 0, 1) := by decide +kernel
theorem dX4_takes_52 : decode cX4_takes 52 = .ok (.getfield 9, 3) := by decide +kernel
theorem dX4_takes_55 : decode cX4_takes 55 = .ok (.iload_n 1, 1) := by decide +kernel
theorem dX4_takes_56 : decode cX4_takes 56 = .ok (.iload_n 2, 1) := by decide +kernel
theorem dX4_takes_57 : decode cX4_takes 57 = .ok (.iload_n 3, 1) := by decide +kernel
theorem dX4_takes_58 : decode cX4_takes 58 = .ok (.invokestatic 58, 3) := by decide +kernel
theorem dX4_takes_61 : decode cX4_takes 61 = .ok (.ireturn, 1) := by decide +kernel
theorem dX4_pour_0 : decode cX4_pour 0 = .ok (.aload_n 0, 1) := by decide +kernel
theorem dX4_pour_1 : decode cX4_pour 1 = .ok (.iload_n 1, 1) := by decide +kernel
theorem dX4_pour_2 : decode cX4_pour 2 = .ok (.invokevirtual 111, 3) := by decide +kernel
theorem dX4_pour_5 : decode cX4_pour 5 = .ok (.ifCond .eq 16, 3) := by decide +kernel
theorem dX4_pour_8 : decode cX4_pour 8 = .ok (.aload_n 0, 1) := by decide +kernel
theorem dX4_pour_9 : decode cX4_pour 9 = .ok (.iload_n 2, 1) := by decide +kernel
theorem dX4_pour_10 : decode cX4_pour 10 = .ok (.invokevirtual 111, 3) := by decide +kernel
theorem dX4_pour_13 : decode cX4_pour 13 = .ok (.ifCond .eq 8, 3) := by decide +kernel
theorem dX4_pour_16 : decode cX4_pour 16 = .ok (.iload_n 1, 1) := by decide +kernel
theorem dX4_pour_17 : decode cX4_pour 17 = .ok (.iload_n 2, 1) := by decide +kernel
theorem dX4_pour_18 : decode cX4_pour 18 = .ok (.if_icmp .ne 9, 3) := by decide +kernel
theorem dX4_pour_21 : decode cX4_pour 21 = .ok (.aload_n 0, 1) := by decide +kernel
theorem dX4_pour_22 : decode cX4_pour 22 = .ok (.iconst (-1), 1) := by decide +kernel
theorem dX4_pour_23 : decode cX4_pour 23 = .ok (.invokevirtual 36, 3) := by decide +kernel
theorem dX4_pour_26 : decode cX4_pour 26 = .ok (.ireturn, 1) := by decide +kernel
theorem dX4_pour_27 : decode cX4_pour 27 = .ok (.iload_n 3, 1) := by decide +kernel
theorem dX4_pour_28 : decode cX4_pour 28 = .ok (.iconst 1, 1) := by decide +kernel
theorem dX4_pour_29 : decode cX4_pour 29 = .ok (.if_icmp .ge 10, 3) := by decide +kernel
theorem dX4_pour_32 : decode cX4_pour 32 = .ok (.aload_n 0, 1) := by decide +kernel
theorem dX4_pour_33 : decode cX4_pour 33 = .ok (.bipush (-4), 2) := by decide +kernel
theorem dX4_pour_35 : decode cX4_pour 35 = .ok (.invokevirtual 36, 3) := by decide +kernel
theorem dX4_pour_38 : decode cX4_pour 38 = .ok (.ireturn, 1) := by decide +kernel
theorem dX4_pour_39 : decode cX4_pour 39 = .ok (.iload_n 3, 1) := by decide +kernel
theorem dX4_pour_40 : decode cX4_pour 40 = .ok (.sipush 400, 3) := by decide +kernel
theorem dX4_pour_43 : decode cX4_pour 43 = .ok (.if_icmp .le 10, 3) := by decide +kernel
theorem dX4_pour_46 : decode cX4_pour 46 = .ok (.aload_n 0, 1) := by decide +kernel
theorem dX4_pour_47 : decode cX4_pour 47 = .ok (.bipush (-6), 2) := by decide +kernel
theorem dX4_pour_49 : decode cX4_pour 49 = .ok (.invokevirtual 36, 3) := by decide +kernel
theorem dX4_pour_52 : decode cX4_pour 52 = .ok (.ireturn, 1) := by decide +kernel
theorem dX4_pour_53 : decode cX4_pour 53 = .ok (.aload_n 0, 1) := by decide +kernel
theorem dX4_pour_54 : decode cX4_pour 54 = .ok (.iload_n 1, 1) := by decide +kernel
theorem dX4_pour_55 : decode cX4_pour 55 = .ok (.iload_n 2, 1) := by decide +kernel
theorem dX4_pour_56 : decode cX4_pour 56 = .ok (.iload_n 3, 1) := by decide +kernel
theorem dX4_pour_57 : decode cX4_pour 57 = .ok (.invokevirtual 115, 3) := by decide +kernel
theorem dX4_pour_60 : decode cX4_pour 60 = .ok (.ifCond .ne 10, 3) := by decide +kernel
theorem dX4_pour_63 : decode cX4_pour 63 = .ok (.aload_n 0, 1) := by decide +kernel
theorem dX4_pour_64 : decode cX4_pour 64 = .ok (.bipush (-3), 2) := by decide +kernel
theorem dX4_pour_66 : decode cX4_pour 66 = .ok (.invokevirtual 36, 3) := by decide +kernel
theorem dX4_pour_69 : decode cX4_pour 69 = .ok (.ireturn, 1) := by decide +kernel
theorem dX4_pour_70 : decode cX4_pour 70 = .ok (.aload_n 0, 1) := by decide +kernel
theorem dX4_pour_71 : decode cX4_pour 71 = .ok (.iload_n 1, 1) := by decide +kernel
theorem dX4_pour_72 : decode cX4_pour 72 = .ok (.iload_n 2, 1) := by decide +kernel
theorem dX4_pour_73 : decode cX4_pour 73 = .ok (.iload_n 3, 1) := by decide +kernel
theorem dX4_pour_74 : decode cX4_pour 74 = .ok (.invokevirtual 118, 3) := by decide +kernel
theorem dX4_pour_77 : decode cX4_pour 77 = .ok (.aload_n 0, 1) := by decide +kernel
theorem dX4_pour_78 : decode cX4_pour 78 = .ok (.getfield 9, 3) := by decide +kernel
theorem dX4_pour_81 : decode cX4_pour 81 = .ok (.iload_n 2, 1) := by decide +kernel
theorem dX4_pour_82 : decode cX4_pour 82 = .ok (.iconst 3, 1) := by decide +kernel
theorem dX4_pour_83 : decode cX4_pour 83 = .ok (.invokestatic 44, 3) := by decide +kernel
theorem dX4_pour_86 : decode cX4_pour 86 = .ok (.iaload, 1) := by decide +kernel
theorem dX4_pour_87 : decode cX4_pour 87 = .ok (.ireturn, 1) := by decide +kernel
theorem dX4_years_0 : decode cX4_years 0 = .ok (.iload_n 1, 1) := by decide +kernel
theorem dX4_years_1 : decode cX4_years 1 = .ok (.iconst 1, 1) := by decide +kernel
theorem dX4_years_2 : decode cX4_years 2 = .ok (.if_icmp .ge 10, 3) := by decide +kernel
theorem dX4_years_5 : decode cX4_years 5 = .ok (.aload_n 0, 1) := by decide +kernel
theorem dX4_years_6 : decode cX4_years 6 = .ok (.bipush (-4), 2) := by decide +kernel
theorem dX4_years_8 : decode cX4_years 8 = .ok (.invokevirtual 36, 3) := by decide +kernel
theorem dX4_years_11 : decode cX4_years 11 = .ok (.ireturn, 1) := by decide +kernel
theorem dX4_years_12 : decode cX4_years 12 = .ok (.iload_n 1, 1) := by decide +kernel
theorem dX4_years_13 : decode cX4_years 13 = .ok (.bipush 60, 2) := by decide +kernel
theorem dX4_years_15 : decode cX4_years 15 = .ok (.if_icmp .gt 17, 3) := by decide +kernel
theorem dX4_years_18 : decode cX4_years 18 = .ok (.aload_n 0, 1) := by decide +kernel
theorem dX4_years_19 : decode cX4_years 19 = .ok (.getfield 9, 3) := by decide +kernel
theorem dX4_years_22 : decode cX4_years 22 = .ok (.iconst 1, 1) := by decide +kernel
theorem dX4_years_23 : decode cX4_years 23 = .ok (.iaload, 1) := by decide +kernel
theorem dX4_years_24 : decode cX4_years 24 = .ok (.iload_n 1, 1) := by decide +kernel
theorem dX4_years_25 : decode cX4_years 25 = .ok (.iadd, 1) := by decide +kernel
theorem dX4_years_26 : decode cX4_years 26 = .ok (.sipush 999, 3) := by decide +kernel
theorem dX4_years_29 : decode cX4_years 29 = .ok (.if_icmp .le 10, 3) := by decide +kernel
theorem dX4_years_32 : decode cX4_years 32 = .ok (.aload_n 0, 1) := by decide +kernel
theorem dX4_years_33 : decode cX4_years 33 = .ok (.bipush (-6), 2) := by decide +kernel
theorem dX4_years_35 : decode cX4_years 35 = .ok (.invokevirtual 36, 3) := by decide +kernel
theorem dX4_years_38 : decode cX4_years 38 = .ok (.ireturn, 1) := by decide +kernel
theorem dX4_years_39 : decode cX4_years 39 = .ok (.aload_n 0, 1) := by decide +kernel
theorem dX4_years_40 : decode cX4_years 40 = .ok (.aload_n 0, 1) := by decide +kernel
theorem dX4_years_41 : decode cX4_years 41 = .ok (.getfield 9, 3) := by decide +kernel
theorem dX4_years_44 : decode cX4_years 44 = .ok (.iload_n 1, 1) := by decide +kernel
theorem dX4_years_45 : decode cX4_years 45 = .ok (.invokevirtual 82, 3) := by decide +kernel
theorem dX4_years_48 : decode cX4_years 48 = .ok (.aload_n 0, 1) := by decide +kernel
theorem dX4_years_49 : decode cX4_years 49 = .ok (.getfield 9, 3) := by decide +kernel
theorem dX4_years_52 : decode cX4_years 52 = .ok (.iconst 1, 1) := by decide +kernel
theorem dX4_years_53 : decode cX4_years 53 = .ok (.iaload, 1) := by decide +kernel
theorem dX4_years_54 : decode cX4_years 54 = .ok (.ireturn, 1) := by decide +kernel
theorem dX4_wrongYears_0 : decode cX4_wrongYears 0 = .ok (.iload_n 0, 1) := by decide +kernel
theorem dX4_wrongYears_1 : decode cX4_wrongYears 1 = .ok (.ifCond .ge 8, 3) := by decide +kernel
theorem dX4_wrongYears_4 : decode cX4_wrongYears 4 = .ok (.bipush (-4), 2) := by decide +kernel
theorem dX4_wrongYears_6 : decode cX4_wrongYears 6 = .ok (.goto 16, 3) := by decide +kernel
theorem dX4_wrongYears_9 : decode cX4_wrongYears 9 = .ok (.iload_n 0, 1) := by decide +kernel
theorem dX4_wrongYears_10 : decode cX4_wrongYears 10 = .ok (.sipush 200, 3) := by decide +kernel
theorem dX4_wrongYears_13 : decode cX4_wrongYears 13 = .ok (.if_icmp .le 8, 3) := by decide +kernel
theorem dX4_wrongYears_16 : decode cX4_wrongYears 16 = .ok (.bipush (-6), 2) := by decide +kernel
theorem dX4_wrongYears_18 : decode cX4_wrongYears 18 = .ok (.goto 4, 3) := by decide +kernel
theorem dX4_wrongYears_21 : decode cX4_wrongYears 21 = .ok (.iconst 0, 1) := by decide +kernel
theorem dX4_wrongYears_22 : decode cX4_wrongYears 22 = .ok (.ireturn, 1) := by decide +kernel
theorem dX4_behind_0 : decode cX4_behind 0 = .ok (.aload_n 0, 1) := by decide +kernel
theorem dX4_behind_1 : decode cX4_behind 1 = .ok (.iload_n 1, 1) := by decide +kernel
theorem dX4_behind_2 : decode cX4_behind 2 = .ok (.invokevirtual 111, 3) := by decide +kernel
theorem dX4_behind_5 : decode cX4_behind 5 = .ok (.ifCond .ne 7, 3) := by decide +kernel
theorem dX4_behind_8 : decode cX4_behind 8 = .ok (.iconst (-1), 1) := by decide +kernel
theorem dX4_behind_9 : decode cX4_behind 9 = .ok (.goto 7, 3) := by decide +kernel
theorem dX4_behind_12 : decode cX4_behind 12 = .ok (.iload_n 2, 1) := by decide +kernel
theorem dX4_behind_13 : decode cX4_behind 13 = .ok (.invokestatic 128, 3) := by decide +kernel
theorem dX4_behind_16 : decode cX4_behind 16 = .ok (.istore 4, 2) := by decide +kernel
theorem dX4_behind_18 : decode cX4_behind 18 = .ok (.iload 4, 2) := by decide +kernel
theorem dX4_behind_20 : decode cX4_behind 20 = .ok (.ifCond .ne 16, 3) := by decide +kernel
theorem dX4_behind_23 : decode cX4_behind 23 = .ok (.iload_n 3, 1) := by decide +kernel
theorem dX4_behind_24 : decode cX4_behind 24 = .ok (.iconst 0, 1) := by decide +kernel
theorem dX4_behind_25 : decode cX4_behind 25 = .ok (.iconst 2, 1) := by decide +kernel
theorem dX4_behind_26 : decode cX4_behind 26 = .ok (.invokestatic 40, 3) := by decide +kernel
theorem dX4_behind_29 : decode cX4_behind 29 = .ok (.ifCond .ne 7, 3) := by decide +kernel
theorem dX4_behind_32 : decode cX4_behind 32 = .ok (.bipush (-2), 2) := by decide +kernel
theorem dX4_behind_34 : decode cX4_behind 34 = .ok (.istore 4, 2) := by decide +kernel
theorem dX4_behind_36 : decode cX4_behind 36 = .ok (.iload 4, 2) := by decide +kernel
theorem dX4_behind_38 : decode cX4_behind 38 = .ok (.ifCond .eq 10, 3) := by decide +kernel
theorem dX4_behind_41 : decode cX4_behind 41 = .ok (.aload_n 0, 1) := by decide +kernel
theorem dX4_behind_42 : decode cX4_behind 42 = .ok (.iload 4, 2) := by decide +kernel
theorem dX4_behind_44 : decode cX4_behind 44 = .ok (.invokevirtual 36, 3) := by decide +kernel
theorem dX4_behind_47 : decode cX4_behind 47 = .ok (.ireturn, 1) := by decide +kernel
theorem dX4_behind_48 : decode cX4_behind 48 = .ok (.aload_n 0, 1) := by decide +kernel
theorem dX4_behind_49 : decode cX4_behind 49 = .ok (.iload_n 2, 1) := by decide +kernel
theorem dX4_behind_50 : decode cX4_behind 50 = .ok (.invokevirtual 131, 3) := by decide +kernel
theorem dX4_behind_53 : decode cX4_behind 53 = .ok (.aload_n 0, 1) := by decide +kernel
theorem dX4_behind_54 : decode cX4_behind 54 = .ok (.getfield 13, 3) := by decide +kernel
theorem dX4_behind_57 : decode cX4_behind 57 = .ok (.iload_n 1, 1) := by decide +kernel
theorem dX4_behind_58 : decode cX4_behind 58 = .ok (.iload_n 3, 1) := by decide +kernel
theorem dX4_behind_59 : decode cX4_behind 59 = .ok (.ifCond .ne 7, 3) := by decide +kernel
theorem dX4_behind_62 : decode cX4_behind 62 = .ok (.iconst 2, 1) := by decide +kernel
theorem dX4_behind_63 : decode cX4_behind 63 = .ok (.goto 13, 3) := by decide +kernel
theorem dX4_behind_66 : decode cX4_behind 66 = .ok (.iload_n 3, 1) := by decide +kernel
theorem dX4_behind_67 : decode cX4_behind 67 = .ok (.iconst 1, 1) := by decide +kernel
theorem dX4_behind_68 : decode cX4_behind 68 = .ok (.if_icmp .ne 7, 3) := by decide +kernel
theorem dX4_behind_71 : decode cX4_behind 71 = .ok (.iconst 3, 1) := by decide +kernel
theorem dX4_behind_72 : decode cX4_behind 72 = .ok (.goto 4, 3) := by decide +kernel
theorem dX4_behind_75 : decode cX4_behind 75 = .ok (.iconst 5, 1) := by decide +kernel
theorem dX4_behind_76 : decode cX4_behind 76 = .ok (.invokestatic 44, 3) := by decide +kernel
theorem dX4_behind_79 : decode cX4_behind 79 = .ok (.iaload, 1) := by decide +kernel
theorem dX4_behind_80 : decode cX4_behind 80 = .ok (.ireturn, 1) := by decide +kernel
theorem dX4_allBehind_0 : decode cX4_allBehind 0 = .ok (.iload_n 1, 1) := by decide +kernel
theorem dX4_allBehind_1 : decode cX4_allBehind 1 = .ok (.invokestatic 128, 3) := by decide +kernel
theorem dX4_allBehind_4 : decode cX4_allBehind 4 = .ok (.istore_n 3, 1) := by decide +kernel
theorem dX4_allBehind_5 : decode cX4_allBehind 5 = .ok (.iload_n 3, 1) := by decide +kernel
theorem dX4_allBehind_6 : decode cX4_allBehind 6 = .ok (.ifCond .ne 15, 3) := by decide +kernel
theorem dX4_allBehind_9 : decode cX4_allBehind 9 = .ok (.iload_n 2, 1) := by decide +kernel
theorem dX4_allBehind_10 : decode cX4_allBehind 10 = .ok (.iconst 0, 1) := by decide +kernel
theorem dX4_allBehind_11 : decode cX4_allBehind 11 = .ok (.iconst 2, 1) := by decide +kernel
theorem dX4_allBehind_12 : decode cX4_allBehind 12 = .ok (.invokestatic 40, 3) := by decide +kernel
theorem dX4_allBehind_15 : decode cX4_allBehind 15 = .ok (.ifCond .ne 6, 3) := by decide +kernel
theorem dX4_allBehind_18 : decode cX4_allBehind 18 = .ok (.bipush (-2), 2) := by decide +kernel
theorem dX4_allBehind_20 : decode cX4_allBehind 20 = .ok (.istore_n 3, 1) := by decide +kernel
theorem dX4_allBehind_21 : decode cX4_allBehind 21 = .ok (.iload_n 3, 1) := by decide +kernel
theorem dX4_allBehind_22 : decode cX4_allBehind 22 = .ok (.ifCond .eq 9, 3) := by decide +kernel
theorem dX4_allBehind_25 : decode cX4_allBehind 25 = .ok (.aload_n 0, 1) := by decide +kernel
theorem dX4_allBehind_26 : decode cX4_allBehind 26 = .ok (.iload_n 3, 1) := by decide +kernel
theorem dX4_allBehind_27 : decode cX4_allBehind 27 = .ok (.invokevirtual 36, 3) := by decide +kernel
theorem dX4_allBehind_30 : decode cX4_allBehind 30 = .ok (.ireturn, 1) := by decide +kernel
theorem dX4_allBehind_31 : decode cX4_allBehind 31 = .ok (.aload_n 0, 1) := by decide +kernel
theorem dX4_allBehind_32 : decode cX4_allBehind 32 = .ok (.iload_n 1, 1) := by decide +kernel
theorem dX4_allBehind_33 : decode cX4_allBehind 33 = .ok (.invokevirtual 131, 3) := by decide +kernel
theorem dX4_allBehind_36 : decode cX4_allBehind 36 = .ok (.iload_n 2, 1) := by decide +kernel
theorem dX4_allBehind_37 : decode cX4_allBehind 37 = .ok (.iconst 2, 1) := by decide +kernel
theorem dX4_allBehind_38 : decode cX4_allBehind 38 = .ok (.if_icmp .ge 20, 3) := by decide +kernel
theorem dX4_allBehind_41 : decode cX4_allBehind 41 = .ok (.aload_n 0, 1) := by decide +kernel
theorem dX4_allBehind_42 : decode cX4_allBehind 42 = .ok (.getfield 13, 3) := by decide +kernel
theorem dX4_allBehind_45 : decode cX4_allBehind 45 = .ok (.iload_n 2, 1) := by decide +kernel
theorem dX4_allBehind_46 : decode cX4_allBehind 46 = .ok (.ifCond .ne 7, 3) := by decide +kernel
theorem dX4_allBehind_49 : decode cX4_allBehind 49 = .ok (.iconst 2, 1) := by decide +kernel
theorem dX4_allBehind_50 : decode cX4_allBehind 50 = .ok (.goto 4, 3) := by decide +kernel
theorem dX4_allBehind_53 : decode cX4_allBehind 53 = .ok (.iconst 5, 1) := by decide +kernel
theorem dX4_allBehind_54 : decode cX4_allBehind 54 = .ok (.invokestatic 135, 3) := by decide +kernel
theorem dX4_allBehind_57 : decode cX4_allBehind 57 = .ok (.ireturn, 1) := by decide +kernel
theorem dX4_allBehind_58 : decode cX4_allBehind 58 = .ok (.bipush (-9), 2) := by decide +kernel
theorem dX4_allBehind_60 : decode cX4_allBehind 60 = .ok (.istore 4, 2) := by decide +kernel
theorem dX4_allBehind_62 : decode cX4_allBehind 62 = .ok (.iconst 0, 1) := by decide +kernel
theorem dX4_allBehind_63 : decode cX4_allBehind 63 = .ok (.istore 5, 2) := by decide +kernel
theorem dX4_allBehind_65 : decode cX4_allBehind 65 = .ok (.iload 5, 2) := by decide +kernel
theorem dX4_allBehind_67 : decode cX4_allBehind 67 = .ok (.aload_n 0, 1) := by decide +kernel
theorem dX4_allBehind_68 : decode cX4_allBehind 68 = .ok (.getfield 13, 3) := by decide +kernel
theorem dX4_allBehind_71 : decode cX4_allBehind 71 = .ok (.iconst 0, 1) := by decide +kernel
theorem dX4_allBehind_72 : decode cX4_allBehind 72 = .ok (.iaload, 1) := by decide +kernel
theorem dX4_allBehind_73 : decode cX4_allBehind 73 = .ok (.if_icmp .ge 43, 3) := by decide +kernel
theorem dX4_allBehind_76 : decode cX4_allBehind 76 = .ok (.iload 4, 2) := by decide +kernel
theorem dX4_allBehind_78 : decode cX4_allBehind 78 = .ok (.ifCond .lt 28, 3) := by decide +kernel
theorem dX4_allBehind_81 : decode cX4_allBehind 81 = .ok (.aload_n 0, 1) := by decide +kernel
theorem dX4_allBehind_82 : decode cX4_allBehind 82 = .ok (.getfield 13, 3) := by decide +kernel
theorem dX4_allBehind_85 : decode cX4_allBehind 85 = .ok (.iload 5, 2) := by decide +kernel
theorem dX4_allBehind_87 : decode cX4_allBehind 87 = .ok (.iconst 2, 1) := by decide +kernel
theorem dX4_allBehind_88 : decode cX4_allBehind 88 = .ok (.invokestatic 44, 3) := by decide +kernel
theorem dX4_allBehind_91 : decode cX4_allBehind 91 = .ok (.iaload, 1) := by decide +kernel
theorem dX4_allBehind_92 : decode cX4_allBehind 92 = .ok (.aload_n 0, 1) := by decide +kernel
theorem dX4_allBehind_93 : decode cX4_allBehind 93 = .ok (.getfield 13, 3) := by decide +kernel
theorem dX4_allBehind_96 : decode cX4_allBehind 96 = .ok (.iload 4, 2) := by decide +kernel
theorem dX4_allBehind_98 : decode cX4_allBehind 98 = .ok (.iconst 2, 1) := by decide +kernel
theorem dX4_allBehind_99 : decode cX4_allBehind 99 = .ok (.invokestatic 44, 3) := by decide +kernel
theorem dX4_allBehind_102 : decode cX4_allBehind 102 = .ok (.iaload, 1) := by decide +kernel
theorem dX4_allBehind_103 : decode cX4_allBehind 103 = .ok (.if_icmp .le 7, 3) := by decide +kernel
theorem dX4_allBehind_106 : decode cX4_allBehind 106 = .ok (.iload 5, 2) := by decide +kernel
theorem dX4_allBehind_108 : decode cX4_allBehind 108 = .ok (.istore 4, 2) := by decide +kernel
theorem dX4_allBehind_110 : decode cX4_allBehind 110 = .ok (.iinc 5 1, 3) := by decide +kernel
theorem dX4_allBehind_113 : decode cX4_allBehind 113 = .ok (.goto (-48), 3) := by decide +kernel
theorem dX4_allBehind_116 : decode cX4_allBehind 116 = .ok (.iload 4, 2) := by decide +kernel
theorem dX4_allBehind_118 : decode cX4_allBehind 118 = .ok (.ireturn, 1) := by decide +kernel
theorem dX4_gcd_0 : decode cX4_gcd 0 = .ok (.lload_n 0, 1) := by decide +kernel
theorem dX4_gcd_1 : decode cX4_gcd 1 = .ok (.lstore 4, 2) := by decide +kernel
theorem dX4_gcd_3 : decode cX4_gcd 3 = .ok (.lload_n 2, 1) := by decide +kernel
theorem dX4_gcd_4 : decode cX4_gcd 4 = .ok (.lstore 6, 2) := by decide +kernel
theorem dX4_gcd_6 : decode cX4_gcd 6 = .ok (.lload 6, 2) := by decide +kernel
theorem dX4_gcd_8 : decode cX4_gcd 8 = .ok (.lconst 0, 1) := by decide +kernel
theorem dX4_gcd_9 : decode cX4_gcd 9 = .ok (.lcmp, 1) := by decide +kernel
theorem dX4_gcd_10 : decode cX4_gcd 10 = .ok (.ifCond .eq 21, 3) := by decide +kernel
theorem dX4_gcd_13 : decode cX4_gcd 13 = .ok (.lload 4, 2) := by decide +kernel
theorem dX4_gcd_15 : decode cX4_gcd 15 = .ok (.lload 6, 2) := by decide +kernel
theorem dX4_gcd_17 : decode cX4_gcd 17 = .ok (.lrem, 1) := by decide +kernel
theorem dX4_gcd_18 : decode cX4_gcd 18 = .ok (.lstore 8, 2) := by decide +kernel
theorem dX4_gcd_20 : decode cX4_gcd 20 = .ok (.lload 6, 2) := by decide +kernel
theorem dX4_gcd_22 : decode cX4_gcd 22 = .ok (.lstore 4, 2) := by decide +kernel
theorem dX4_gcd_24 : decode cX4_gcd 24 = .ok (.lload 8, 2) := by decide +kernel
theorem dX4_gcd_26 : decode cX4_gcd 26 = .ok (.lstore 6, 2) := by decide +kernel
theorem dX4_gcd_28 : decode cX4_gcd 28 = .ok (.goto (-22), 3) := by decide +kernel
theorem dX4_gcd_31 : decode cX4_gcd 31 = .ok (.lload 4, 2) := by decide +kernel
theorem dX4_gcd_33 : decode cX4_gcd 33 = .ok (.lreturn, 1) := by decide +kernel
theorem dX4_partOf_0 : decode cX4_partOf 0 = .ok (.lload_n 0, 1) := by decide +kernel
theorem dX4_partOf_1 : decode cX4_partOf 1 = .ok (.lconst 0, 1) := by decide +kernel
theorem dX4_partOf_2 : decode cX4_partOf 2 = .ok (.lcmp, 1) := by decide +kernel
theorem dX4_partOf_3 : decode cX4_partOf 3 = .ok (.ifCond .ne 7, 3) := by decide +kernel
theorem dX4_partOf_6 : decode cX4_partOf 6 = .ok (.iload 4, 2) := by decide +kernel
theorem dX4_partOf_8 : decode cX4_partOf 8 = .ok (.i2l, 1) := by decide +kernel
theorem dX4_partOf_9 : decode cX4_partOf 9 = .ok (.lreturn, 1) := by decide +kernel
theorem dX4_partOf_10 : decode cX4_partOf 10 = .ok (.iload 4, 2) := by decide +kernel
theorem dX4_partOf_12 : decode cX4_partOf 12 = .ok (.ifCond .ne 7, 3) := by decide +kernel
theorem dX4_partOf_15 : decode cX4_partOf 15 = .ok (.lload_n 0, 1) := by decide +kernel
theorem dX4_partOf_16 : decode cX4_partOf 16 = .ok (.goto 4, 3) := by decide +kernel
theorem dX4_partOf_19 : decode cX4_partOf 19 = .ok (.lload_n 2, 1) := by decide +kernel
theorem dX4_partOf_20 : decode cX4_partOf 20 = .ok (.lload_n 0, 1) := by decide +kernel
theorem dX4_partOf_21 : decode cX4_partOf 21 = .ok (.lload_n 2, 1) := by decide +kernel
theorem dX4_partOf_22 : decode cX4_partOf 22 = .ok (.invokestatic 138, 3) := by decide +kernel
theorem dX4_partOf_25 : decode cX4_partOf 25 = .ok (.ldiv, 1) := by decide +kernel
theorem dX4_partOf_26 : decode cX4_partOf 26 = .ok (.lreturn, 1) := by decide +kernel
theorem dX4_theirs_0 : decode cX4_theirs 0 = .ok (.iload_n 1, 1) := by decide +kernel
theorem dX4_theirs_1 : decode cX4_theirs 1 = .ok (.iconst (-1), 1) := by decide +kernel
theorem dX4_theirs_2 : decode cX4_theirs 2 = .ok (.if_icmp .eq 15, 3) := by decide +kernel
theorem dX4_theirs_5 : decode cX4_theirs 5 = .ok (.aload_n 0, 1) := by decide +kernel
theorem dX4_theirs_6 : decode cX4_theirs 6 = .ok (.iload_n 1, 1) := by decide +kernel
theorem dX4_theirs_7 : decode cX4_theirs 7 = .ok (.invokevirtual 111, 3) := by decide +kernel
theorem dX4_theirs_10 : decode cX4_theirs 10 = .ok (.ifCond .ne 7, 3) := by decide +kernel
theorem dX4_theirs_13 : decode cX4_theirs 13 = .ok (.iconst (-1), 1) := by decide +kernel
theorem dX4_theirs_14 : decode cX4_theirs 14 = .ok (.goto 7, 3) := by decide +kernel
theorem dX4_theirs_17 : decode cX4_theirs 17 = .ok (.iload_n 2, 1) := by decide +kernel
theorem dX4_theirs_18 : decode cX4_theirs 18 = .ok (.invokestatic 128, 3) := by decide +kernel
theorem dX4_theirs_21 : decode cX4_theirs 21 = .ok (.istore 4, 2) := by decide +kernel
theorem dX4_theirs_23 : decode cX4_theirs 23 = .ok (.iload 4, 2) := by decide +kernel
theorem dX4_theirs_25 : decode cX4_theirs 25 = .ok (.ifCond .ne 16, 3) := by decide +kernel
theorem dX4_theirs_28 : decode cX4_theirs 28 = .ok (.iload_n 3, 1) := by decide +kernel
theorem dX4_theirs_29 : decode cX4_theirs 29 = .ok (.iconst 0, 1) := by decide +kernel
theorem dX4_theirs_30 : decode cX4_theirs 30 = .ok (.iconst 1, 1) := by decide +kernel
theorem dX4_theirs_31 : decode cX4_theirs 31 = .ok (.invokestatic 40, 3) := by decide +kernel
theorem dX4_theirs_34 : decode cX4_theirs 34 = .ok (.ifCond .ne 7, 3) := by decide +kernel
theorem dX4_theirs_37 : decode cX4_theirs 37 = .ok (.bipush (-2), 2) := by decide +kernel
theorem dX4_theirs_39 : decode cX4_theirs 39 = .ok (.istore 4, 2) := by decide +kernel
theorem dX4_theirs_41 : decode cX4_theirs 41 = .ok (.iload 4, 2) := by decide +kernel
theorem dX4_theirs_43 : decode cX4_theirs 43 = .ok (.ifCond .eq 10, 3) := by decide +kernel
theorem dX4_theirs_46 : decode cX4_theirs 46 = .ok (.aload_n 0, 1) := by decide +kernel
theorem dX4_theirs_47 : decode cX4_theirs 47 = .ok (.iload 4, 2) := by decide +kernel
theorem dX4_theirs_49 : decode cX4_theirs 49 = .ok (.invokevirtual 142, 3) := by decide +kernel
theorem dX4_theirs_52 : decode cX4_theirs 52 = .ok (.lreturn, 1) := by decide +kernel
theorem dX4_theirs_53 : decode cX4_theirs 53 = .ok (.aload_n 0, 1) := by decide +kernel
theorem dX4_theirs_54 : decode cX4_theirs 54 = .ok (.iload_n 2, 1) := by decide +kernel
theorem dX4_theirs_55 : decode cX4_theirs 55 = .ok (.invokevirtual 131, 3) := by decide +kernel
theorem dX4_theirs_58 : decode cX4_theirs 58 = .ok (.iload_n 1, 1) := by decide +kernel
theorem dX4_theirs_59 : decode cX4_theirs 59 = .ok (.ifCond .ge 14, 3) := by decide +kernel
theorem dX4_theirs_62 : decode cX4_theirs 62 = .ok (.aload_n 0, 1) := by decide +kernel
theorem dX4_theirs_63 : decode cX4_theirs 63 = .ok (.getfield 13, 3) := by decide +kernel
theorem dX4_theirs_66 : decode cX4_theirs 66 = .ok (.iconst 5, 1) := by decide +kernel
theorem dX4_theirs_67 : decode cX4_theirs 67 = .ok (.invokestatic 135, 3) := by decide +kernel
theorem dX4_theirs_70 : decode cX4_theirs 70 = .ok (.goto 13, 3) := by decide +kernel
theorem dX4_theirs_73 : decode cX4_theirs 73 = .ok (.aload_n 0, 1) := by decide +kernel
theorem dX4_theirs_74 : decode cX4_theirs 74 = .ok (.getfield 13, 3) := by decide +kernel
theorem dX4_theirs_77 : decode cX4_theirs 77 = .ok (.iload_n 1, 1) := by decide +kernel
theorem dX4_theirs_78 : decode cX4_theirs 78 = .ok (.iconst 5, 1) := by decide +kernel
theorem dX4_theirs_79 : decode cX4_theirs 79 = .ok (.invokestatic 44, 3) := by decide +kernel
theorem dX4_theirs_82 : decode cX4_theirs 82 = .ok (.iaload, 1) := by decide +kernel
theorem dX4_theirs_83 : decode cX4_theirs 83 = .ok (.istore 5, 2) := by decide +kernel
theorem dX4_theirs_85 : decode cX4_theirs 85 = .ok (.iload_n 1, 1) := by decide +kernel
theorem dX4_theirs_86 : decode cX4_theirs 86 = .ok (.ifCond .ge 14, 3) := by decide +kernel
theorem dX4_theirs_89 : decode cX4_theirs 89 = .ok (.aload_n 0, 1) := by decide +kernel
theorem dX4_theirs_90 : decode cX4_theirs 90 = .ok (.getfield 13, 3) := by decide +kernel
theorem dX4_theirs_93 : decode cX4_theirs 93 = .ok (.iconst 2, 1) := by decide +kernel
theorem dX4_theirs_94 : decode cX4_theirs 94 = .ok (.invokestatic 135, 3) := by decide +kernel
theorem dX4_theirs_97 : decode cX4_theirs 97 = .ok (.goto 13, 3) := by decide +kernel
theorem dX4_theirs_100 : decode cX4_theirs 100 = .ok (.aload_n 0, 1) := by decide +kernel
theorem dX4_theirs_101 : decode cX4_theirs 101 = .ok (.getfield 13, 3) := by decide +kernel
theorem dX4_theirs_104 : decode cX4_theirs 104 = .ok (.iload_n 1, 1) := by decide +kernel
theorem dX4_theirs_105 : decode cX4_theirs 105 = .ok (.iconst 2, 1) := by decide +kernel
theorem dX4_theirs_106 : decode cX4_theirs 106 = .ok (.invokestatic 44, 3) := by decide +kernel
theorem dX4_theirs_109 : decode cX4_theirs 109 = .ok (.iaload, 1) := by decide +kernel
theorem dX4_theirs_110 : decode cX4_theirs 110 = .ok (.istore 6, 2) := by decide +kernel
theorem dX4_theirs_112 : decode cX4_theirs 112 = .ok (.iload 5, 2) := by decide +kernel
theorem dX4_theirs_114 : decode cX4_theirs 114 = .ok (.i2l, 1) := by decide +kernel
theorem dX4_theirs_115 : decode cX4_theirs 115 = .ok (.iload 5, 2) := by decide +kernel
theorem dX4_theirs_117 : decode cX4_theirs 117 = .ok (.iload 6, 2) := by decide +kernel
theorem dX4_theirs_119 : decode cX4_theirs 119 = .ok (.iadd, 1) := by decide +kernel
theorem dX4_theirs_120 : decode cX4_theirs 120 = .ok (.i2l, 1) := by decide +kernel
theorem dX4_theirs_121 : decode cX4_theirs 121 = .ok (.iload_n 3, 1) := by decide +kernel
theorem dX4_theirs_122 : decode cX4_theirs 122 = .ok (.invokestatic 146, 3) := by decide +kernel
theorem dX4_theirs_125 : decode cX4_theirs 125 = .ok (.lreturn, 1) := by decide +kernel
theorem dX4_exciseOf_0 : decode cX4_exciseOf 0 = .ok (.aload_n 0, 1) := by decide +kernel
theorem dX4_exciseOf_1 : decode cX4_exciseOf 1 = .ok (.iload_n 1, 1) := by decide +kernel
theorem dX4_exciseOf_2 : decode cX4_exciseOf 2 = .ok (.iconst 2, 1) := by decide +kernel
theorem dX4_exciseOf_3 : decode cX4_exciseOf 3 = .ok (.invokestatic 44, 3) := by decide +kernel
theorem dX4_exciseOf_6 : decode cX4_exciseOf 6 = .ok (.iaload, 1) := by decide +kernel
theorem dX4_exciseOf_7 : decode cX4_exciseOf 7 = .ok (.aload_n 0, 1) := by decide +kernel
theorem dX4_exciseOf_8 : decode cX4_exciseOf 8 = .ok (.iload_n 1, 1) := by decide +kernel
theorem dX4_exciseOf_9 : decode cX4_exciseOf 9 = .ok (.iconst 5, 1) := by decide +kernel
theorem dX4_exciseOf_10 : decode cX4_exciseOf 10 = .ok (.invokestatic 44, 3) := by decide +kernel
theorem dX4_exciseOf_13 : decode cX4_exciseOf 13 = .ok (.iaload, 1) := by decide +kernel
theorem dX4_exciseOf_14 : decode cX4_exciseOf 14 = .ok (.iadd, 1) := by decide +kernel
theorem dX4_exciseOf_15 : decode cX4_exciseOf 15 = .ok (.bipush 10, 2) := by decide +kernel
theorem dX4_exciseOf_17 : decode cX4_exciseOf 17 = .ok (.idiv, 1) := by decide +kernel
theorem dX4_exciseOf_18 : decode cX4_exciseOf 18 = .ok (.aload_n 0, 1) := by decide +kernel
theorem dX4_exciseOf_19 : decode cX4_exciseOf 19 = .ok (.iconst 4, 1) := by decide +kernel
theorem dX4_exciseOf_20 : decode cX4_exciseOf 20 = .ok (.iaload, 1) := by decide +kernel
theorem dX4_exciseOf_21 : decode cX4_exciseOf 21 = .ok (.imul, 1) := by decide +kernel
theorem dX4_exciseOf_22 : decode cX4_exciseOf 22 = .ok (.ireturn, 1) := by decide +kernel
theorem dX4_exciseAll_0 : decode cX4_exciseAll 0 = .ok (.iconst 0, 1) := by decide +kernel
theorem dX4_exciseAll_1 : decode cX4_exciseAll 1 = .ok (.istore_n 1, 1) := by decide +kernel
theorem dX4_exciseAll_2 : decode cX4_exciseAll 2 = .ok (.iconst 0, 1) := by decide +kernel
theorem dX4_exciseAll_3 : decode cX4_exciseAll 3 = .ok (.istore_n 2, 1) := by decide +kernel
theorem dX4_exciseAll_4 : decode cX4_exciseAll 4 = .ok (.iload_n 2, 1) := by decide +kernel
theorem dX4_exciseAll_5 : decode cX4_exciseAll 5 = .ok (.aload_n 0, 1) := by decide +kernel
theorem dX4_exciseAll_6 : decode cX4_exciseAll 6 = .ok (.iconst 0, 1) := by decide +kernel
theorem dX4_exciseAll_7 : decode cX4_exciseAll 7 = .ok (.iaload, 1) := by decide +kernel
theorem dX4_exciseAll_8 : decode cX4_exciseAll 8 = .ok (.if_icmp .ge 17, 3) := by decide +kernel
theorem dX4_exciseAll_11 : decode cX4_exciseAll 11 = .ok (.iload_n 1, 1) := by decide +kernel
theorem dX4_exciseAll_12 : decode cX4_exciseAll 12 = .ok (.aload_n 0, 1) := by decide +kernel
theorem dX4_exciseAll_13 : decode cX4_exciseAll 13 = .ok (.iload_n 2, 1) := by decide +kernel
theorem dX4_exciseAll_14 : decode cX4_exciseAll 14 = .ok (.invokestatic 150, 3) := by decide +kernel
theorem dX4_exciseAll_17 : decode cX4_exciseAll 17 = .ok (.iadd, 1) := by decide +kernel
theorem dX4_exciseAll_18 : decode cX4_exciseAll 18 = .ok (.istore_n 1, 1) := by decide +kernel
theorem dX4_exciseAll_19 : decode cX4_exciseAll 19 = .ok (.iinc 2 1, 3) := by decide +kernel
theorem dX4_exciseAll_22 : decode cX4_exciseAll 22 = .ok (.goto (-18), 3) := by decide +kernel
theorem dX4_exciseAll_25 : decode cX4_exciseAll 25 = .ok (.iload_n 1, 1) := by decide +kernel
theorem dX4_exciseAll_26 : decode cX4_exciseAll 26 = .ok (.ireturn, 1) := by decide +kernel
theorem dX4_excise_0 : decode cX4_excise 0 = .ok (.iload_n 1, 1) := by decide +kernel
theorem dX4_excise_1 : decode cX4_excise 1 = .ok (.iconst (-1), 1) := by decide +kernel
theorem dX4_excise_2 : decode cX4_excise 2 = .ok (.if_icmp .ne 11, 3) := by decide +kernel
theorem dX4_excise_5 : decode cX4_excise 5 = .ok (.aload_n 0, 1) := by decide +kernel
theorem dX4_excise_6 : decode cX4_excise 6 = .ok (.getfield 9, 3) := by decide +kernel
theorem dX4_excise_9 : decode cX4_excise 9 = .ok (.invokestatic 153, 3) := by decide +kernel
theorem dX4_excise_12 : decode cX4_excise 12 = .ok (.ireturn, 1) := by decide +kernel
theorem dX4_excise_13 : decode cX4_excise 13 = .ok (.aload_n 0, 1) := by decide +kernel
theorem dX4_excise_14 : decode cX4_excise 14 = .ok (.iload_n 1, 1) := by decide +kernel
theorem dX4_excise_15 : decode cX4_excise 15 = .ok (.invokevirtual 111, 3) := by decide +kernel
theorem dX4_excise_18 : decode cX4_excise 18 = .ok (.ifCond .eq 14, 3) := by decide +kernel
theorem dX4_excise_21 : decode cX4_excise 21 = .ok (.aload_n 0, 1) := by decide +kernel
theorem dX4_excise_22 : decode cX4_excise 22 = .ok (.getfield 9, 3) := by decide +kernel
theorem dX4_excise_25 : decode cX4_excise 25 = .ok (.iload_n 1, 1) := by decide +kernel
theorem dX4_excise_26 : decode cX4_excise 26 = .ok (.invokestatic 150, 3) := by decide +kernel
theorem dX4_excise_29 : decode cX4_excise 29 = .ok (.goto 8, 3) := by decide +kernel
theorem dX4_excise_32 : decode cX4_excise 32 = .ok (.aload_n 0, 1) := by decide +kernel
theorem dX4_excise_33 : decode cX4_excise 33 = .ok (.iconst (-1), 1) := by decide +kernel
theorem dX4_excise_34 : decode cX4_excise 34 = .ok (.invokevirtual 36, 3) := by decide +kernel
theorem dX4_excise_37 : decode cX4_excise 37 = .ok (.ireturn, 1) := by decide +kernel
theorem dX4_exciseIn_0 : decode cX4_exciseIn 0 = .ok (.iload_n 1, 1) := by decide +kernel
theorem dX4_exciseIn_1 : decode cX4_exciseIn 1 = .ok (.invokestatic 128, 3) := by decide +kernel
theorem dX4_exciseIn_4 : decode cX4_exciseIn 4 = .ok (.istore_n 2, 1) := by decide +kernel
theorem dX4_exciseIn_5 : decode cX4_exciseIn 5 = .ok (.iload_n 2, 1) := by decide +kernel
theorem dX4_exciseIn_6 : decode cX4_exciseIn 6 = .ok (.ifCond .eq 9, 3) := by decide +kernel
theorem dX4_exciseIn_9 : decode cX4_exciseIn 9 = .ok (.aload_n 0, 1) := by decide +kernel
theorem dX4_exciseIn_10 : decode cX4_exciseIn 10 = .ok (.iload_n 2, 1) := by decide +kernel
theorem dX4_exciseIn_11 : decode cX4_exciseIn 11 = .ok (.invokevirtual 36, 3) := by decide +kernel
theorem dX4_exciseIn_14 : decode cX4_exciseIn 14 = .ok (.ireturn, 1) := by decide +kernel
theorem dX4_exciseIn_15 : decode cX4_exciseIn 15 = .ok (.aload_n 0, 1) := by decide +kernel
theorem dX4_exciseIn_16 : decode cX4_exciseIn 16 = .ok (.getfield 9, 3) := by decide +kernel
theorem dX4_exciseIn_19 : decode cX4_exciseIn 19 = .ok (.aload_n 0, 1) := by decide +kernel
theorem dX4_exciseIn_20 : decode cX4_exciseIn 20 = .ok (.getfield 13, 3) := by decide +kernel
theorem dX4_exciseIn_23 : decode cX4_exciseIn 23 = .ok (.invokestatic 78, 3) := by decide +kernel
theorem dX4_exciseIn_26 : decode cX4_exciseIn 26 = .ok (.iconst 0, 1) := by decide +kernel
theorem dX4_exciseIn_27 : decode cX4_exciseIn 27 = .ok (.istore_n 3, 1) := by decide +kernel
theorem dX4_exciseIn_28 : decode cX4_exciseIn 28 = .ok (.iconst 0, 1) := by decide +kernel
theorem dX4_exciseIn_29 : decode cX4_exciseIn 29 = .ok (.istore 4, 2) := by decide +kernel
theorem dX4_exciseIn_31 : decode cX4_exciseIn 31 = .ok (.iload 4, 2) := by decide +kernel
theorem dX4_exciseIn_33 : decode cX4_exciseIn 33 = .ok (.iload_n 1, 1) := by decide +kernel
theorem dX4_exciseIn_34 : decode cX4_exciseIn 34 = .ok (.if_icmp .ge 27, 3) := by decide +kernel
theorem dX4_exciseIn_37 : decode cX4_exciseIn 37 = .ok (.aload_n 0, 1) := by decide +kernel
theorem dX4_exciseIn_38 : decode cX4_exciseIn 38 = .ok (.aload_n 0, 1) := by decide +kernel
theorem dX4_exciseIn_39 : decode cX4_exciseIn 39 = .ok (.getfield 13, 3) := by decide +kernel
theorem dX4_exciseIn_42 : decode cX4_exciseIn 42 = .ok (.invokevirtual 74, 3) := by decide +kernel
theorem dX4_exciseIn_45 : decode cX4_exciseIn 45 = .ok (.iload_n 3, 1) := by decide +kernel
theorem dX4_exciseIn_46 : decode cX4_exciseIn 46 = .ok (.aload_n 0, 1) := by decide +kernel
theorem dX4_exciseIn_47 : decode cX4_exciseIn 47 = .ok (.getfield 13, 3) := by decide +kernel
theorem dX4_exciseIn_50 : decode cX4_exciseIn 50 = .ok (.invokestatic 153, 3) := by decide +kernel
theorem dX4_exciseIn_53 : decode cX4_exciseIn 53 = .ok (.iadd, 1) := by decide +kernel
theorem dX4_exciseIn_54 : decode cX4_exciseIn 54 = .ok (.istore_n 3, 1) := by decide +kernel
theorem dX4_exciseIn_55 : decode cX4_exciseIn 55 = .ok (.iinc 4 1, 3) := by decide +kernel
theorem dX4_exciseIn_58 : decode cX4_exciseIn 58 = .ok (.goto (-27), 3) := by decide +kernel
theorem dX4_exciseIn_61 : decode cX4_exciseIn 61 = .ok (.iload_n 3, 1) := by decide +kernel
theorem dX4_exciseIn_62 : decode cX4_exciseIn 62 = .ok (.ireturn, 1) := by decide +kernel
theorem dX4_low_0 : decode cX4_low 0 = .ok (.aload_n 0, 1) := by decide +kernel
theorem dX4_low_1 : decode cX4_low 1 = .ok (.iload_n 1, 1) := by decide +kernel
theorem dX4_low_2 : decode cX4_low 2 = .ok (.invokevirtual 111, 3) := by decide +kernel
theorem dX4_low_5 : decode cX4_low 5 = .ok (.ifCond .ne 9, 3) := by decide +kernel
theorem dX4_low_8 : decode cX4_low 8 = .ok (.aload_n 0, 1) := by decide +kernel
theorem dX4_low_9 : decode cX4_low 9 = .ok (.iconst (-1), 1) := by decide +kernel
theorem dX4_low_10 : decode cX4_low 10 = .ok (.invokevirtual 36, 3) := by decide +kernel
theorem dX4_low_13 : decode cX4_low 13 = .ok (.ireturn, 1) := by decide +kernel
theorem dX4_low_14 : decode cX4_low 14 = .ok (.iload_n 2, 1) := by decide +kernel
theorem dX4_low_15 : decode cX4_low 15 = .ok (.ifCond .ge 10, 3) := by decide +kernel
theorem dX4_low_18 : decode cX4_low 18 = .ok (.aload_n 0, 1) := by decide +kernel
theorem dX4_low_19 : decode cX4_low 19 = .ok (.bipush (-4), 2) := by decide +kernel
theorem dX4_low_21 : decode cX4_low 21 = .ok (.invokevirtual 36, 3) := by decide +kernel
theorem dX4_low_24 : decode cX4_low 24 = .ok (.ireturn, 1) := by decide +kernel
theorem dX4_low_25 : decode cX4_low 25 = .ok (.iload_n 2, 1) := by decide +kernel
theorem dX4_low_26 : decode cX4_low 26 = .ok (.sipush 400, 3) := by decide +kernel
theorem dX4_low_29 : decode cX4_low 29 = .ok (.if_icmp .le 10, 3) := by decide +kernel
theorem dX4_low_32 : decode cX4_low 32 = .ok (.aload_n 0, 1) := by decide +kernel
theorem dX4_low_33 : decode cX4_low 33 = .ok (.bipush (-6), 2) := by decide +kernel
theorem dX4_low_35 : decode cX4_low 35 = .ok (.invokevirtual 36, 3) := by decide +kernel
theorem dX4_low_38 : decode cX4_low 38 = .ok (.ireturn, 1) := by decide +kernel
theorem dX4_low_39 : decode cX4_low 39 = .ok (.aload_n 0, 1) := by decide +kernel
theorem dX4_low_40 : decode cX4_low 40 = .ok (.getfield 9, 3) := by decide +kernel
theorem dX4_low_43 : decode cX4_low 43 = .ok (.aload_n 0, 1) := by decide +kernel
theorem dX4_low_44 : decode cX4_low 44 = .ok (.getfield 13, 3) := by decide +kernel
theorem dX4_low_47 : decode cX4_low 47 = .ok (.invokestatic 78, 3) := by decide +kernel
theorem dX4_low_50 : decode cX4_low 50 = .ok (.iconst 0, 1) := by decide +kernel
theorem dX4_low_51 : decode cX4_low 51 = .ok (.istore_n 3, 1) := by decide +kernel
theorem dX4_low_52 : decode cX4_low 52 = .ok (.iload_n 3, 1) := by decide +kernel
theorem dX4_low_53 : decode cX4_low 53 = .ok (.sipush 200, 3) := by decide +kernel
theorem dX4_low_56 : decode cX4_low 56 = .ok (.if_icmp .gt 33, 3) := by decide +kernel
theorem dX4_low_59 : decode cX4_low 59 = .ok (.aload_n 0, 1) := by decide +kernel
theorem dX4_low_60 : decode cX4_low 60 = .ok (.getfield 13, 3) := by decide +kernel
theorem dX4_low_63 : decode cX4_low 63 = .ok (.iload_n 1, 1) := by decide +kernel
theorem dX4_low_64 : decode cX4_low 64 = .ok (.iconst 2, 1) := by decide +kernel
theorem dX4_low_65 : decode cX4_low 65 = .ok (.invokestatic 44, 3) := by decide +kernel
theorem dX4_low_68 : decode cX4_low 68 = .ok (.iaload, 1) := by decide +kernel
theorem dX4_low_69 : decode cX4_low 69 = .ok (.iload_n 2, 1) := by decide +kernel
theorem dX4_low_70 : decode cX4_low 70 = .ok (.if_icmp .gt 5, 3) := by decide +kernel
theorem dX4_low_73 : decode cX4_low 73 = .ok (.iload_n 3, 1) := by decide +kernel
theorem dX4_low_74 : decode cX4_low 74 = .ok (.ireturn, 1) := by decide +kernel
theorem dX4_low_75 : decode cX4_low 75 = .ok (.aload_n 0, 1) := by decide +kernel
theorem dX4_low_76 : decode cX4_low 76 = .ok (.aload_n 0, 1) := by decide +kernel
theorem dX4_low_77 : decode cX4_low 77 = .ok (.getfield 13, 3) := by decide +kernel
theorem dX4_low_80 : decode cX4_low 80 = .ok (.invokevirtual 74, 3) := by decide +kernel
theorem dX4_low_83 : decode cX4_low 83 = .ok (.iinc 3 1, 3) := by decide +kernel
theorem dX4_low_86 : decode cX4_low 86 = .ok (.goto (-34), 3) := by decide +kernel
theorem dX4_low_89 : decode cX4_low 89 = .ok (.bipush (-9), 2) := by decide +kernel
theorem dX4_low_91 : decode cX4_low 91 = .ok (.ireturn, 1) := by decide +kernel
theorem dX4_turns_0 : decode cX4_turns 0 = .ok (.aload_n 0, 1) := by decide +kernel
theorem dX4_turns_1 : decode cX4_turns 1 = .ok (.getfield 9, 3) := by decide +kernel
theorem dX4_turns_4 : decode cX4_turns 4 = .ok (.aload_n 0, 1) := by decide +kernel
theorem dX4_turns_5 : decode cX4_turns 5 = .ok (.getfield 13, 3) := by decide +kernel
theorem dX4_turns_8 : decode cX4_turns 8 = .ok (.invokestatic 78, 3) := by decide +kernel
theorem dX4_turns_11 : decode cX4_turns 11 = .ok (.iconst 1, 1) := by decide +kernel
theorem dX4_turns_12 : decode cX4_turns 12 = .ok (.istore_n 1, 1) := by decide +kernel
theorem dX4_turns_13 : decode cX4_turns 13 = .ok (.iload_n 1, 1) := by decide +kernel
theorem dX4_turns_14 : decode cX4_turns 14 = .ok (.sipush 200, 3) := by decide +kernel
theorem dX4_turns_17 : decode cX4_turns 17 = .ok (.if_icmp .gt 30, 3) := by decide +kernel
theorem dX4_turns_20 : decode cX4_turns 20 = .ok (.aload_n 0, 1) := by decide +kernel
theorem dX4_turns_21 : decode cX4_turns 21 = .ok (.aload_n 0, 1) := by decide +kernel
theorem dX4_turns_22 : decode cX4_turns 22 = .ok (.getfield 13, 3) := by decide +kernel
theorem dX4_turns_25 : decode cX4_turns 25 = .ok (.invokevirtual 74, 3) := by decide +kernel
theorem dX4_turns_28 : decode cX4_turns 28 = .ok (.aload_n 0, 1) := by decide +kernel
theorem dX4_turns_29 : decode cX4_turns 29 = .ok (.getfield 55, 3) := by decide +kernel
theorem dX4_turns_32 : decode cX4_turns 32 = .ok (.aload_n 0, 1) := by decide +kernel
theorem dX4_turns_33 : decode cX4_turns 33 = .ok (.getfield 51, 3) := by decide +kernel
theorem dX4_turns_36 : decode cX4_turns 36 = .ok (.if_icmp .le 5, 3) := by decide +kernel
theorem dX4_turns_39 : decode cX4_turns 39 = .ok (.iload_n 1, 1) := by decide +kernel
theorem dX4_turns_40 : decode cX4_turns 40 = .ok (.ireturn, 1) := by decide +kernel
theorem dX4_turns_41 : decode cX4_turns 41 = .ok (.iinc 1 1, 3) := by decide +kernel
theorem dX4_turns_44 : decode cX4_turns 44 = .ok (.goto (-31), 3) := by decide +kernel
theorem dX4_turns_47 : decode cX4_turns 47 = .ok (.bipush (-9), 2) := by decide +kernel
theorem dX4_turns_49 : decode cX4_turns 49 = .ok (.ireturn, 1) := by decide +kernel
theorem dX4_hum_0 : decode cX4_hum 0 = .ok (.aload_n 0, 1) := by decide +kernel
theorem dX4_hum_1 : decode cX4_hum 1 = .ok (.iload_n 1, 1) := by decide +kernel
theorem dX4_hum_2 : decode cX4_hum 2 = .ok (.invokevirtual 111, 3) := by decide +kernel
theorem dX4_hum_5 : decode cX4_hum 5 = .ok (.ifCond .ne 9, 3) := by decide +kernel
theorem dX4_hum_8 : decode cX4_hum 8 = .ok (.aload_n 0, 1) := by decide +kernel
theorem dX4_hum_9 : decode cX4_hum 9 = .ok (.iconst (-1), 1) := by decide +kernel
theorem dX4_hum_10 : decode cX4_hum 10 = .ok (.invokevirtual 36, 3) := by decide +kernel
theorem dX4_hum_13 : decode cX4_hum 13 = .ok (.ireturn, 1) := by decide +kernel
theorem dX4_hum_14 : decode cX4_hum 14 = .ok (.aload_n 0, 1) := by decide +kernel
theorem dX4_hum_15 : decode cX4_hum 15 = .ok (.getfield 9, 3) := by decide +kernel
theorem dX4_hum_18 : decode cX4_hum 18 = .ok (.aload_n 0, 1) := by decide +kernel
theorem dX4_hum_19 : decode cX4_hum 19 = .ok (.getfield 13, 3) := by decide +kernel
theorem dX4_hum_22 : decode cX4_hum 22 = .ok (.invokestatic 78, 3) := by decide +kernel
theorem dX4_hum_25 : decode cX4_hum 25 = .ok (.iconst 0, 1) := by decide +kernel
theorem dX4_hum_26 : decode cX4_hum 26 = .ok (.istore_n 2, 1) := by decide +kernel
theorem dX4_hum_27 : decode cX4_hum 27 = .ok (.iload_n 2, 1) := by decide +kernel
theorem dX4_hum_28 : decode cX4_hum 28 = .ok (.sipush 200, 3) := by decide +kernel
theorem dX4_hum_31 : decode cX4_hum 31 = .ok (.if_icmp .gt 55, 3) := by decide +kernel
theorem dX4_hum_34 : decode cX4_hum 34 = .ok (.aload_n 0, 1) := by decide +kernel
theorem dX4_hum_35 : decode cX4_hum 35 = .ok (.getfield 13, 3) := by decide +kernel
theorem dX4_hum_38 : decode cX4_hum 38 = .ok (.iload_n 1, 1) := by decide +kernel
theorem dX4_hum_39 : decode cX4_hum 39 = .ok (.iconst 5, 1) := by decide +kernel
theorem dX4_hum_40 : decode cX4_hum 40 = .ok (.invokestatic 44, 3) := by decide +kernel
theorem dX4_hum_43 : decode cX4_hum 43 = .ok (.iaload, 1) := by decide +kernel
theorem dX4_hum_44 : decode cX4_hum 44 = .ok (.ifCond .le 28, 3) := by decide +kernel
theorem dX4_hum_47 : decode cX4_hum 47 = .ok (.aload_n 0, 1) := by decide +kernel
theorem dX4_hum_48 : decode cX4_hum 48 = .ok (.getfield 13, 3) := by decide +kernel
theorem dX4_hum_51 : decode cX4_hum 51 = .ok (.iload_n 1, 1) := by decide +kernel
theorem dX4_hum_52 : decode cX4_hum 52 = .ok (.iconst 5, 1) := by decide +kernel
theorem dX4_hum_53 : decode cX4_hum 53 = .ok (.invokestatic 44, 3) := by decide +kernel
theorem dX4_hum_56 : decode cX4_hum 56 = .ok (.iaload, 1) := by decide +kernel
theorem dX4_hum_57 : decode cX4_hum 57 = .ok (.aload_n 0, 1) := by decide +kernel
theorem dX4_hum_58 : decode cX4_hum 58 = .ok (.getfield 13, 3) := by decide +kernel
theorem dX4_hum_61 : decode cX4_hum 61 = .ok (.iload_n 1, 1) := by decide +kernel
theorem dX4_hum_62 : decode cX4_hum 62 = .ok (.iconst 2, 1) := by decide +kernel
theorem dX4_hum_63 : decode cX4_hum 63 = .ok (.invokestatic 44, 3) := by decide +kernel
theorem dX4_hum_66 : decode cX4_hum 66 = .ok (.iaload, 1) := by decide +kernel
theorem dX4_hum_67 : decode cX4_hum 67 = .ok (.if_icmp .lt 5, 3) := by decide +kernel
theorem dX4_hum_70 : decode cX4_hum 70 = .ok (.iload_n 2, 1) := by decide +kernel
theorem dX4_hum_71 : decode cX4_hum 71 = .ok (.ireturn, 1) := by decide +kernel
theorem dX4_hum_72 : decode cX4_hum 72 = .ok (.aload_n 0, 1) := by decide +kernel
theorem dX4_hum_73 : decode cX4_hum 73 = .ok (.aload_n 0, 1) := by decide +kernel
theorem dX4_hum_74 : decode cX4_hum 74 = .ok (.getfield 13, 3) := by decide +kernel
theorem dX4_hum_77 : decode cX4_hum 77 = .ok (.invokevirtual 74, 3) := by decide +kernel
theorem dX4_hum_80 : decode cX4_hum 80 = .ok (.iinc 2 1, 3) := by decide +kernel
theorem dX4_hum_83 : decode cX4_hum 83 = .ok (.goto (-56), 3) := by decide +kernel
theorem dX4_hum_86 : decode cX4_hum 86 = .ok (.bipush (-9), 2) := by decide +kernel
theorem dX4_hum_88 : decode cX4_hum 88 = .ok (.ireturn, 1) := by decide +kernel
theorem dX4_pourFor_0 : decode cX4_pourFor 0 = .ok (.aload_n 0, 1) := by decide +kernel
theorem dX4_pourFor_1 : decode cX4_pourFor 1 = .ok (.iload_n 1, 1) := by decide +kernel
theorem dX4_pourFor_2 : decode cX4_pourFor 2 = .ok (.invokevirtual 111, 3) := by decide +kernel
theorem dX4_pourFor_5 : decode cX4_pourFor 5 = .ok (.ifCond .ne 9, 3) := by decide +kernel
theorem dX4_pourFor_8 : decode cX4_pourFor 8 = .ok (.aload_n 0, 1) := by decide +kernel
theorem dX4_pourFor_9 : decode cX4_pourFor 9 = .ok (.iconst (-1), 1) := by decide +kernel
theorem dX4_pourFor_10 : decode cX4_pourFor 10 = .ok (.invokevirtual 36, 3) := by decide +kernel
theorem dX4_pourFor_13 : decode cX4_pourFor 13 = .ok (.ireturn, 1) := by decide +kernel
theorem dX4_pourFor_14 : decode cX4_pourFor 14 = .ok (.iload_n 2, 1) := by decide +kernel
theorem dX4_pourFor_15 : decode cX4_pourFor 15 = .ok (.ifCond .ge 10, 3) := by decide +kernel
theorem dX4_pourFor_18 : decode cX4_pourFor 18 = .ok (.aload_n 0, 1) := by decide +kernel
theorem dX4_pourFor_19 : decode cX4_pourFor 19 = .ok (.bipush (-4), 2) := by decide +kernel
theorem dX4_pourFor_21 : decode cX4_pourFor 21 = .ok (.invokevirtual 36, 3) := by decide +kernel
theorem dX4_pourFor_24 : decode cX4_pourFor 24 = .ok (.ireturn, 1) := by decide +kernel
theorem dX4_pourFor_25 : decode cX4_pourFor 25 = .ok (.iload_n 2, 1) := by decide +kernel
theorem dX4_pourFor_26 : decode cX4_pourFor 26 = .ok (.bipush 99, 2) := by decide +kernel
theorem dX4_pourFor_28 : decode cX4_pourFor 28 = .ok (.if_icmp .le 10, 3) := by decide +kernel
theorem dX4_pourFor_31 : decode cX4_pourFor 31 = .ok (.aload_n 0, 1) := by decide +kernel
theorem dX4_pourFor_32 : decode cX4_pourFor 32 = .ok (.bipush (-6), 2) := by decide +kernel
theorem dX4_pourFor_34 : decode cX4_pourFor 34 = .ok (.invokevirtual 36, 3) := by decide +kernel
theorem dX4_pourFor_37 : decode cX4_pourFor 37 = .ok (.ireturn, 1) := by decide +kernel
theorem dX4_pourFor_38 : decode cX4_pourFor 38 = .ok (.iconst 1, 1) := by decide +kernel
theorem dX4_pourFor_39 : decode cX4_pourFor 39 = .ok (.istore_n 3, 1) := by decide +kernel
theorem dX4_pourFor_40 : decode cX4_pourFor 40 = .ok (.iload_n 3, 1) := by decide +kernel
theorem dX4_pourFor_41 : decode cX4_pourFor 41 = .ok (.sipush 400, 3) := by decide +kernel
theorem dX4_pourFor_44 : decode cX4_pourFor 44 = .ok (.if_icmp .gt 67, 3) := by decide +kernel
theorem dX4_pourFor_47 : decode cX4_pourFor 47 = .ok (.iconst 0, 1) := by decide +kernel
theorem dX4_pourFor_48 : decode cX4_pourFor 48 = .ok (.istore 4, 2) := by decide +kernel
theorem dX4_pourFor_50 : decode cX4_pourFor 50 = .ok (.iload 4, 2) := by decide +kernel
theorem dX4_pourFor_52 : decode cX4_pourFor 52 = .ok (.aload_n 0, 1) := by decide +kernel
theorem dX4_pourFor_53 : decode cX4_pourFor 53 = .ok (.getfield 9, 3) := by decide +kernel
theorem dX4_pourFor_56 : decode cX4_pourFor 56 = .ok (.iconst 0, 1) := by decide +kernel
theorem dX4_pourFor_57 : decode cX4_pourFor 57 = .ok (.iaload, 1) := by decide +kernel
theorem dX4_pourFor_58 : decode cX4_pourFor 58 = .ok (.if_icmp .ge 47, 3) := by decide +kernel
theorem dX4_pourFor_61 : decode cX4_pourFor 61 = .ok (.iload 4, 2) := by decide +kernel
theorem dX4_pourFor_63 : decode cX4_pourFor 63 = .ok (.iload_n 1, 1) := by decide +kernel
theorem dX4_pourFor_64 : decode cX4_pourFor 64 = .ok (.if_icmp .eq 35, 3) := by decide +kernel
theorem dX4_pourFor_67 : decode cX4_pourFor 67 = .ok (.aload_n 0, 1) := by decide +kernel
theorem dX4_pourFor_68 : decode cX4_pourFor 68 = .ok (.iload 4, 2) := by decide +kernel
theorem dX4_pourFor_70 : decode cX4_pourFor 70 = .ok (.iload_n 1, 1) := by decide +kernel
theorem dX4_pourFor_71 : decode cX4_pourFor 71 = .ok (.iload_n 3, 1) := by decide +kernel
theorem dX4_pourFor_72 : decode cX4_pourFor 72 = .ok (.invokevirtual 115, 3) := by decide +kernel
theorem dX4_pourFor_75 : decode cX4_pourFor 75 = .ok (.ifCond .eq 24, 3) := by decide +kernel
theorem dX4_pourFor_78 : decode cX4_pourFor 78 = .ok (.aload_n 0, 1) := by decide +kernel
theorem dX4_pourFor_79 : decode cX4_pourFor 79 = .ok (.iload 4, 2) := by decide +kernel
theorem dX4_pourFor_81 : decode cX4_pourFor 81 = .ok (.iload_n 1, 1) := by decide +kernel
theorem dX4_pourFor_82 : decode cX4_pourFor 82 = .ok (.iload_n 3, 1) := by decide +kernel
theorem dX4_pourFor_83 : decode cX4_pourFor 83 = .ok (.invokevirtual 107, 3) := by decide +kernel
theorem dX4_pourFor_86 : decode cX4_pourFor 86 = .ok (.iload_n 2, 1) := by decide +kernel
theorem dX4_pourFor_87 : decode cX4_pourFor 87 = .ok (.if_icmp .ne 12, 3) := by decide +kernel
theorem dX4_pourFor_90 : decode cX4_pourFor 90 = .ok (.sipush 1000, 3) := by decide +kernel
theorem dX4_pourFor_93 : decode cX4_pourFor 93 = .ok (.iload 4, 2) := by decide +kernel
theorem dX4_pourFor_95 : decode cX4_pourFor 95 = .ok (.imul, 1) := by decide +kernel
theorem dX4_pourFor_96 : decode cX4_pourFor 96 = .ok (.iload_n 3, 1) := by decide +kernel
theorem dX4_pourFor_97 : decode cX4_pourFor 97 = .ok (.iadd, 1) := by decide +kernel
theorem dX4_pourFor_98 : decode cX4_pourFor 98 = .ok (.ireturn, 1) := by decide +kernel
theorem dX4_pourFor_99 : decode cX4_pourFor 99 = .ok (.iinc 4 1, 3) := by decide +kernel
theorem dX4_pourFor_102 : decode cX4_pourFor 102 = .ok (.goto (-52), 3) := by decide +kernel
theorem dX4_pourFor_105 : decode cX4_pourFor 105 = .ok (.iinc 3 1, 3) := by decide +kernel
theorem dX4_pourFor_108 : decode cX4_pourFor 108 = .ok (.goto (-68), 3) := by decide +kernel
theorem dX4_pourFor_111 : decode cX4_pourFor 111 = .ok (.bipush (-9), 2) := by decide +kernel
theorem dX4_pourFor_113 : decode cX4_pourFor 113 = .ok (.ireturn, 1) := by decide +kernel
theorem dX4_blend_0 : decode cX4_blend 0 = .ok (.iload_n 1, 1) := by decide +kernel
theorem dX4_blend_1 : decode cX4_blend 1 = .ok (.ifCond .ge 10, 3) := by decide +kernel
theorem dX4_blend_4 : decode cX4_blend 4 = .ok (.aload_n 0, 1) := by decide +kernel
theorem dX4_blend_5 : decode cX4_blend 5 = .ok (.bipush (-4), 2) := by decide +kernel
theorem dX4_blend_7 : decode cX4_blend 7 = .ok (.invokevirtual 36, 3) := by decide +kernel
theorem dX4_blend_10 : decode cX4_blend 10 = .ok (.ireturn, 1) := by decide +kernel
theorem dX4_blend_11 : decode cX4_blend 11 = .ok (.iload_n 1, 1) := by decide +kernel
theorem dX4_blend_12 : decode cX4_blend 12 = .ok (.bipush 99, 2) := by decide +kernel
theorem dX4_blend_14 : decode cX4_blend 14 = .ok (.if_icmp .le 10, 3) := by decide +kernel
theorem dX4_blend_17 : decode cX4_blend 17 = .ok (.aload_n 0, 1) := by decide +kernel
theorem dX4_blend_18 : decode cX4_blend 18 = .ok (.bipush (-6), 2) := by decide +kernel
theorem dX4_blend_20 : decode cX4_blend 20 = .ok (.invokevirtual 36, 3) := by decide +kernel
theorem dX4_blend_23 : decode cX4_blend 23 = .ok (.ireturn, 1) := by decide +kernel
theorem dX4_blend_24 : decode cX4_blend 24 = .ok (.bipush (-9), 2) := by decide +kernel
theorem dX4_blend_26 : decode cX4_blend 26 = .ok (.istore_n 2, 1) := by decide +kernel
theorem dX4_blend_27 : decode cX4_blend 27 = .ok (.ldc 157, 2) := by decide +kernel
theorem dX4_blend_29 : decode cX4_blend 29 = .ok (.istore_n 3, 1) := by decide +kernel
theorem dX4_blend_30 : decode cX4_blend 30 = .ok (.iconst 0, 1) := by decide +kernel
theorem dX4_blend_31 : decode cX4_blend 31 = .ok (.istore 4, 2) := by decide +kernel
theorem dX4_blend_33 : decode cX4_blend 33 = .ok (.iload 4, 2) := by decide +kernel
theorem dX4_blend_35 : decode cX4_blend 35 = .ok (.aload_n 0, 1) := by decide +kernel
theorem dX4_blend_36 : decode cX4_blend 36 = .ok (.getfield 9, 3) := by decide +kernel
theorem dX4_blend_39 : decode cX4_blend 39 = .ok (.iconst 0, 1) := by decide +kernel
theorem dX4_blend_40 : decode cX4_blend 40 = .ok (.iaload, 1) := by decide +kernel
theorem dX4_blend_41 : decode cX4_blend 41 = .ok (.if_icmp .ge 143, 3) := by decide +kernel
theorem dX4_blend_44 : decode cX4_blend 44 = .ok (.iload 4, 2) := by decide +kernel
theorem dX4_blend_46 : decode cX4_blend 46 = .ok (.iconst 1, 1) := by decide +kernel
theorem dX4_blend_47 : decode cX4_blend 47 = .ok (.iadd, 1) := by decide +kernel
theorem dX4_blend_48 : decode cX4_blend 48 = .ok (.istore 5, 2) := by decide +kernel
theorem dX4_blend_50 : decode cX4_blend 50 = .ok (.iload 5, 2) := by decide +kernel
theorem dX4_blend_52 : decode cX4_blend 52 = .ok (.aload_n 0, 1) := by decide +kernel
theorem dX4_blend_53 : decode cX4_blend 53 = .ok (.getfield 9, 3) := by decide +kernel
theorem dX4_blend_56 : decode cX4_blend 56 = .ok (.iconst 0, 1) := by decide +kernel
theorem dX4_blend_57 : decode cX4_blend 57 = .ok (.iaload, 1) := by decide +kernel
theorem dX4_blend_58 : decode cX4_blend 58 = .ok (.if_icmp .ge 120, 3) := by decide +kernel
theorem dX4_blend_61 : decode cX4_blend 61 = .ok (.aload_n 0, 1) := by decide +kernel
theorem dX4_blend_62 : decode cX4_blend 62 = .ok (.getfield 9, 3) := by decide +kernel
theorem dX4_blend_65 : decode cX4_blend 65 = .ok (.iload 4, 2) := by decide +kernel
theorem dX4_blend_67 : decode cX4_blend 67 = .ok (.iconst 2, 1) := by decide +kernel
theorem dX4_blend_68 : decode cX4_blend 68 = .ok (.invokestatic 44, 3) := by decide +kernel
theorem dX4_blend_71 : decode cX4_blend 71 = .ok (.iaload, 1) := by decide +kernel
theorem dX4_blend_72 : decode cX4_blend 72 = .ok (.aload_n 0, 1) := by decide +kernel
theorem dX4_blend_73 : decode cX4_blend 73 = .ok (.getfield 9, 3) := by decide +kernel
theorem dX4_blend_76 : decode cX4_blend 76 = .ok (.iload 5, 2) := by decide +kernel
theorem dX4_blend_78 : decode cX4_blend 78 = .ok (.iconst 2, 1) := by decide +kernel
theorem dX4_blend_79 : decode cX4_blend 79 = .ok (.invokestatic 44, 3) := by decide +kernel
theorem dX4_blend_82 : decode cX4_blend 82 = .ok (.iaload, 1) := by decide +kernel
theorem dX4_blend_83 : decode cX4_blend 83 = .ok (.iadd, 1) := by decide +kernel
theorem dX4_blend_84 : decode cX4_blend 84 = .ok (.istore 6, 2) := by decide +kernel
theorem dX4_blend_86 : decode cX4_blend 86 = .ok (.iload 6, 2) := by decide +kernel
theorem dX4_blend_88 : decode cX4_blend 88 = .ok (.ifCond .ne 6, 3) := by decide +kernel
theorem dX4_blend_91 : decode cX4_blend 91 = .ok (.goto 81, 3) := by decide +kernel
theorem dX4_blend_94 : decode cX4_blend 94 = .ok (.aload_n 0, 1) := by decide +kernel
theorem dX4_blend_95 : decode cX4_blend 95 = .ok (.getfield 9, 3) := by decide +kernel
theorem dX4_blend_98 : decode cX4_blend 98 = .ok (.iload 4, 2) := by decide +kernel
theorem dX4_blend_100 : decode cX4_blend 100 = .ok (.iconst 2, 1) := by decide +kernel
theorem dX4_blend_101 : decode cX4_blend 101 = .ok (.invokestatic 44, 3) := by decide +kernel
theorem dX4_blend_104 : decode cX4_blend 104 = .ok (.iaload, 1) := by decide +kernel
theorem dX4_blend_105 : decode cX4_blend 105 = .ok (.aload_n 0, 1) := by decide +kernel
theorem dX4_blend_106 : decode cX4_blend 106 = .ok (.getfield 9, 3) := by decide +kernel
theorem dX4_blend_109 : decode cX4_blend 109 = .ok (.iload 4, 2) := by decide +kernel
theorem dX4_blend_111 : decode cX4_blend 111 = .ok (.iconst 3, 1) := by decide +kernel
theorem dX4_blend_112 : decode cX4_blend 112 = .ok (.invokestatic 44, 3) := by decide +kernel
theorem dX4_blend_115 : decode cX4_blend 115 = .ok (.iaload, 1) := by decide +kernel
theorem dX4_blend_116 : decode cX4_blend 116 = .ok (.imul, 1) := by decide +kernel
theorem dX4_blend_117 : decode cX4_blend 117 = .ok (.aload_n 0, 1) := by decide +kernel
theorem dX4_blend_118 : decode cX4_blend 118 = .ok (.getfield 9, 3) := by decide +kernel
theorem dX4_blend_121 : decode cX4_blend 121 = .ok (.iload 5, 2) := by decide +kernel
theorem dX4_blend_123 : decode cX4_blend 123 = .ok (.iconst 2, 1) := by decide +kernel
theorem dX4_blend_124 : decode cX4_blend 124 = .ok (.invokestatic 44, 3) := by decide +kernel
theorem dX4_blend_127 : decode cX4_blend 127 = .ok (.iaload, 1) := by decide +kernel
theorem dX4_blend_128 : decode cX4_blend 128 = .ok (.aload_n 0, 1) := by decide +kernel
theorem dX4_blend_129 : decode cX4_blend 129 = .ok (.getfield 9, 3) := by decide +kernel
theorem dX4_blend_132 : decode cX4_blend 132 = .ok (.iload 5, 2) := by decide +kernel
theorem dX4_blend_134 : decode cX4_blend 134 = .ok (.iconst 3, 1) := by decide +kernel
theorem dX4_blend_135 : decode cX4_blend 135 = .ok (.invokestatic 44, 3) := by decide +kernel
theorem dX4_blend_138 : decode cX4_blend 138 = .ok (.iaload, 1) := by decide +kernel
theorem dX4_blend_139 : decode cX4_blend 139 = .ok (.imul, 1) := by decide +kernel
theorem dX4_blend_140 : decode cX4_blend 140 = .ok (.iadd, 1) := by decide +kernel
theorem dX4_blend_141 : decode cX4_blend 141 = .ok (.iload 6, 2) := by decide +kernel
theorem dX4_blend_143 : decode cX4_blend 143 = .ok (.idiv, 1) := by decide +kernel
theorem dX4_blend_144 : decode cX4_blend 144 = .ok (.iload_n 1, 1) := by decide +kernel
theorem dX4_blend_145 : decode cX4_blend 145 = .ok (.isub, 1) := by decide +kernel
theorem dX4_blend_146 : decode cX4_blend 146 = .ok (.invokestatic 158, 3) := by decide +kernel
theorem dX4_blend_149 : decode cX4_blend 149 = .ok (.istore 7, 2) := by decide +kernel
theorem dX4_blend_151 : decode cX4_blend 151 = .ok (.iload 7, 2) := by decide +kernel
theorem dX4_blend_153 : decode cX4_blend 153 = .ok (.iload_n 3, 1) := by decide +kernel
theorem dX4_blend_154 : decode cX4_blend 154 = .ok (.if_icmp .lt 6, 3) := by decide +kernel
theorem dX4_blend_157 : decode cX4_blend 157 = .ok (.goto 15, 3) := by decide +kernel
theorem dX4_blend_160 : decode cX4_blend 160 = .ok (.bipush 10, 2) := by decide +kernel
theorem dX4_blend_162 : decode cX4_blend 162 = .ok (.iload 4, 2) := by decide +kernel
theorem dX4_blend_164 : decode cX4_blend 164 = .ok (.imul, 1) := by decide +kernel
theorem dX4_blend_165 : decode cX4_blend 165 = .ok (.iload 5, 2) := by decide +kernel
theorem dX4_blend_167 : decode cX4_blend 167 = .ok (.iadd, 1) := by decide +kernel
theorem dX4_blend_168 : decode cX4_blend 168 = .ok (.istore_n 2, 1) := by decide +kernel
theorem dX4_blend_169 : decode cX4_blend 169 = .ok (.iload 7, 2) := by decide +kernel
theorem dX4_blend_171 : decode cX4_blend 171 = .ok (.istore_n 3, 1) := by decide +kernel
theorem dX4_blend_172 : decode cX4_blend 172 = .ok (.iinc 5 1, 3) := by decide +kernel
theorem dX4_blend_175 : decode cX4_blend 175 = .ok (.goto (-125), 3) := by decide +kernel
theorem dX4_blend_178 : decode cX4_blend 178 = .ok (.iinc 4 1, 3) := by decide +kernel
theorem dX4_blend_181 : decode cX4_blend 181 = .ok (.goto (-148), 3) := by decide +kernel
theorem dX4_blend_184 : decode cX4_blend 184 = .ok (.iload_n 2, 1) := by decide +kernel
theorem dX4_blend_185 : decode cX4_blend 185 = .ok (.ireturn, 1) := by decide +kernel
theorem dX4_spread_0 : decode cX4_spread 0 = .ok (.bipush (-9), 2) := by decide +kernel
theorem dX4_spread_2 : decode cX4_spread 2 = .ok (.istore_n 1, 1) := by decide +kernel
theorem dX4_spread_3 : decode cX4_spread 3 = .ok (.ldc 157, 2) := by decide +kernel
theorem dX4_spread_5 : decode cX4_spread 5 = .ok (.istore_n 2, 1) := by decide +kernel
theorem dX4_spread_6 : decode cX4_spread 6 = .ok (.iconst 0, 1) := by decide +kernel
theorem dX4_spread_7 : decode cX4_spread 7 = .ok (.istore_n 3, 1) := by decide +kernel
theorem dX4_spread_8 : decode cX4_spread 8 = .ok (.iload_n 3, 1) := by decide +kernel
theorem dX4_spread_9 : decode cX4_spread 9 = .ok (.aload_n 0, 1) := by decide +kernel
theorem dX4_spread_10 : decode cX4_spread 10 = .ok (.getfield 9, 3) := by decide +kernel
theorem dX4_spread_13 : decode cX4_spread 13 = .ok (.iconst 0, 1) := by decide +kernel
theorem dX4_spread_14 : decode cX4_spread 14 = .ok (.iaload, 1) := by decide +kernel
theorem dX4_spread_15 : decode cX4_spread 15 = .ok (.if_icmp .ge 57, 3) := by decide +kernel
theorem dX4_spread_18 : decode cX4_spread 18 = .ok (.aload_n 0, 1) := by decide +kernel
theorem dX4_spread_19 : decode cX4_spread 19 = .ok (.getfield 9, 3) := by decide +kernel
theorem dX4_spread_22 : decode cX4_spread 22 = .ok (.iload_n 3, 1) := by decide +kernel
theorem dX4_spread_23 : decode cX4_spread 23 = .ok (.iconst 2, 1) := by decide +kernel
theorem dX4_spread_24 : decode cX4_spread 24 = .ok (.invokestatic 44, 3) := by decide +kernel
theorem dX4_spread_27 : decode cX4_spread 27 = .ok (.iaload, 1) := by decide +kernel
theorem dX4_spread_28 : decode cX4_spread 28 = .ok (.ifCond .ne 6, 3) := by decide +kernel
theorem dX4_spread_31 : decode cX4_spread 31 = .ok (.goto 35, 3) := by decide +kernel
theorem dX4_spread_34 : decode cX4_spread 34 = .ok (.aload_n 0, 1) := by decide +kernel
theorem dX4_spread_35 : decode cX4_spread 35 = .ok (.getfield 9, 3) := by decide +kernel
theorem dX4_spread_38 : decode cX4_spread 38 = .ok (.iload_n 3, 1) := by decide +kernel
theorem dX4_spread_39 : decode cX4_spread 39 = .ok (.iconst 3, 1) := by decide +kernel
theorem dX4_spread_40 : decode cX4_spread 40 = .ok (.invokestatic 44, 3) := by decide +kernel
theorem dX4_spread_43 : decode cX4_spread 43 = .ok (.iaload, 1) := by decide +kernel
theorem dX4_spread_44 : decode cX4_spread 44 = .ok (.istore 4, 2) := by decide +kernel
theorem dX4_spread_46 : decode cX4_spread 46 = .ok (.iload 4, 2) := by decide +kernel
theorem dX4_spread_48 : decode cX4_spread 48 = .ok (.iload_n 1, 1) := by decide +kernel
theorem dX4_spread_49 : decode cX4_spread 49 = .ok (.if_icmp .le 8, 3) := by decide +kernel
theorem dX4_spread_52 : decode cX4_spread 52 = .ok (.iload 4, 2) := by decide +kernel
theorem dX4_spread_54 : decode cX4_spread 54 = .ok (.goto 4, 3) := by decide +kernel
theorem dX4_spread_57 : decode cX4_spread 57 = .ok (.iload_n 1, 1) := by decide +kernel
theorem dX4_spread_58 : decode cX4_spread 58 = .ok (.istore_n 1, 1) := by decide +kernel
theorem dX4_spread_59 : decode cX4_spread 59 = .ok (.iload_n 2, 1) := by decide +kernel
theorem dX4_spread_60 : decode cX4_spread 60 = .ok (.iload 4, 2) := by decide +kernel
theorem dX4_spread_62 : decode cX4_spread 62 = .ok (.invokestatic 48, 3) := by decide +kernel
theorem dX4_spread_65 : decode cX4_spread 65 = .ok (.istore_n 2, 1) := by decide +kernel
theorem dX4_spread_66 : decode cX4_spread 66 = .ok (.iinc 3 1, 3) := by decide +kernel
theorem dX4_spread_69 : decode cX4_spread 69 = .ok (.goto (-61), 3) := by decide +kernel
theorem dX4_spread_72 : decode cX4_spread 72 = .ok (.iload_n 1, 1) := by decide +kernel
theorem dX4_spread_73 : decode cX4_spread 73 = .ok (.ifCond .ge 8, 3) := by decide +kernel
theorem dX4_spread_76 : decode cX4_spread 76 = .ok (.bipush (-9), 2) := by decide +kernel
theorem dX4_spread_78 : decode cX4_spread 78 = .ok (.goto 6, 3) := by decide +kernel
theorem dX4_spread_81 : decode cX4_spread 81 = .ok (.iload_n 1, 1) := by decide +kernel
theorem dX4_spread_82 : decode cX4_spread 82 = .ok (.iload_n 2, 1) := by decide +kernel
theorem dX4_spread_83 : decode cX4_spread 83 = .ok (.isub, 1) := by decide +kernel
theorem dX4_spread_84 : decode cX4_spread 84 = .ok (.ireturn, 1) := by decide +kernel
theorem dX4_worthOf_0 : decode cX4_worthOf 0 = .ok (.aload_n 0, 1) := by decide +kernel
theorem dX4_worthOf_1 : decode cX4_worthOf 1 = .ok (.iload_n 1, 1) := by decide +kernel
theorem dX4_worthOf_2 : decode cX4_worthOf 2 = .ok (.iconst 2, 1) := by decide +kernel
theorem dX4_worthOf_3 : decode cX4_worthOf 3 = .ok (.invokestatic 44, 3) := by decide +kernel
theorem dX4_worthOf_6 : decode cX4_worthOf 6 = .ok (.iaload, 1) := by decide +kernel
theorem dX4_worthOf_7 : decode cX4_worthOf 7 = .ok (.aload_n 0, 1) := by decide +kernel
theorem dX4_worthOf_8 : decode cX4_worthOf 8 = .ok (.iload_n 1, 1) := by decide +kernel
theorem dX4_worthOf_9 : decode cX4_worthOf 9 = .ok (.iconst 3, 1) := by decide +kernel
theorem dX4_worthOf_10 : decode cX4_worthOf 10 = .ok (.invokestatic 44, 3) := by decide +kernel
theorem dX4_worthOf_13 : decode cX4_worthOf 13 = .ok (.iaload, 1) := by decide +kernel
theorem dX4_worthOf_14 : decode cX4_worthOf 14 = .ok (.imul, 1) := by decide +kernel
theorem dX4_worthOf_15 : decode cX4_worthOf 15 = .ok (.ireturn, 1) := by decide +kernel
theorem dX4_layDown_0 : decode cX4_layDown 0 = .ok (.iload_n 1, 1) := by decide +kernel
theorem dX4_layDown_1 : decode cX4_layDown 1 = .ok (.invokestatic 128, 3) := by decide +kernel
theorem dX4_layDown_4 : decode cX4_layDown 4 = .ok (.istore_n 2, 1) := by decide +kernel
theorem dX4_layDown_5 : decode cX4_layDown 5 = .ok (.iload_n 2, 1) := by decide +kernel
theorem dX4_layDown_6 : decode cX4_layDown 6 = .ok (.ifCond .eq 9, 3) := by decide +kernel
theorem dX4_layDown_9 : decode cX4_layDown 9 = .ok (.aload_n 0, 1) := by decide +kernel
theorem dX4_layDown_10 : decode cX4_layDown 10 = .ok (.iload_n 2, 1) := by decide +kernel
theorem dX4_layDown_11 : decode cX4_layDown 11 = .ok (.invokevirtual 36, 3) := by decide +kernel
theorem dX4_layDown_14 : decode cX4_layDown 14 = .ok (.ireturn, 1) := by decide +kernel
theorem dX4_layDown_15 : decode cX4_layDown 15 = .ok (.aload_n 0, 1) := by decide +kernel
theorem dX4_layDown_16 : decode cX4_layDown 16 = .ok (.iload_n 1, 1) := by decide +kernel
theorem dX4_layDown_17 : decode cX4_layDown 17 = .ok (.invokevirtual 131, 3) := by decide +kernel
theorem dX4_layDown_20 : decode cX4_layDown 20 = .ok (.bipush (-9), 2) := by decide +kernel
theorem dX4_layDown_22 : decode cX4_layDown 22 = .ok (.istore_n 3, 1) := by decide +kernel
theorem dX4_layDown_23 : decode cX4_layDown 23 = .ok (.iconst 0, 1) := by decide +kernel
theorem dX4_layDown_24 : decode cX4_layDown 24 = .ok (.istore 4, 2) := by decide +kernel
theorem dX4_layDown_26 : decode cX4_layDown 26 = .ok (.iload 4, 2) := by decide +kernel
theorem dX4_layDown_28 : decode cX4_layDown 28 = .ok (.aload_n 0, 1) := by decide +kernel
theorem dX4_layDown_29 : decode cX4_layDown 29 = .ok (.getfield 9, 3) := by decide +kernel
theorem dX4_layDown_32 : decode cX4_layDown 32 = .ok (.iconst 0, 1) := by decide +kernel
theorem dX4_layDown_33 : decode cX4_layDown 33 = .ok (.iaload, 1) := by decide +kernel
theorem dX4_layDown_34 : decode cX4_layDown 34 = .ok (.if_icmp .ge 36, 3) := by decide +kernel
theorem dX4_layDown_37 : decode cX4_layDown 37 = .ok (.iload_n 3, 1) := by decide +kernel
theorem dX4_layDown_38 : decode cX4_layDown 38 = .ok (.ifCond .lt 23, 3) := by decide +kernel
theorem dX4_layDown_41 : decode cX4_layDown 41 = .ok (.aload_n 0, 1) := by decide +kernel
theorem dX4_layDown_42 : decode cX4_layDown 42 = .ok (.getfield 13, 3) := by decide +kernel
theorem dX4_layDown_45 : decode cX4_layDown 45 = .ok (.iload 4, 2) := by decide +kernel
theorem dX4_layDown_47 : decode cX4_layDown 47 = .ok (.invokestatic 161, 3) := by decide +kernel
theorem dX4_layDown_50 : decode cX4_layDown 50 = .ok (.aload_n 0, 1) := by decide +kernel
theorem dX4_layDown_51 : decode cX4_layDown 51 = .ok (.getfield 13, 3) := by decide +kernel
theorem dX4_layDown_54 : decode cX4_layDown 54 = .ok (.iload_n 3, 1) := by decide +kernel
theorem dX4_layDown_55 : decode cX4_layDown 55 = .ok (.invokestatic 161, 3) := by decide +kernel
theorem dX4_layDown_58 : decode cX4_layDown 58 = .ok (.if_icmp .le 6, 3) := by decide +kernel
theorem dX4_layDown_61 : decode cX4_layDown 61 = .ok (.iload 4, 2) := by decide +kernel
theorem dX4_layDown_63 : decode cX4_layDown 63 = .ok (.istore_n 3, 1) := by decide +kernel
theorem dX4_layDown_64 : decode cX4_layDown 64 = .ok (.iinc 4 1, 3) := by decide +kernel
theorem dX4_layDown_67 : decode cX4_layDown 67 = .ok (.goto (-41), 3) := by decide +kernel
theorem dX4_layDown_70 : decode cX4_layDown 70 = .ok (.iload_n 3, 1) := by decide +kernel
theorem dX4_layDown_71 : decode cX4_layDown 71 = .ok (.ireturn, 1) := by decide +kernel
theorem dX4_sell_0 : decode cX4_sell 0 = .ok (.iload_n 1, 1) := by decide +kernel
theorem dX4_sell_1 : decode cX4_sell 1 = .ok (.invokestatic 128, 3) := by decide +kernel
theorem dX4_sell_4 : decode cX4_sell 4 = .ok (.istore_n 2, 1) := by decide +kernel
theorem dX4_sell_5 : decode cX4_sell 5 = .ok (.iload_n 2, 1) := by decide +kernel
theorem dX4_sell_6 : decode cX4_sell 6 = .ok (.ifCond .eq 9, 3) := by decide +kernel
theorem dX4_sell_9 : decode cX4_sell 9 = .ok (.aload_n 0, 1) := by decide +kernel
theorem dX4_sell_10 : decode cX4_sell 10 = .ok (.iload_n 2, 1) := by decide +kernel
theorem dX4_sell_11 : decode cX4_sell 11 = .ok (.invokevirtual 36, 3) := by decide +kernel
theorem dX4_sell_14 : decode cX4_sell 14 = .ok (.ireturn, 1) := by decide +kernel
theorem dX4_sell_15 : decode cX4_sell 15 = .ok (.aload_n 0, 1) := by decide +kernel
theorem dX4_sell_16 : decode cX4_sell 16 = .ok (.iload_n 1, 1) := by decide +kernel
theorem dX4_sell_17 : decode cX4_sell 17 = .ok (.invokevirtual 131, 3) := by decide +kernel
theorem dX4_sell_20 : decode cX4_sell 20 = .ok (.bipush (-9), 2) := by decide +kernel
theorem dX4_sell_22 : decode cX4_sell 22 = .ok (.istore_n 3, 1) := by decide +kernel
theorem dX4_sell_23 : decode cX4_sell 23 = .ok (.iconst 0, 1) := by decide +kernel
theorem dX4_sell_24 : decode cX4_sell 24 = .ok (.istore 4, 2) := by decide +kernel
theorem dX4_sell_26 : decode cX4_sell 26 = .ok (.iload 4, 2) := by decide +kernel
theorem dX4_sell_28 : decode cX4_sell 28 = .ok (.aload_n 0, 1) := by decide +kernel
theorem dX4_sell_29 : decode cX4_sell 29 = .ok (.getfield 9, 3) := by decide +kernel
theorem dX4_sell_32 : decode cX4_sell 32 = .ok (.iconst 0, 1) := by decide +kernel
theorem dX4_sell_33 : decode cX4_sell 33 = .ok (.iaload, 1) := by decide +kernel
theorem dX4_sell_34 : decode cX4_sell 34 = .ok (.if_icmp .ge 76, 3) := by decide +kernel
theorem dX4_sell_37 : decode cX4_sell 37 = .ok (.aload_n 0, 1) := by decide +kernel
theorem dX4_sell_38 : decode cX4_sell 38 = .ok (.getfield 9, 3) := by decide +kernel
theorem dX4_sell_41 : decode cX4_sell 41 = .ok (.iload 4, 2) := by decide +kernel
theorem dX4_sell_43 : decode cX4_sell 43 = .ok (.iconst 2, 1) := by decide +kernel
theorem dX4_sell_44 : decode cX4_sell 44 = .ok (.invokestatic 44, 3) := by decide +kernel
theorem dX4_sell_47 : decode cX4_sell 47 = .ok (.iaload, 1) := by decide +kernel
theorem dX4_sell_48 : decode cX4_sell 48 = .ok (.istore 5, 2) := by decide +kernel
theorem dX4_sell_50 : decode cX4_sell 50 = .ok (.iload 5, 2) := by decide +kernel
theorem dX4_sell_52 : decode cX4_sell 52 = .ok (.ifCond .ne 6, 3) := by decide +kernel
theorem dX4_sell_55 : decode cX4_sell 55 = .ok (.goto 49, 3) := by decide +kernel
theorem dX4_sell_58 : decode cX4_sell 58 = .ok (.iload_n 3, 1) := by decide +kernel
theorem dX4_sell_59 : decode cX4_sell 59 = .ok (.ifCond .lt 42, 3) := by decide +kernel
theorem dX4_sell_62 : decode cX4_sell 62 = .ok (.aload_n 0, 1) := by decide +kernel
theorem dX4_sell_63 : decode cX4_sell 63 = .ok (.getfield 13, 3) := by decide +kernel
theorem dX4_sell_66 : decode cX4_sell 66 = .ok (.iload 4, 2) := by decide +kernel
theorem dX4_sell_68 : decode cX4_sell 68 = .ok (.invokestatic 161, 3) := by decide +kernel
theorem dX4_sell_71 : decode cX4_sell 71 = .ok (.i2l, 1) := by decide +kernel
theorem dX4_sell_72 : decode cX4_sell 72 = .ok (.aload_n 0, 1) := by decide +kernel
theorem dX4_sell_73 : decode cX4_sell 73 = .ok (.getfield 9, 3) := by decide +kernel
theorem dX4_sell_76 : decode cX4_sell 76 = .ok (.iload_n 3, 1) := by decide +kernel
theorem dX4_sell_77 : decode cX4_sell 77 = .ok (.iconst 2, 1) := by decide +kernel
theorem dX4_sell_78 : decode cX4_sell 78 = .ok (.invokestatic 44, 3) := by decide +kernel
theorem dX4_sell_81 : decode cX4_sell 81 = .ok (.iaload, 1) := by decide +kernel
theorem dX4_sell_82 : decode cX4_sell 82 = .ok (.i2l, 1) := by decide +kernel
theorem dX4_sell_83 : decode cX4_sell 83 = .ok (.lmul, 1) := by decide +kernel
theorem dX4_sell_84 : decode cX4_sell 84 = .ok (.aload_n 0, 1) := by decide +kernel
theorem dX4_sell_85 : decode cX4_sell 85 = .ok (.getfield 13, 3) := by decide +kernel
theorem dX4_sell_88 : decode cX4_sell 88 = .ok (.iload_n 3, 1) := by decide +kernel
theorem dX4_sell_89 : decode cX4_sell 89 = .ok (.invokestatic 161, 3) := by decide +kernel
theorem dX4_sell_92 : decode cX4_sell 92 = .ok (.i2l, 1) := by decide +kernel
theorem dX4_sell_93 : decode cX4_sell 93 = .ok (.iload 5, 2) := by decide +kernel
theorem dX4_sell_95 : decode cX4_sell 95 = .ok (.i2l, 1) := by decide +kernel
theorem dX4_sell_96 : decode cX4_sell 96 = .ok (.lmul, 1) := by decide +kernel
theorem dX4_sell_97 : decode cX4_sell 97 = .ok (.lcmp, 1) := by decide +kernel
theorem dX4_sell_98 : decode cX4_sell 98 = .ok (.ifCond .ge 6, 3) := by decide +kernel
theorem dX4_sell_101 : decode cX4_sell 101 = .ok (.iload 4, 2) := by decide +kernel
theorem dX4_sell_103 : decode cX4_sell 103 = .ok (.istore_n 3, 1) := by decide +kernel
theorem dX4_sell_104 : decode cX4_sell 104 = .ok (.iinc 4 1, 3) := by decide +kernel
theorem dX4_sell_107 : decode cX4_sell 107 = .ok (.goto (-81), 3) := by decide +kernel
theorem dX4_sell_110 : decode cX4_sell 110 = .ok (.iload_n 3, 1) := by decide +kernel
theorem dX4_sell_111 : decode cX4_sell 111 = .ok (.ireturn, 1) := by decide +kernel
theorem dX4_byTreaty_0 : decode cX4_byTreaty 0 = .ok (.aload_n 0, 1) := by decide +kernel
theorem dX4_byTreaty_1 : decode cX4_byTreaty 1 = .ok (.getfield 9, 3) := by decide +kernel
theorem dX4_byTreaty_4 : decode cX4_byTreaty 4 = .ok (.aload_n 0, 1) := by decide +kernel
theorem dX4_byTreaty_5 : decode cX4_byTreaty 5 = .ok (.getfield 13, 3) := by decide +kernel
theorem dX4_byTreaty_8 : decode cX4_byTreaty 8 = .ok (.invokestatic 78, 3) := by decide +kernel
theorem dX4_byTreaty_11 : decode cX4_byTreaty 11 = .ok (.aload_n 0, 1) := by decide +kernel
theorem dX4_byTreaty_12 : decode cX4_byTreaty 12 = .ok (.getfield 13, 3) := by decide +kernel
theorem dX4_byTreaty_15 : decode cX4_byTreaty 15 = .ok (.iconst 3, 1) := by decide +kernel
theorem dX4_byTreaty_16 : decode cX4_byTreaty 16 = .ok (.iload_n 2, 1) := by decide +kernel
theorem dX4_byTreaty_17 : decode cX4_byTreaty 17 = .ok (.ifCond .ne 7, 3) := by decide +kernel
theorem dX4_byTreaty_20 : decode cX4_byTreaty 20 = .ok (.iconst 2, 1) := by decide +kernel
theorem dX4_byTreaty_21 : decode cX4_byTreaty 21 = .ok (.goto 5, 3) := by decide +kernel
theorem dX4_byTreaty_24 : decode cX4_byTreaty 24 = .ok (.bipush 8, 2) := by decide +kernel
theorem dX4_byTreaty_26 : decode cX4_byTreaty 26 = .ok (.iastore, 1) := by decide +kernel
theorem dX4_byTreaty_27 : decode cX4_byTreaty 27 = .ok (.aload_n 0, 1) := by decide +kernel
theorem dX4_byTreaty_28 : decode cX4_byTreaty 28 = .ok (.getfield 13, 3) := by decide +kernel
theorem dX4_byTreaty_31 : decode cX4_byTreaty 31 = .ok (.iconst 2, 1) := by decide +kernel
theorem dX4_byTreaty_32 : decode cX4_byTreaty 32 = .ok (.iload_n 3, 1) := by decide +kernel
theorem dX4_byTreaty_33 : decode cX4_byTreaty 33 = .ok (.ifCond .ne 12, 3) := by decide +kernel
theorem dX4_byTreaty_36 : decode cX4_byTreaty 36 = .ok (.aload_n 0, 1) := by decide +kernel
theorem dX4_byTreaty_37 : decode cX4_byTreaty 37 = .ok (.getfield 9, 3) := by decide +kernel
theorem dX4_byTreaty_40 : decode cX4_byTreaty 40 = .ok (.iconst 2, 1) := by decide +kernel
theorem dX4_byTreaty_41 : decode cX4_byTreaty 41 = .ok (.iaload, 1) := by decide +kernel
theorem dX4_byTreaty_42 : decode cX4_byTreaty 42 = .ok (.goto 11, 3) := by decide +kernel
theorem dX4_byTreaty_45 : decode cX4_byTreaty 45 = .ok (.aload_n 0, 1) := by decide +kernel
theorem dX4_byTreaty_46 : decode cX4_byTreaty 46 = .ok (.getfield 9, 3) := by decide +kernel
theorem dX4_byTreaty_49 : decode cX4_byTreaty 49 = .ok (.iconst 2, 1) := by decide +kernel
theorem dX4_byTreaty_50 : decode cX4_byTreaty 50 = .ok (.iaload, 1) := by decide +kernel
theorem dX4_byTreaty_51 : decode cX4_byTreaty 51 = .ok (.iconst 2, 1) := by decide +kernel
theorem dX4_byTreaty_52 : decode cX4_byTreaty 52 = .ok (.idiv, 1) := by decide +kernel
theorem dX4_byTreaty_53 : decode cX4_byTreaty 53 = .ok (.iastore, 1) := by decide +kernel
theorem dX4_byTreaty_54 : decode cX4_byTreaty 54 = .ok (.aload_n 0, 1) := by decide +kernel
theorem dX4_byTreaty_55 : decode cX4_byTreaty 55 = .ok (.aload_n 0, 1) := by decide +kernel
theorem dX4_byTreaty_56 : decode cX4_byTreaty 56 = .ok (.getfield 13, 3) := by decide +kernel
theorem dX4_byTreaty_59 : decode cX4_byTreaty 59 = .ok (.iload_n 1, 1) := by decide +kernel
theorem dX4_byTreaty_60 : decode cX4_byTreaty 60 = .ok (.invokevirtual 82, 3) := by decide +kernel
theorem dX4_byTreaty_63 : decode cX4_byTreaty 63 = .ok (.aload_n 0, 1) := by decide +kernel
theorem dX4_byTreaty_64 : decode cX4_byTreaty 64 = .ok (.getfield 13, 3) := by decide +kernel
theorem dX4_byTreaty_67 : decode cX4_byTreaty 67 = .ok (.iload 4, 2) := by decide +kernel
theorem dX4_byTreaty_69 : decode cX4_byTreaty 69 = .ok (.invokestatic 135, 3) := by decide +kernel
theorem dX4_byTreaty_72 : decode cX4_byTreaty 72 = .ok (.ireturn, 1) := by decide +kernel
theorem dX4_treaty_0 : decode cX4_treaty 0 = .ok (.iload_n 1, 1) := by decide +kernel
theorem dX4_treaty_1 : decode cX4_treaty 1 = .ok (.invokestatic 128, 3) := by decide +kernel
theorem dX4_treaty_4 : decode cX4_treaty 4 = .ok (.istore_n 2, 1) := by decide +kernel
theorem dX4_treaty_5 : decode cX4_treaty 5 = .ok (.iload_n 2, 1) := by decide +kernel
theorem dX4_treaty_6 : decode cX4_treaty 6 = .ok (.ifCond .eq 9, 3) := by decide +kernel
theorem dX4_treaty_9 : decode cX4_treaty 9 = .ok (.aload_n 0, 1) := by decide +kernel
theorem dX4_treaty_10 : decode cX4_treaty 10 = .ok (.iload_n 2, 1) := by decide +kernel
theorem dX4_treaty_11 : decode cX4_treaty 11 = .ok (.invokevirtual 36, 3) := by decide +kernel
theorem dX4_treaty_14 : decode cX4_treaty 14 = .ok (.ireturn, 1) := by decide +kernel
theorem dX4_treaty_15 : decode cX4_treaty 15 = .ok (.iconst 0, 1) := by decide +kernel
theorem dX4_treaty_16 : decode cX4_treaty 16 = .ok (.istore_n 3, 1) := by decide +kernel
theorem dX4_treaty_17 : decode cX4_treaty 17 = .ok (.iload_n 3, 1) := by decide +kernel
theorem dX4_treaty_18 : decode cX4_treaty 18 = .ok (.iconst 4, 1) := by decide +kernel
theorem dX4_treaty_19 : decode cX4_treaty 19 = .ok (.if_icmp .ge 90, 3) := by decide +kernel
theorem dX4_treaty_22 : decode cX4_treaty 22 = .ok (.iload_n 3, 1) := by decide +kernel
theorem dX4_treaty_23 : decode cX4_treaty 23 = .ok (.iconst 2, 1) := by decide +kernel
theorem dX4_treaty_24 : decode cX4_treaty 24 = .ok (.idiv, 1) := by decide +kernel
theorem dX4_treaty_25 : decode cX4_treaty 25 = .ok (.istore 4, 2) := by decide +kernel
theorem dX4_treaty_27 : decode cX4_treaty 27 = .ok (.iload_n 3, 1) := by decide +kernel
theorem dX4_treaty_28 : decode cX4_treaty 28 = .ok (.iconst 2, 1) := by decide +kernel
theorem dX4_treaty_29 : decode cX4_treaty 29 = .ok (.irem, 1) := by decide +kernel
theorem dX4_treaty_30 : decode cX4_treaty 30 = .ok (.istore 5, 2) := by decide +kernel
theorem dX4_treaty_32 : decode cX4_treaty 32 = .ok (.aload_n 0, 1) := by decide +kernel
theorem dX4_treaty_33 : decode cX4_treaty 33 = .ok (.iload_n 1, 1) := by decide +kernel
theorem dX4_treaty_34 : decode cX4_treaty 34 = .ok (.iload 4, 2) := by decide +kernel
theorem dX4_treaty_36 : decode cX4_treaty 36 = .ok (.iload 5, 2) := by decide +kernel
theorem dX4_treaty_38 : decode cX4_treaty 38 = .ok (.iconst 2, 1) := by decide +kernel
theorem dX4_treaty_39 : decode cX4_treaty 39 = .ok (.invokevirtual 164, 3) := by decide +kernel
theorem dX4_treaty_42 : decode cX4_treaty 42 = .ok (.aload_n 0, 1) := by decide +kernel
theorem dX4_treaty_43 : decode cX4_treaty 43 = .ok (.iload_n 1, 1) := by decide +kernel
theorem dX4_treaty_44 : decode cX4_treaty 44 = .ok (.iconst 1, 1) := by decide +kernel
theorem dX4_treaty_45 : decode cX4_treaty 45 = .ok (.iload 4, 2) := by decide +kernel
theorem dX4_treaty_47 : decode cX4_treaty 47 = .ok (.isub, 1) := by decide +kernel
theorem dX4_treaty_48 : decode cX4_treaty 48 = .ok (.iload 5, 2) := by decide +kernel
theorem dX4_treaty_50 : decode cX4_treaty 50 = .ok (.iconst 2, 1) := by decide +kernel
theorem dX4_treaty_51 : decode cX4_treaty 51 = .ok (.invokevirtual 164, 3) := by decide +kernel
theorem dX4_treaty_54 : decode cX4_treaty 54 = .ok (.if_icmp .lt 7, 3) := by decide +kernel
theorem dX4_treaty_57 : decode cX4_treaty 57 = .ok (.iconst 1, 1) := by decide +kernel
theorem dX4_treaty_58 : decode cX4_treaty 58 = .ok (.goto 4, 3) := by decide +kernel
theorem dX4_treaty_61 : decode cX4_treaty 61 = .ok (.iconst 0, 1) := by decide +kernel
theorem dX4_treaty_62 : decode cX4_treaty 62 = .ok (.istore 6, 2) := by decide +kernel
theorem dX4_treaty_64 : decode cX4_treaty 64 = .ok (.iload 6, 2) := by decide +kernel
theorem dX4_treaty_66 : decode cX4_treaty 66 = .ok (.ifCond .eq 37, 3) := by decide +kernel
theorem dX4_treaty_69 : decode cX4_treaty 69 = .ok (.aload_n 0, 1) := by decide +kernel
theorem dX4_treaty_70 : decode cX4_treaty 70 = .ok (.iload_n 1, 1) := by decide +kernel
theorem dX4_treaty_71 : decode cX4_treaty 71 = .ok (.iload 4, 2) := by decide +kernel
theorem dX4_treaty_73 : decode cX4_treaty 73 = .ok (.iload 5, 2) := by decide +kernel
theorem dX4_treaty_75 : decode cX4_treaty 75 = .ok (.iconst 5, 1) := by decide +kernel
theorem dX4_treaty_76 : decode cX4_treaty 76 = .ok (.invokevirtual 164, 3) := by decide +kernel
theorem dX4_treaty_79 : decode cX4_treaty 79 = .ok (.aload_n 0, 1) := by decide +kernel
theorem dX4_treaty_80 : decode cX4_treaty 80 = .ok (.iload_n 1, 1) := by decide +kernel
theorem dX4_treaty_81 : decode cX4_treaty 81 = .ok (.iload 4, 2) := by decide +kernel
theorem dX4_treaty_83 : decode cX4_treaty 83 = .ok (.iconst 1, 1) := by decide +kernel
theorem dX4_treaty_84 : decode cX4_treaty 84 = .ok (.iload 5, 2) := by decide +kernel
theorem dX4_treaty_86 : decode cX4_treaty 86 = .ok (.isub, 1) := by decide +kernel
theorem dX4_treaty_87 : decode cX4_treaty 87 = .ok (.iconst 5, 1) := by decide +kernel
theorem dX4_treaty_88 : decode cX4_treaty 88 = .ok (.invokevirtual 164, 3) := by decide +kernel
theorem dX4_treaty_91 : decode cX4_treaty 91 = .ok (.if_icmp .lt 12, 3) := by decide +kernel
theorem dX4_treaty_94 : decode cX4_treaty 94 = .ok (.bipush 10, 2) := by decide +kernel
theorem dX4_treaty_96 : decode cX4_treaty 96 = .ok (.iload 4, 2) := by decide +kernel
theorem dX4_treaty_98 : decode cX4_treaty 98 = .ok (.imul, 1) := by decide +kernel
theorem dX4_treaty_99 : decode cX4_treaty 99 = .ok (.iload 5, 2) := by decide +kernel
theorem dX4_treaty_101 : decode cX4_treaty 101 = .ok (.iadd, 1) := by decide +kernel
theorem dX4_treaty_102 : decode cX4_treaty 102 = .ok (.ireturn, 1) := by decide +kernel
theorem dX4_treaty_103 : decode cX4_treaty 103 = .ok (.iinc 3 1, 3) := by decide +kernel
theorem dX4_treaty_106 : decode cX4_treaty 106 = .ok (.goto (-89), 3) := by decide +kernel
theorem dX4_treaty_109 : decode cX4_treaty 109 = .ok (.bipush (-9), 2) := by decide +kernel
theorem dX4_treaty_111 : decode cX4_treaty 111 = .ok (.ireturn, 1) := by decide +kernel
theorem dX4_bestSet_0 : decode cX4_bestSet 0 = .ok (.iload_n 1, 1) := by decide +kernel
theorem dX4_bestSet_1 : decode cX4_bestSet 1 = .ok (.invokestatic 128, 3) := by decide +kernel
theorem dX4_bestSet_4 : decode cX4_bestSet 4 = .ok (.istore_n 3, 1) := by decide +kernel
theorem dX4_bestSet_5 : decode cX4_bestSet 5 = .ok (.iload_n 3, 1) := by decide +kernel
theorem dX4_bestSet_6 : decode cX4_bestSet 6 = .ok (.ifCond .ne 15, 3) := by decide +kernel
theorem dX4_bestSet_9 : decode cX4_bestSet 9 = .ok (.iload_n 2, 1) := by decide +kernel
theorem dX4_bestSet_10 : decode cX4_bestSet 10 = .ok (.iconst 0, 1) := by decide +kernel
theorem dX4_bestSet_11 : decode cX4_bestSet 11 = .ok (.iconst 1, 1) := by decide +kernel
theorem dX4_bestSet_12 : decode cX4_bestSet 12 = .ok (.invokestatic 40, 3) := by decide +kernel
theorem dX4_bestSet_15 : decode cX4_bestSet 15 = .ok (.ifCond .ne 6, 3) := by decide +kernel
theorem dX4_bestSet_18 : decode cX4_bestSet 18 = .ok (.bipush (-2), 2) := by decide +kernel
theorem dX4_bestSet_20 : decode cX4_bestSet 20 = .ok (.istore_n 3, 1) := by decide +kernel
theorem dX4_bestSet_21 : decode cX4_bestSet 21 = .ok (.iload_n 3, 1) := by decide +kernel
theorem dX4_bestSet_22 : decode cX4_bestSet 22 = .ok (.ifCond .eq 9, 3) := by decide +kernel
theorem dX4_bestSet_25 : decode cX4_bestSet 25 = .ok (.aload_n 0, 1) := by decide +kernel
theorem dX4_bestSet_26 : decode cX4_bestSet 26 = .ok (.iload_n 3, 1) := by decide +kernel
theorem dX4_bestSet_27 : decode cX4_bestSet 27 = .ok (.invokevirtual 36, 3) := by decide +kernel
theorem dX4_bestSet_30 : decode cX4_bestSet 30 = .ok (.ireturn, 1) := by decide +kernel
theorem dX4_bestSet_31 : decode cX4_bestSet 31 = .ok (.iload_n 2, 1) := by decide +kernel
theorem dX4_bestSet_32 : decode cX4_bestSet 32 = .ok (.istore 4, 2) := by decide +kernel
theorem dX4_bestSet_34 : decode cX4_bestSet 34 = .ok (.ldc2_w 168, 3) := by decide +kernel
theorem dX4_bestSet_37 : decode cX4_bestSet 37 = .ok (.lstore 5, 2) := by decide +kernel
theorem dX4_bestSet_39 : decode cX4_bestSet 39 = .ok (.lconst 1, 1) := by decide +kernel
theorem dX4_bestSet_40 : decode cX4_bestSet 40 = .ok (.lstore 7, 2) := by decide +kernel
theorem dX4_bestSet_42 : decode cX4_bestSet 42 = .ok (.iload_n 2, 1) := by decide +kernel
theorem dX4_bestSet_43 : decode cX4_bestSet 43 = .ok (.istore 9, 2) := by decide +kernel
theorem dX4_bestSet_45 : decode cX4_bestSet 45 = .ok (.iload 9, 2) := by decide +kernel
theorem dX4_bestSet_47 : decode cX4_bestSet 47 = .ok (.iload_n 2, 1) := by decide +kernel
theorem dX4_bestSet_48 : decode cX4_bestSet 48 = .ok (.ifCond .ne 8, 3) := by decide +kernel
theorem dX4_bestSet_51 : decode cX4_bestSet 51 = .ok (.bipush 40, 2) := by decide +kernel
theorem dX4_bestSet_53 : decode cX4_bestSet 53 = .ok (.goto 5, 3) := by decide +kernel
theorem dX4_bestSet_56 : decode cX4_bestSet 56 = .ok (.bipush 9, 2) := by decide +kernel
theorem dX4_bestSet_58 : decode cX4_bestSet 58 = .ok (.if_icmp .gt 103, 3) := by decide +kernel
theorem dX4_bestSet_61 : decode cX4_bestSet 61 = .ok (.aload_n 0, 1) := by decide +kernel
theorem dX4_bestSet_62 : decode cX4_bestSet 62 = .ok (.getfield 9, 3) := by decide +kernel
theorem dX4_bestSet_65 : decode cX4_bestSet 65 = .ok (.aload_n 0, 1) := by decide +kernel
theorem dX4_bestSet_66 : decode cX4_bestSet 66 = .ok (.getfield 13, 3) := by decide +kernel
theorem dX4_bestSet_69 : decode cX4_bestSet 69 = .ok (.invokestatic 78, 3) := by decide +kernel
theorem dX4_bestSet_72 : decode cX4_bestSet 72 = .ok (.aload_n 0, 1) := by decide +kernel
theorem dX4_bestSet_73 : decode cX4_bestSet 73 = .ok (.getfield 13, 3) := by decide +kernel
theorem dX4_bestSet_76 : decode cX4_bestSet 76 = .ok (.iconst 2, 1) := by decide +kernel
theorem dX4_bestSet_77 : decode cX4_bestSet 77 = .ok (.iload_n 2, 1) := by decide +kernel
theorem dX4_bestSet_78 : decode cX4_bestSet 78 = .ok (.iadd, 1) := by decide +kernel
theorem dX4_bestSet_79 : decode cX4_bestSet 79 = .ok (.iload 9, 2) := by decide +kernel
theorem dX4_bestSet_81 : decode cX4_bestSet 81 = .ok (.iastore, 1) := by decide +kernel
theorem dX4_bestSet_82 : decode cX4_bestSet 82 = .ok (.aload_n 0, 1) := by decide +kernel
theorem dX4_bestSet_83 : decode cX4_bestSet 83 = .ok (.aload_n 0, 1) := by decide +kernel
theorem dX4_bestSet_84 : decode cX4_bestSet 84 = .ok (.getfield 13, 3) := by decide +kernel
theorem dX4_bestSet_87 : decode cX4_bestSet 87 = .ok (.iload_n 1, 1) := by decide +kernel
theorem dX4_bestSet_88 : decode cX4_bestSet 88 = .ok (.invokevirtual 82, 3) := by decide +kernel
theorem dX4_bestSet_91 : decode cX4_bestSet 91 = .ok (.aload_n 0, 1) := by decide +kernel
theorem dX4_bestSet_92 : decode cX4_bestSet 92 = .ok (.getfield 13, 3) := by decide +kernel
theorem dX4_bestSet_95 : decode cX4_bestSet 95 = .ok (.iconst 5, 1) := by decide +kernel
theorem dX4_bestSet_96 : decode cX4_bestSet 96 = .ok (.invokestatic 135, 3) := by decide +kernel
theorem dX4_bestSet_99 : decode cX4_bestSet 99 = .ok (.i2l, 1) := by decide +kernel
theorem dX4_bestSet_100 : decode cX4_bestSet 100 = .ok (.lstore 10, 2) := by decide +kernel
theorem dX4_bestSet_102 : decode cX4_bestSet 102 = .ok (.lload 10, 2) := by decide +kernel
theorem dX4_bestSet_104 : decode cX4_bestSet 104 = .ok (.aload_n 0, 1) := by decide +kernel
theorem dX4_bestSet_105 : decode cX4_bestSet 105 = .ok (.getfield 13, 3) := by decide +kernel
theorem dX4_bestSet_108 : decode cX4_bestSet 108 = .ok (.iconst 2, 1) := by decide +kernel
theorem dX4_bestSet_109 : decode cX4_bestSet 109 = .ok (.invokestatic 135, 3) := by decide +kernel
theorem dX4_bestSet_112 : decode cX4_bestSet 112 = .ok (.i2l, 1) := by decide +kernel
theorem dX4_bestSet_113 : decode cX4_bestSet 113 = .ok (.ladd, 1) := by decide +kernel
theorem dX4_bestSet_114 : decode cX4_bestSet 114 = .ok (.lstore 12, 2) := by decide +kernel
theorem dX4_bestSet_116 : decode cX4_bestSet 116 = .ok (.lload 12, 2) := by decide +kernel
theorem dX4_bestSet_118 : decode cX4_bestSet 118 = .ok (.lconst 0, 1) := by decide +kernel
theorem dX4_bestSet_119 : decode cX4_bestSet 119 = .ok (.lcmp, 1) := by decide +kernel
theorem dX4_bestSet_120 : decode cX4_bestSet 120 = .ok (.ifCond .ne 6, 3) := by decide +kernel
theorem dX4_bestSet_123 : decode cX4_bestSet 123 = .ok (.lconst 1, 1) := by decide +kernel
theorem dX4_bestSet_124 : decode cX4_bestSet 124 = .ok (.lstore 12, 2) := by decide +kernel
theorem dX4_bestSet_126 : decode cX4_bestSet 126 = .ok (.lload 10, 2) := by decide +kernel
theorem dX4_bestSet_128 : decode cX4_bestSet 128 = .ok (.lload 7, 2) := by decide +kernel
theorem dX4_bestSet_130 : decode cX4_bestSet 130 = .ok (.lmul, 1) := by decide +kernel
theorem dX4_bestSet_131 : decode cX4_bestSet 131 = .ok (.lload 5, 2) := by decide +kernel
theorem dX4_bestSet_133 : decode cX4_bestSet 133 = .ok (.lload 12, 2) := by decide +kernel
theorem dX4_bestSet_135 : decode cX4_bestSet 135 = .ok (.lmul, 1) := by decide +kernel
theorem dX4_bestSet_136 : decode cX4_bestSet 136 = .ok (.lcmp, 1) := by decide +kernel
theorem dX4_bestSet_137 : decode cX4_bestSet 137 = .ok (.ifCond .gt 6, 3) := by decide +kernel
theorem dX4_bestSet_140 : decode cX4_bestSet 140 = .ok (.goto 15, 3) := by decide +kernel
theorem dX4_bestSet_143 : decode cX4_bestSet 143 = .ok (.iload 9, 2) := by decide +kernel
theorem dX4_bestSet_145 : decode cX4_bestSet 145 = .ok (.istore 4, 2) := by decide +kernel
theorem dX4_bestSet_147 : decode cX4_bestSet 147 = .ok (.lload 10, 2) := by decide +kernel
theorem dX4_bestSet_149 : decode cX4_bestSet 149 = .ok (.lstore 5, 2) := by decide +kernel
theorem dX4_bestSet_151 : decode cX4_bestSet 151 = .ok (.lload 12, 2) := by decide +kernel
theorem dX4_bestSet_153 : decode cX4_bestSet 153 = .ok (.lstore 7, 2) := by decide +kernel
theorem dX4_bestSet_155 : decode cX4_bestSet 155 = .ok (.iinc 9 1, 3) := by decide +kernel
theorem dX4_bestSet_158 : decode cX4_bestSet 158 = .ok (.goto (-113), 3) := by decide +kernel
theorem dX4_bestSet_161 : decode cX4_bestSet 161 = .ok (.iload 4, 2) := by decide +kernel
theorem dX4_bestSet_163 : decode cX4_bestSet 163 = .ok (.ireturn, 1) := by decide +kernel
theorem dX4_iron_0 : decode cX4_iron 0 = .ok (.iload_n 1, 1) := by decide +kernel
theorem dX4_iron_1 : decode cX4_iron 1 = .ok (.invokestatic 128, 3) := by decide +kernel
theorem dX4_iron_4 : decode cX4_iron 4 = .ok (.istore_n 2, 1) := by decide +kernel
theorem dX4_iron_5 : decode cX4_iron 5 = .ok (.iload_n 2, 1) := by decide +kernel
theorem dX4_iron_6 : decode cX4_iron 6 = .ok (.ifCond .eq 9, 3) := by decide +kernel
theorem dX4_iron_9 : decode cX4_iron 9 = .ok (.aload_n 0, 1) := by decide +kernel
theorem dX4_iron_10 : decode cX4_iron 10 = .ok (.iload_n 2, 1) := by decide +kernel
theorem dX4_iron_11 : decode cX4_iron 11 = .ok (.invokevirtual 36, 3) := by decide +kernel
theorem dX4_iron_14 : decode cX4_iron 14 = .ok (.ireturn, 1) := by decide +kernel
theorem dX4_iron_15 : decode cX4_iron 15 = .ok (.aload_n 0, 1) := by decide +kernel
theorem dX4_iron_16 : decode cX4_iron 16 = .ok (.iload_n 1, 1) := by decide +kernel
theorem dX4_iron_17 : decode cX4_iron 17 = .ok (.invokevirtual 131, 3) := by decide +kernel
theorem dX4_iron_20 : decode cX4_iron 20 = .ok (.aload_n 0, 1) := by decide +kernel
theorem dX4_iron_21 : decode cX4_iron 21 = .ok (.getfield 13, 3) := by decide +kernel
theorem dX4_iron_24 : decode cX4_iron 24 = .ok (.iconst 2, 1) := by decide +kernel
theorem dX4_iron_25 : decode cX4_iron 25 = .ok (.invokestatic 135, 3) := by decide +kernel
theorem dX4_iron_28 : decode cX4_iron 28 = .ok (.istore_n 3, 1) := by decide +kernel
theorem dX4_iron_29 : decode cX4_iron 29 = .ok (.bipush (-9), 2) := by decide +kernel
theorem dX4_iron_31 : decode cX4_iron 31 = .ok (.istore 4, 2) := by decide +kernel
theorem dX4_iron_33 : decode cX4_iron 33 = .ok (.iconst 0, 1) := by decide +kernel
theorem dX4_iron_34 : decode cX4_iron 34 = .ok (.istore 5, 2) := by decide +kernel
theorem dX4_iron_36 : decode cX4_iron 36 = .ok (.iload 5, 2) := by decide +kernel
theorem dX4_iron_38 : decode cX4_iron 38 = .ok (.aload_n 0, 1) := by decide +kernel
theorem dX4_iron_39 : decode cX4_iron 39 = .ok (.getfield 9, 3) := by decide +kernel
theorem dX4_iron_42 : decode cX4_iron 42 = .ok (.iconst 0, 1) := by decide +kernel
theorem dX4_iron_43 : decode cX4_iron 43 = .ok (.iaload, 1) := by decide +kernel
theorem dX4_iron_44 : decode cX4_iron 44 = .ok (.if_icmp .ge 67, 3) := by decide +kernel
theorem dX4_iron_47 : decode cX4_iron 47 = .ok (.aload_n 0, 1) := by decide +kernel
theorem dX4_iron_48 : decode cX4_iron 48 = .ok (.getfield 9, 3) := by decide +kernel
theorem dX4_iron_51 : decode cX4_iron 51 = .ok (.aload_n 0, 1) := by decide +kernel
theorem dX4_iron_52 : decode cX4_iron 52 = .ok (.getfield 13, 3) := by decide +kernel
theorem dX4_iron_55 : decode cX4_iron 55 = .ok (.invokestatic 78, 3) := by decide +kernel
theorem dX4_iron_58 : decode cX4_iron 58 = .ok (.aload_n 0, 1) := by decide +kernel
theorem dX4_iron_59 : decode cX4_iron 59 = .ok (.getfield 13, 3) := by decide +kernel
theorem dX4_iron_62 : decode cX4_iron 62 = .ok (.iload 5, 2) := by decide +kernel
theorem dX4_iron_64 : decode cX4_iron 64 = .ok (.iconst 0, 1) := by decide +kernel
theorem dX4_iron_65 : decode cX4_iron 65 = .ok (.invokestatic 44, 3) := by decide +kernel
theorem dX4_iron_68 : decode cX4_iron 68 = .ok (.iconst 3, 1) := by decide +kernel
theorem dX4_iron_69 : decode cX4_iron 69 = .ok (.iastore, 1) := by decide +kernel
theorem dX4_iron_70 : decode cX4_iron 70 = .ok (.aload_n 0, 1) := by decide +kernel
theorem dX4_iron_71 : decode cX4_iron 71 = .ok (.aload_n 0, 1) := by decide +kernel
theorem dX4_iron_72 : decode cX4_iron 72 = .ok (.getfield 13, 3) := by decide +kernel
theorem dX4_iron_75 : decode cX4_iron 75 = .ok (.iload_n 1, 1) := by decide +kernel
theorem dX4_iron_76 : decode cX4_iron 76 = .ok (.invokevirtual 82, 3) := by decide +kernel
theorem dX4_iron_79 : decode cX4_iron 79 = .ok (.aload_n 0, 1) := by decide +kernel
theorem dX4_iron_80 : decode cX4_iron 80 = .ok (.getfield 13, 3) := by decide +kernel
theorem dX4_iron_83 : decode cX4_iron 83 = .ok (.iconst 2, 1) := by decide +kernel
theorem dX4_iron_84 : decode cX4_iron 84 = .ok (.invokestatic 135, 3) := by decide +kernel
theorem dX4_iron_87 : decode cX4_iron 87 = .ok (.istore 6, 2) := by decide +kernel
theorem dX4_iron_89 : decode cX4_iron 89 = .ok (.iload 6, 2) := by decide +kernel
theorem dX4_iron_91 : decode cX4_iron 91 = .ok (.iload_n 3, 1) := by decide +kernel
theorem dX4_iron_92 : decode cX4_iron 92 = .ok (.if_icmp .gt 6, 3) := by decide +kernel
theorem dX4_iron_95 : decode cX4_iron 95 = .ok (.goto 10, 3) := by decide +kernel
theorem dX4_iron_98 : decode cX4_iron 98 = .ok (.iload 5, 2) := by decide +kernel
theorem dX4_iron_100 : decode cX4_iron 100 = .ok (.istore 4, 2) := by decide +kernel
theorem dX4_iron_102 : decode cX4_iron 102 = .ok (.iload 6, 2) := by decide +kernel
theorem dX4_iron_104 : decode cX4_iron 104 = .ok (.istore_n 3, 1) := by decide +kernel
theorem dX4_iron_105 : decode cX4_iron 105 = .ok (.iinc 5 1, 3) := by decide +kernel
theorem dX4_iron_108 : decode cX4_iron 108 = .ok (.goto (-72), 3) := by decide +kernel
theorem dX4_iron_111 : decode cX4_iron 111 = .ok (.iload 4, 2) := by decide +kernel
theorem dX4_iron_113 : decode cX4_iron 113 = .ok (.ireturn, 1) := by decide +kernel
theorem dX4_row_0 : decode cX4_row 0 = .ok (.iload_n 1, 1) := by decide +kernel
theorem dX4_row_1 : decode cX4_row 1 = .ok (.ifCond .ge 10, 3) := by decide +kernel
theorem dX4_row_4 : decode cX4_row 4 = .ok (.aload_n 0, 1) := by decide +kernel
theorem dX4_row_5 : decode cX4_row 5 = .ok (.bipush (-4), 2) := by decide +kernel
theorem dX4_row_7 : decode cX4_row 7 = .ok (.invokevirtual 36, 3) := by decide +kernel
theorem dX4_row_10 : decode cX4_row 10 = .ok (.ireturn, 1) := by decide +kernel
theorem dX4_row_11 : decode cX4_row 11 = .ok (.iload_n 1, 1) := by decide +kernel
theorem dX4_row_12 : decode cX4_row 12 = .ok (.bipush 99, 2) := by decide +kernel
theorem dX4_row_14 : decode cX4_row 14 = .ok (.if_icmp .gt 12, 3) := by decide +kernel
theorem dX4_row_17 : decode cX4_row 17 = .ok (.aload_n 0, 1) := by decide +kernel
theorem dX4_row_18 : decode cX4_row 18 = .ok (.getfield 170, 3) := by decide +kernel
theorem dX4_row_21 : decode cX4_row 21 = .ok (.bipush 12, 2) := by decide +kernel
theorem dX4_row_23 : decode cX4_row 23 = .ok (.if_icmp .ne 10, 3) := by decide +kernel
theorem dX4_row_26 : decode cX4_row 26 = .ok (.aload_n 0, 1) := by decide +kernel
theorem dX4_row_27 : decode cX4_row 27 = .ok (.bipush (-6), 2) := by decide +kernel
theorem dX4_row_29 : decode cX4_row 29 = .ok (.invokevirtual 36, 3) := by decide +kernel
theorem dX4_row_32 : decode cX4_row 32 = .ok (.ireturn, 1) := by decide +kernel
theorem dX4_row_33 : decode cX4_row 33 = .ok (.aload_n 0, 1) := by decide +kernel
theorem dX4_row_34 : decode cX4_row 34 = .ok (.getfield 25, 3) := by decide +kernel
theorem dX4_row_37 : decode cX4_row 37 = .ok (.aload_n 0, 1) := by decide +kernel
theorem dX4_row_38 : decode cX4_row 38 = .ok (.getfield 170, 3) := by decide +kernel
theorem dX4_row_41 : decode cX4_row 41 = .ok (.iload_n 1, 1) := by decide +kernel
theorem dX4_row_42 : decode cX4_row 42 = .ok (.iastore, 1) := by decide +kernel
theorem dX4_row_43 : decode cX4_row 43 = .ok (.aload_n 0, 1) := by decide +kernel
theorem dX4_row_44 : decode cX4_row 44 = .ok (.dup, 1) := by decide +kernel
theorem dX4_row_45 : decode cX4_row 45 = .ok (.getfield 170, 3) := by decide +kernel
theorem dX4_row_48 : decode cX4_row 48 = .ok (.iconst 1, 1) := by decide +kernel
theorem dX4_row_49 : decode cX4_row 49 = .ok (.iadd, 1) := by decide +kernel
theorem dX4_row_50 : decode cX4_row 50 = .ok (.putfield 170, 3) := by decide +kernel
theorem dX4_row_53 : decode cX4_row 53 = .ok (.aload_n 0, 1) := by decide +kernel
theorem dX4_row_54 : decode cX4_row 54 = .ok (.getfield 170, 3) := by decide +kernel
theorem dX4_row_57 : decode cX4_row 57 = .ok (.ireturn, 1) := by decide +kernel
theorem dX4_firstWrong_0 : decode cX4_firstWrong 0 = .ok (.iconst 0, 1) := by decide +kernel
theorem dX4_firstWrong_1 : decode cX4_firstWrong 1 = .ok (.istore_n 3, 1) := by decide +kernel
theorem dX4_firstWrong_2 : decode cX4_firstWrong 2 = .ok (.iload_n 3, 1) := by decide +kernel
theorem dX4_firstWrong_3 : decode cX4_firstWrong 3 = .ok (.iload_n 2, 1) := by decide +kernel
theorem dX4_firstWrong_4 : decode cX4_firstWrong 4 = .ok (.if_icmp .ge 47, 3) := by decide +kernel
theorem dX4_firstWrong_7 : decode cX4_firstWrong 7 = .ok (.iload_n 3, 1) := by decide +kernel
theorem dX4_firstWrong_8 : decode cX4_firstWrong 8 = .ok (.ifCond .le 11, 3) := by decide +kernel
theorem dX4_firstWrong_11 : decode cX4_firstWrong 11 = .ok (.aload_n 0, 1) := by decide +kernel
theorem dX4_firstWrong_12 : decode cX4_firstWrong 12 = .ok (.aload_n 0, 1) := by decide +kernel
theorem dX4_firstWrong_13 : decode cX4_firstWrong 13 = .ok (.getfield 13, 3) := by decide +kernel
theorem dX4_firstWrong_16 : decode cX4_firstWrong 16 = .ok (.invokevirtual 74, 3) := by decide +kernel
theorem dX4_firstWrong_19 : decode cX4_firstWrong 19 = .ok (.bipush 99, 2) := by decide +kernel
theorem dX4_firstWrong_21 : decode cX4_firstWrong 21 = .ok (.aload_n 0, 1) := by decide +kernel
theorem dX4_firstWrong_22 : decode cX4_firstWrong 22 = .ok (.getfield 13, 3) := by decide +kernel
theorem dX4_firstWrong_25 : decode cX4_firstWrong 25 = .ok (.iload_n 1, 1) := by decide +kernel
theorem dX4_firstWrong_26 : decode cX4_firstWrong 26 = .ok (.iconst 2, 1) := by decide +kernel
theorem dX4_firstWrong_27 : decode cX4_firstWrong 27 = .ok (.invokestatic 44, 3) := by decide +kernel
theorem dX4_firstWrong_30 : decode cX4_firstWrong 30 = .ok (.iaload, 1) := by decide +kernel
theorem dX4_firstWrong_31 : decode cX4_firstWrong 31 = .ok (.invokestatic 48, 3) := by decide +kernel
theorem dX4_firstWrong_34 : decode cX4_firstWrong 34 = .ok (.aload_n 0, 1) := by decide +kernel
theorem dX4_firstWrong_35 : decode cX4_firstWrong 35 = .ok (.getfield 25, 3) := by decide +kernel
theorem dX4_firstWrong_38 : decode cX4_firstWrong 38 = .ok (.iload_n 3, 1) := by decide +kernel
theorem dX4_firstWrong_39 : decode cX4_firstWrong 39 = .ok (.iaload, 1) := by decide +kernel
theorem dX4_firstWrong_40 : decode cX4_firstWrong 40 = .ok (.if_icmp .eq 5, 3) := by decide +kernel
theorem dX4_firstWrong_43 : decode cX4_firstWrong 43 = .ok (.iload_n 3, 1) := by decide +kernel
theorem dX4_firstWrong_44 : decode cX4_firstWrong 44 = .ok (.ireturn, 1) := by decide +kernel
theorem dX4_firstWrong_45 : decode cX4_firstWrong 45 = .ok (.iinc 3 1, 3) := by decide +kernel
theorem dX4_firstWrong_48 : decode cX4_firstWrong 48 = .ok (.goto (-46), 3) := by decide +kernel
theorem dX4_firstWrong_51 : decode cX4_firstWrong 51 = .ok (.bipush (-9), 2) := by decide +kernel
theorem dX4_firstWrong_53 : decode cX4_firstWrong 53 = .ok (.ireturn, 1) := by decide +kernel
theorem dX4_which_0 : decode cX4_which 0 = .ok (.aload_n 0, 1) := by decide +kernel
theorem dX4_which_1 : decode cX4_which 1 = .ok (.iload_n 1, 1) := by decide +kernel
theorem dX4_which_2 : decode cX4_which 2 = .ok (.invokevirtual 111, 3) := by decide +kernel
theorem dX4_which_5 : decode cX4_which 5 = .ok (.ifCond .ne 9, 3) := by decide +kernel
theorem dX4_which_8 : decode cX4_which 8 = .ok (.aload_n 0, 1) := by decide +kernel
theorem dX4_which_9 : decode cX4_which 9 = .ok (.iconst (-1), 1) := by decide +kernel
theorem dX4_which_10 : decode cX4_which 10 = .ok (.invokevirtual 36, 3) := by decide +kernel
theorem dX4_which_13 : decode cX4_which 13 = .ok (.ireturn, 1) := by decide +kernel
theorem dX4_which_14 : decode cX4_which 14 = .ok (.iload_n 2, 1) := by decide +kernel
theorem dX4_which_15 : decode cX4_which 15 = .ok (.iconst 0, 1) := by decide +kernel
theorem dX4_which_16 : decode cX4_which 16 = .ok (.iconst 1, 1) := by decide +kernel
theorem dX4_which_17 : decode cX4_which 17 = .ok (.invokestatic 40, 3) := by decide +kernel
theorem dX4_which_20 : decode cX4_which 20 = .ok (.ifCond .ne 10, 3) := by decide +kernel
theorem dX4_which_23 : decode cX4_which 23 = .ok (.aload_n 0, 1) := by decide +kernel
theorem dX4_which_24 : decode cX4_which 24 = .ok (.bipush (-2), 2) := by decide +kernel
theorem dX4_which_26 : decode cX4_which 26 = .ok (.invokevirtual 36, 3) := by decide +kernel
theorem dX4_which_29 : decode cX4_which 29 = .ok (.ireturn, 1) := by decide +kernel
theorem dX4_which_30 : decode cX4_which 30 = .ok (.iconst 0, 1) := by decide +kernel
theorem dX4_which_31 : decode cX4_which 31 = .ok (.istore_n 3, 1) := by decide +kernel
theorem dX4_which_32 : decode cX4_which 32 = .ok (.iconst 0, 1) := by decide +kernel
theorem dX4_which_33 : decode cX4_which 33 = .ok (.istore 4, 2) := by decide +kernel
theorem dX4_which_35 : decode cX4_which 35 = .ok (.iload 4, 2) := by decide +kernel
theorem dX4_which_37 : decode cX4_which 37 = .ok (.iload_n 2, 1) := by decide +kernel
theorem dX4_which_38 : decode cX4_which 38 = .ok (.ifCond .ne 8, 3) := by decide +kernel
theorem dX4_which_41 : decode cX4_which 41 = .ok (.bipush 6, 2) := by decide +kernel
theorem dX4_which_43 : decode cX4_which 43 = .ok (.goto 5, 3) := by decide +kernel
theorem dX4_which_46 : decode cX4_which 46 = .ok (.bipush 41, 2) := by decide +kernel
theorem dX4_which_48 : decode cX4_which 48 = .ok (.if_icmp .ge 74, 3) := by decide +kernel
theorem dX4_which_51 : decode cX4_which 51 = .ok (.aload_n 0, 1) := by decide +kernel
theorem dX4_which_52 : decode cX4_which 52 = .ok (.getfield 9, 3) := by decide +kernel
theorem dX4_which_55 : decode cX4_which 55 = .ok (.aload_n 0, 1) := by decide +kernel
theorem dX4_which_56 : decode cX4_which 56 = .ok (.getfield 13, 3) := by decide +kernel
theorem dX4_which_59 : decode cX4_which 59 = .ok (.invokestatic 78, 3) := by decide +kernel
theorem dX4_which_62 : decode cX4_which 62 = .ok (.iload_n 2, 1) := by decide +kernel
theorem dX4_which_63 : decode cX4_which 63 = .ok (.ifCond .ne 18, 3) := by decide +kernel
theorem dX4_which_66 : decode cX4_which 66 = .ok (.aload_n 0, 1) := by decide +kernel
theorem dX4_which_67 : decode cX4_which 67 = .ok (.getfield 13, 3) := by decide +kernel
theorem dX4_which_70 : decode cX4_which 70 = .ok (.iload_n 1, 1) := by decide +kernel
theorem dX4_which_71 : decode cX4_which 71 = .ok (.iconst 0, 1) := by decide +kernel
theorem dX4_which_72 : decode cX4_which 72 = .ok (.invokestatic 44, 3) := by decide +kernel
theorem dX4_which_75 : decode cX4_which 75 = .ok (.iload 4, 2) := by decide +kernel
theorem dX4_which_77 : decode cX4_which 77 = .ok (.iastore, 1) := by decide +kernel
theorem dX4_which_78 : decode cX4_which 78 = .ok (.goto 11, 3) := by decide +kernel
theorem dX4_which_81 : decode cX4_which 81 = .ok (.aload_n 0, 1) := by decide +kernel
theorem dX4_which_82 : decode cX4_which 82 = .ok (.getfield 13, 3) := by decide +kernel
theorem dX4_which_85 : decode cX4_which 85 = .ok (.iconst 2, 1) := by decide +kernel
theorem dX4_which_86 : decode cX4_which 86 = .ok (.iload 4, 2) := by decide +kernel
theorem dX4_which_88 : decode cX4_which 88 = .ok (.iastore, 1) := by decide +kernel
theorem dX4_which_89 : decode cX4_which 89 = .ok (.aload_n 0, 1) := by decide +kernel
theorem dX4_which_90 : decode cX4_which 90 = .ok (.iload_n 1, 1) := by decide +kernel
theorem dX4_which_91 : decode cX4_which 91 = .ok (.aload_n 0, 1) := by decide +kernel
theorem dX4_which_92 : decode cX4_which 92 = .ok (.getfield 170, 3) := by decide +kernel
theorem dX4_which_95 : decode cX4_which 95 = .ok (.invokevirtual 173, 3) := by decide +kernel
theorem dX4_which_98 : decode cX4_which 98 = .ok (.ifCond .ge 18, 3) := by decide +kernel
theorem dX4_which_101 : decode cX4_which 101 = .ok (.iload_n 3, 1) := by decide +kernel
theorem dX4_which_102 : decode cX4_which 102 = .ok (.iload_n 2, 1) := by decide +kernel
theorem dX4_which_103 : decode cX4_which 103 = .ok (.ifCond .ne 10, 3) := by decide +kernel
theorem dX4_which_106 : decode cX4_which 106 = .ok (.iconst 1, 1) := by decide +kernel
theorem dX4_which_107 : decode cX4_which 107 = .ok (.iload 4, 2) := by decide +kernel
theorem dX4_which_109 : decode cX4_which 109 = .ok (.ishl, 1) := by decide +kernel
theorem dX4_which_110 : decode cX4_which 110 = .ok (.goto 4, 3) := by decide +kernel
theorem dX4_which_113 : decode cX4_which 113 = .ok (.iconst 1, 1) := by decide +kernel
theorem dX4_which_114 : decode cX4_which 114 = .ok (.iadd, 1) := by decide +kernel
theorem dX4_which_115 : decode cX4_which 115 = .ok (.istore_n 3, 1) := by decide +kernel
theorem dX4_which_116 : decode cX4_which 116 = .ok (.iinc 4 1, 3) := by decide +kernel
theorem dX4_which_119 : decode cX4_which 119 = .ok (.goto (-84), 3) := by decide +kernel
theorem dX4_which_122 : decode cX4_which 122 = .ok (.iload_n 3, 1) := by decide +kernel
theorem dX4_which_123 : decode cX4_which 123 = .ok (.ireturn, 1) := by decide +kernel
theorem dX4_judge_0 : decode cX4_judge 0 = .ok (.aload_n 0, 1) := by decide +kernel
theorem dX4_judge_1 : decode cX4_judge 1 = .ok (.iload_n 1, 1) := by decide +kernel
theorem dX4_judge_2 : decode cX4_judge 2 = .ok (.invokevirtual 111, 3) := by decide +kernel
theorem dX4_judge_5 : decode cX4_judge 5 = .ok (.ifCond .ne 9, 3) := by decide +kernel
theorem dX4_judge_8 : decode cX4_judge 8 = .ok (.aload_n 0, 1) := by decide +kernel
theorem dX4_judge_9 : decode cX4_judge 9 = .ok (.iconst (-1), 1) := by decide +kernel
theorem dX4_judge_10 : decode cX4_judge 10 = .ok (.invokevirtual 36, 3) := by decide +kernel
theorem dX4_judge_13 : decode cX4_judge 13 = .ok (.ireturn, 1) := by decide +kernel
theorem dX4_judge_14 : decode cX4_judge 14 = .ok (.aload_n 0, 1) := by decide +kernel
theorem dX4_judge_15 : decode cX4_judge 15 = .ok (.getfield 170, 3) := by decide +kernel
theorem dX4_judge_18 : decode cX4_judge 18 = .ok (.istore_n 2, 1) := by decide +kernel
theorem dX4_judge_19 : decode cX4_judge 19 = .ok (.aload_n 0, 1) := by decide +kernel
theorem dX4_judge_20 : decode cX4_judge 20 = .ok (.iconst 0, 1) := by decide +kernel
theorem dX4_judge_21 : decode cX4_judge 21 = .ok (.putfield 170, 3) := by decide +kernel
theorem dX4_judge_24 : decode cX4_judge 24 = .ok (.aload_n 0, 1) := by decide +kernel
theorem dX4_judge_25 : decode cX4_judge 25 = .ok (.getfield 9, 3) := by decide +kernel
theorem dX4_judge_28 : decode cX4_judge 28 = .ok (.aload_n 0, 1) := by decide +kernel
theorem dX4_judge_29 : decode cX4_judge 29 = .ok (.getfield 13, 3) := by decide +kernel
theorem dX4_judge_32 : decode cX4_judge 32 = .ok (.invokestatic 78, 3) := by decide +kernel
theorem dX4_judge_35 : decode cX4_judge 35 = .ok (.aload_n 0, 1) := by decide +kernel
theorem dX4_judge_36 : decode cX4_judge 36 = .ok (.iload_n 1, 1) := by decide +kernel
theorem dX4_judge_37 : decode cX4_judge 37 = .ok (.iload_n 2, 1) := by decide +kernel
theorem dX4_judge_38 : decode cX4_judge 38 = .ok (.invokevirtual 173, 3) := by decide +kernel
theorem dX4_judge_41 : decode cX4_judge 41 = .ok (.ireturn, 1) := by decide +kernel
theorem dX4_chance_0 : decode cX4_chance 0 = .ok (.aload_n 0, 1) := by decide +kernel
theorem dX4_chance_1 : decode cX4_chance 1 = .ok (.iload_n 1, 1) := by decide +kernel
theorem dX4_chance_2 : decode cX4_chance 2 = .ok (.invokevirtual 111, 3) := by decide +kernel
theorem dX4_chance_5 : decode cX4_chance 5 = .ok (.ifCond .ne 9, 3) := by decide +kernel
theorem dX4_chance_8 : decode cX4_chance 8 = .ok (.aload_n 0, 1) := by decide +kernel
theorem dX4_chance_9 : decode cX4_chance 9 = .ok (.iconst (-1), 1) := by decide +kernel
theorem dX4_chance_10 : decode cX4_chance 10 = .ok (.invokevirtual 142, 3) := by decide +kernel
theorem dX4_chance_13 : decode cX4_chance 13 = .ok (.lreturn, 1) := by decide +kernel
theorem dX4_chance_14 : decode cX4_chance 14 = .ok (.iload_n 2, 1) := by decide +kernel
theorem dX4_chance_15 : decode cX4_chance 15 = .ok (.ifCond .lt 13, 3) := by decide +kernel
theorem dX4_chance_18 : decode cX4_chance 18 = .ok (.iload_n 3, 1) := by decide +kernel
theorem dX4_chance_19 : decode cX4_chance 19 = .ok (.ifCond .lt 9, 3) := by decide +kernel
theorem dX4_chance_22 : decode cX4_chance 22 = .ok (.iload 4, 2) := by decide +kernel
theorem dX4_chance_24 : decode cX4_chance 24 = .ok (.iconst 2, 1) := by decide +kernel
theorem dX4_chance_25 : decode cX4_chance 25 = .ok (.if_icmp .ge 10, 3) := by decide +kernel
theorem dX4_chance_28 : decode cX4_chance 28 = .ok (.aload_n 0, 1) := by decide +kernel
theorem dX4_chance_29 : decode cX4_chance 29 = .ok (.bipush (-4), 2) := by decide +kernel
theorem dX4_chance_31 : decode cX4_chance 31 = .ok (.invokevirtual 142, 3) := by decide +kernel
theorem dX4_chance_34 : decode cX4_chance 34 = .ok (.lreturn, 1) := by decide +kernel
theorem dX4_chance_35 : decode cX4_chance 35 = .ok (.iload_n 2, 1) := by decide +kernel
theorem dX4_chance_36 : decode cX4_chance 36 = .ok (.sipush 400, 3) := by decide +kernel
theorem dX4_chance_39 : decode cX4_chance 39 = .ok (.if_icmp .gt 16, 3) := by decide +kernel
theorem dX4_chance_42 : decode cX4_chance 42 = .ok (.iload_n 3, 1) := by decide +kernel
theorem dX4_chance_43 : decode cX4_chance 43 = .ok (.bipush 8, 2) := by decide +kernel
theorem dX4_chance_45 : decode cX4_chance 45 = .ok (.if_icmp .gt 10, 3) := by decide +kernel
theorem dX4_chance_48 : decode cX4_chance 48 = .ok (.iload 4, 2) := by decide +kernel
theorem dX4_chance_50 : decode cX4_chance 50 = .ok (.bipush 20, 2) := by decide +kernel
theorem dX4_chance_52 : decode cX4_chance 52 = .ok (.if_icmp .le 10, 3) := by decide +kernel
theorem dX4_chance_55 : decode cX4_chance 55 = .ok (.aload_n 0, 1) := by decide +kernel
theorem dX4_chance_56 : decode cX4_chance 56 = .ok (.bipush (-6), 2) := by decide +kernel
theorem dX4_chance_58 : decode cX4_chance 58 = .ok (.invokevirtual 142, 3) := by decide +kernel
theorem dX4_chance_61 : decode cX4_chance 61 = .ok (.lreturn, 1) := by decide +kernel
theorem dX4_chance_62 : decode cX4_chance 62 = .ok (.iload 5, 2) := by decide +kernel
theorem dX4_chance_64 : decode cX4_chance 64 = .ok (.iconst 0, 1) := by decide +kernel
theorem dX4_chance_65 : decode cX4_chance 65 = .ok (.iconst 1, 1) := by decide +kernel
theorem dX4_chance_66 : decode cX4_chance 66 = .ok (.invokestatic 40, 3) := by decide +kernel
theorem dX4_chance_69 : decode cX4_chance 69 = .ok (.ifCond .ne 10, 3) := by decide +kernel
theorem dX4_chance_72 : decode cX4_chance 72 = .ok (.aload_n 0, 1) := by decide +kernel
theorem dX4_chance_73 : decode cX4_chance 73 = .ok (.bipush (-2), 2) := by decide +kernel
theorem dX4_chance_75 : decode cX4_chance 75 = .ok (.invokevirtual 142, 3) := by decide +kernel
theorem dX4_chance_78 : decode cX4_chance 78 = .ok (.lreturn, 1) := by decide +kernel
theorem dX4_chance_79 : decode cX4_chance 79 = .ok (.lconst 0, 1) := by decide +kernel
theorem dX4_chance_80 : decode cX4_chance 80 = .ok (.lstore 6, 2) := by decide +kernel
theorem dX4_chance_82 : decode cX4_chance 82 = .ok (.lconst 1, 1) := by decide +kernel
theorem dX4_chance_83 : decode cX4_chance 83 = .ok (.lstore 8, 2) := by decide +kernel
theorem dX4_chance_85 : decode cX4_chance 85 = .ok (.iconst 0, 1) := by decide +kernel
theorem dX4_chance_86 : decode cX4_chance 86 = .ok (.istore 10, 2) := by decide +kernel
theorem dX4_chance_88 : decode cX4_chance 88 = .ok (.iload 10, 2) := by decide +kernel
theorem dX4_chance_90 : decode cX4_chance 90 = .ok (.iload_n 3, 1) := by decide +kernel
theorem dX4_chance_91 : decode cX4_chance 91 = .ok (.if_icmp .ge 17, 3) := by decide +kernel
theorem dX4_chance_94 : decode cX4_chance 94 = .ok (.lload 8, 2) := by decide +kernel
theorem dX4_chance_96 : decode cX4_chance 96 = .ok (.iload 4, 2) := by decide +kernel
theorem dX4_chance_98 : decode cX4_chance 98 = .ok (.i2l, 1) := by decide +kernel
theorem dX4_chance_99 : decode cX4_chance 99 = .ok (.lmul, 1) := by decide +kernel
theorem dX4_chance_100 : decode cX4_chance 100 = .ok (.lstore 8, 2) := by decide +kernel
theorem dX4_chance_102 : decode cX4_chance 102 = .ok (.iinc 10 1, 3) := by decide +kernel
theorem dX4_chance_105 : decode cX4_chance 105 = .ok (.goto (-17), 3) := by decide +kernel
theorem dX4_chance_108 : decode cX4_chance 108 = .ok (.iconst 0, 1) := by decide +kernel
theorem dX4_chance_109 : decode cX4_chance 109 = .ok (.istore 10, 2) := by decide +kernel
theorem dX4_chance_111 : decode cX4_chance 111 = .ok (.iload 10, 2) := by decide +kernel
theorem dX4_chance_113 : decode cX4_chance 113 = .ok (.iconst 1, 1) := by decide +kernel
theorem dX4_chance_114 : decode cX4_chance 114 = .ok (.iload_n 3, 1) := by decide +kernel
theorem dX4_chance_115 : decode cX4_chance 115 = .ok (.ishl, 1) := by decide +kernel
theorem dX4_chance_116 : decode cX4_chance 116 = .ok (.if_icmp .ge 110, 3) := by decide +kernel
theorem dX4_chance_119 : decode cX4_chance 119 = .ok (.aload_n 0, 1) := by decide +kernel
theorem dX4_chance_120 : decode cX4_chance 120 = .ok (.getfield 9, 3) := by decide +kernel
theorem dX4_chance_123 : decode cX4_chance 123 = .ok (.aload_n 0, 1) := by decide +kernel
theorem dX4_chance_124 : decode cX4_chance 124 = .ok (.getfield 13, 3) := by decide +kernel
theorem dX4_chance_127 : decode cX4_chance 127 = .ok (.invokestatic 78, 3) := by decide +kernel
theorem dX4_chance_130 : decode cX4_chance 130 = .ok (.lconst 1, 1) := by decide +kernel
theorem dX4_chance_131 : decode cX4_chance 131 = .ok (.lstore 11, 2) := by decide +kernel
theorem dX4_chance_133 : decode cX4_chance 133 = .ok (.iconst 0, 1) := by decide +kernel
theorem dX4_chance_134 : decode cX4_chance 134 = .ok (.istore 13, 2) := by decide +kernel
theorem dX4_chance_136 : decode cX4_chance 136 = .ok (.iload 13, 2) := by decide +kernel
theorem dX4_chance_138 : decode cX4_chance 138 = .ok (.iload_n 3, 1) := by decide +kernel
theorem dX4_chance_139 : decode cX4_chance 139 = .ok (.if_icmp .ge 56, 3) := by decide +kernel
theorem dX4_chance_142 : decode cX4_chance 142 = .ok (.iload 10, 2) := by decide +kernel
theorem dX4_chance_144 : decode cX4_chance 144 = .ok (.iload 13, 2) := by decide +kernel
theorem dX4_chance_146 : decode cX4_chance 146 = .ok (.ishr, 1) := by decide +kernel
theorem dX4_chance_147 : decode cX4_chance 147 = .ok (.iconst 1, 1) := by decide +kernel
theorem dX4_chance_148 : decode cX4_chance 148 = .ok (.iand, 1) := by decide +kernel
theorem dX4_chance_149 : decode cX4_chance 149 = .ok (.iconst 1, 1) := by decide +kernel
theorem dX4_chance_150 : decode cX4_chance 150 = .ok (.if_icmp .ne 7, 3) := by decide +kernel
theorem dX4_chance_153 : decode cX4_chance 153 = .ok (.iconst 1, 1) := by decide +kernel
theorem dX4_chance_154 : decode cX4_chance 154 = .ok (.goto 4, 3) := by decide +kernel
theorem dX4_chance_157 : decode cX4_chance 157 = .ok (.iconst 0, 1) := by decide +kernel
theorem dX4_chance_158 : decode cX4_chance 158 = .ok (.istore 14, 2) := by decide +kernel
theorem dX4_chance_160 : decode cX4_chance 160 = .ok (.lload 11, 2) := by decide +kernel
theorem dX4_chance_162 : decode cX4_chance 162 = .ok (.iload 14, 2) := by decide +kernel
theorem dX4_chance_164 : decode cX4_chance 164 = .ok (.ifCond .eq 7, 3) := by decide +kernel
theorem dX4_chance_167 : decode cX4_chance 167 = .ok (.lconst 1, 1) := by decide +kernel
theorem dX4_chance_168 : decode cX4_chance 168 = .ok (.goto 8, 3) := by decide +kernel
theorem dX4_chance_171 : decode cX4_chance 171 = .ok (.iload 4, 2) := by decide +kernel
theorem dX4_chance_173 : decode cX4_chance 173 = .ok (.iconst 1, 1) := by decide +kernel
theorem dX4_chance_174 : decode cX4_chance 174 = .ok (.isub, 1) := by decide +kernel
theorem dX4_chance_175 : decode cX4_chance 175 = .ok (.i2l, 1) := by decide +kernel
theorem dX4_chance_176 : decode cX4_chance 176 = .ok (.lmul, 1) := by decide +kernel
theorem dX4_chance_177 : decode cX4_chance 177 = .ok (.lstore 11, 2) := by decide +kernel
theorem dX4_chance_179 : decode cX4_chance 179 = .ok (.aload_n 0, 1) := by decide +kernel
theorem dX4_chance_180 : decode cX4_chance 180 = .ok (.aload_n 0, 1) := by decide +kernel
theorem dX4_chance_181 : decode cX4_chance 181 = .ok (.getfield 13, 3) := by decide +kernel
theorem dX4_chance_184 : decode cX4_chance 184 = .ok (.iload 14, 2) := by decide +kernel
theorem dX4_chance_186 : decode cX4_chance 186 = .ok (.invokevirtual 70, 3) := by decide +kernel
theorem dX4_chance_189 : decode cX4_chance 189 = .ok (.iinc 13 1, 3) := by decide +kernel
theorem dX4_chance_192 : decode cX4_chance 192 = .ok (.goto (-56), 3) := by decide +kernel
theorem dX4_chance_195 : decode cX4_chance 195 = .ok (.lload 6, 2) := by decide +kernel
theorem dX4_chance_197 : decode cX4_chance 197 = .ok (.aload_n 0, 1) := by decide +kernel
theorem dX4_chance_198 : decode cX4_chance 198 = .ok (.getfield 13, 3) := by decide +kernel
theorem dX4_chance_201 : decode cX4_chance 201 = .ok (.iload_n 1, 1) := by decide +kernel
theorem dX4_chance_202 : decode cX4_chance 202 = .ok (.iconst 2, 1) := by decide +kernel
theorem dX4_chance_203 : decode cX4_chance 203 = .ok (.invokestatic 44, 3) := by decide +kernel
theorem dX4_chance_206 : decode cX4_chance 206 = .ok (.iaload, 1) := by decide +kernel
theorem dX4_chance_207 : decode cX4_chance 207 = .ok (.iload_n 2, 1) := by decide +kernel
theorem dX4_chance_208 : decode cX4_chance 208 = .ok (.if_icmp .lt 8, 3) := by decide +kernel
theorem dX4_chance_211 : decode cX4_chance 211 = .ok (.lload 11, 2) := by decide +kernel
theorem dX4_chance_213 : decode cX4_chance 213 = .ok (.goto 4, 3) := by decide +kernel
theorem dX4_chance_216 : decode cX4_chance 216 = .ok (.lconst 0, 1) := by decide +kernel
theorem dX4_chance_217 : decode cX4_chance 217 = .ok (.ladd, 1) := by decide +kernel
theorem dX4_chance_218 : decode cX4_chance 218 = .ok (.lstore 6, 2) := by decide +kernel
theorem dX4_chance_220 : decode cX4_chance 220 = .ok (.iinc 10 1, 3) := by decide +kernel
theorem dX4_chance_223 : decode cX4_chance 223 = .ok (.goto (-112), 3) := by decide +kernel
theorem dX4_chance_226 : decode cX4_chance 226 = .ok (.lload 6, 2) := by decide +kernel
theorem dX4_chance_228 : decode cX4_chance 228 = .ok (.lload 8, 2) := by decide +kernel
theorem dX4_chance_230 : decode cX4_chance 230 = .ok (.iload 5, 2) := by decide +kernel
theorem dX4_chance_232 : decode cX4_chance 232 = .ok (.invokestatic 146, 3) := by decide +kernel
theorem dX4_chance_235 : decode cX4_chance 235 = .ok (.lreturn, 1) := by decide +kernel
theorem dX4_drawn_0 : decode cX4_drawn 0 = .ok (.aload_n 0, 1) := by decide +kernel
theorem dX4_drawn_1 : decode cX4_drawn 1 = .ok (.aload_n 0, 1) := by decide +kernel
theorem dX4_drawn_2 : decode cX4_drawn 2 = .ok (.getfield 176, 3) := by decide +kernel
theorem dX4_drawn_5 : decode cX4_drawn 5 = .ok (.ldc 179, 2) := by decide +kernel
theorem dX4_drawn_7 : decode cX4_drawn 7 = .ok (.imul, 1) := by decide +kernel
theorem dX4_drawn_8 : decode cX4_drawn 8 = .ok (.ldc 180, 2) := by decide +kernel
theorem dX4_drawn_10 : decode cX4_drawn 10 = .ok (.iadd, 1) := by decide +kernel
theorem dX4_drawn_11 : decode cX4_drawn 11 = .ok (.putfield 176, 3) := by decide +kernel
theorem dX4_drawn_14 : decode cX4_drawn 14 = .ok (.aload_n 0, 1) := by decide +kernel
theorem dX4_drawn_15 : decode cX4_drawn 15 = .ok (.getfield 176, 3) := by decide +kernel
theorem dX4_drawn_18 : decode cX4_drawn 18 = .ok (.ldc 181, 2) := by decide +kernel
theorem dX4_drawn_20 : decode cX4_drawn 20 = .ok (.iand, 1) := by decide +kernel
theorem dX4_drawn_21 : decode cX4_drawn 21 = .ok (.sipush 256, 3) := by decide +kernel
theorem dX4_drawn_24 : decode cX4_drawn 24 = .ok (.idiv, 1) := by decide +kernel
theorem dX4_drawn_25 : decode cX4_drawn 25 = .ok (.iload_n 1, 1) := by decide +kernel
theorem dX4_drawn_26 : decode cX4_drawn 26 = .ok (.irem, 1) := by decide +kernel
theorem dX4_drawn_27 : decode cX4_drawn 27 = .ok (.ireturn, 1) := by decide +kernel
theorem dX4_lots_0 : decode cX4_lots 0 = .ok (.iload_n 1, 1) := by decide +kernel
theorem dX4_lots_1 : decode cX4_lots 1 = .ok (.iconst 1, 1) := by decide +kernel
theorem dX4_lots_2 : decode cX4_lots 2 = .ok (.if_icmp .ge 10, 3) := by decide +kernel
theorem dX4_lots_5 : decode cX4_lots 5 = .ok (.aload_n 0, 1) := by decide +kernel
theorem dX4_lots_6 : decode cX4_lots 6 = .ok (.bipush (-4), 2) := by decide +kernel
theorem dX4_lots_8 : decode cX4_lots 8 = .ok (.invokevirtual 36, 3) := by decide +kernel
theorem dX4_lots_11 : decode cX4_lots 11 = .ok (.ireturn, 1) := by decide +kernel
theorem dX4_lots_12 : decode cX4_lots 12 = .ok (.iload_n 1, 1) := by decide +kernel
theorem dX4_lots_13 : decode cX4_lots 13 = .ok (.bipush 20, 2) := by decide +kernel
theorem dX4_lots_15 : decode cX4_lots 15 = .ok (.if_icmp .le 10, 3) := by decide +kernel
theorem dX4_lots_18 : decode cX4_lots 18 = .ok (.aload_n 0, 1) := by decide +kernel
theorem dX4_lots_19 : decode cX4_lots 19 = .ok (.bipush (-6), 2) := by decide +kernel
theorem dX4_lots_21 : decode cX4_lots 21 = .ok (.invokevirtual 36, 3) := by decide +kernel
theorem dX4_lots_24 : decode cX4_lots 24 = .ok (.ireturn, 1) := by decide +kernel
theorem dX4_lots_25 : decode cX4_lots 25 = .ok (.iload_n 3, 1) := by decide +kernel
theorem dX4_lots_26 : decode cX4_lots 26 = .ok (.iconst 0, 1) := by decide +kernel
theorem dX4_lots_27 : decode cX4_lots 27 = .ok (.iconst 1, 1) := by decide +kernel
theorem dX4_lots_28 : decode cX4_lots 28 = .ok (.invokestatic 40, 3) := by decide +kernel
theorem dX4_lots_31 : decode cX4_lots 31 = .ok (.ifCond .ne 10, 3) := by decide +kernel
theorem dX4_lots_34 : decode cX4_lots 34 = .ok (.aload_n 0, 1) := by decide +kernel
theorem dX4_lots_35 : decode cX4_lots 35 = .ok (.bipush (-2), 2) := by decide +kernel
theorem dX4_lots_37 : decode cX4_lots 37 = .ok (.invokevirtual 36, 3) := by decide +kernel
theorem dX4_lots_40 : decode cX4_lots 40 = .ok (.ireturn, 1) := by decide +kernel
theorem dX4_lots_41 : decode cX4_lots 41 = .ok (.aload_n 0, 1) := by decide +kernel
theorem dX4_lots_42 : decode cX4_lots 42 = .ok (.iload_n 2, 1) := by decide +kernel
theorem dX4_lots_43 : decode cX4_lots 43 = .ok (.putfield 176, 3) := by decide +kernel
theorem dX4_lots_46 : decode cX4_lots 46 = .ok (.iconst 0, 1) := by decide +kernel
theorem dX4_lots_47 : decode cX4_lots 47 = .ok (.istore 4, 2) := by decide +kernel
theorem dX4_lots_49 : decode cX4_lots 49 = .ok (.iconst 0, 1) := by decide +kernel
theorem dX4_lots_50 : decode cX4_lots 50 = .ok (.istore 5, 2) := by decide +kernel
theorem dX4_lots_52 : decode cX4_lots 52 = .ok (.iload 5, 2) := by decide +kernel
theorem dX4_lots_54 : decode cX4_lots 54 = .ok (.iload_n 1, 1) := by decide +kernel
theorem dX4_lots_55 : decode cX4_lots 55 = .ok (.if_icmp .ge 65, 3) := by decide +kernel
theorem dX4_lots_58 : decode cX4_lots 58 = .ok (.aload_n 0, 1) := by decide +kernel
theorem dX4_lots_59 : decode cX4_lots 59 = .ok (.getfield 9, 3) := by decide +kernel
theorem dX4_lots_62 : decode cX4_lots 62 = .ok (.aload_n 0, 1) := by decide +kernel
theorem dX4_lots_63 : decode cX4_lots 63 = .ok (.getfield 13, 3) := by decide +kernel
theorem dX4_lots_66 : decode cX4_lots 66 = .ok (.invokestatic 78, 3) := by decide +kernel
theorem dX4_lots_69 : decode cX4_lots 69 = .ok (.aload_n 0, 1) := by decide +kernel
theorem dX4_lots_70 : decode cX4_lots 70 = .ok (.getfield 13, 3) := by decide +kernel
theorem dX4_lots_73 : decode cX4_lots 73 = .ok (.iconst 3, 1) := by decide +kernel
theorem dX4_lots_74 : decode cX4_lots 74 = .ok (.aload_n 0, 1) := by decide +kernel
theorem dX4_lots_75 : decode cX4_lots 75 = .ok (.bipush 9, 2) := by decide +kernel
theorem dX4_lots_77 : decode cX4_lots 77 = .ok (.invokevirtual 182, 3) := by decide +kernel
theorem dX4_lots_80 : decode cX4_lots 80 = .ok (.iconst 1, 1) := by decide +kernel
theorem dX4_lots_81 : decode cX4_lots 81 = .ok (.iadd, 1) := by decide +kernel
theorem dX4_lots_82 : decode cX4_lots 82 = .ok (.iastore, 1) := by decide +kernel
theorem dX4_lots_83 : decode cX4_lots 83 = .ok (.aload_n 0, 1) := by decide +kernel
theorem dX4_lots_84 : decode cX4_lots 84 = .ok (.aload_n 0, 1) := by decide +kernel
theorem dX4_lots_85 : decode cX4_lots 85 = .ok (.getfield 13, 3) := by decide +kernel
theorem dX4_lots_88 : decode cX4_lots 88 = .ok (.bipush 20, 2) := by decide +kernel
theorem dX4_lots_90 : decode cX4_lots 90 = .ok (.invokevirtual 82, 3) := by decide +kernel
theorem dX4_lots_93 : decode cX4_lots 93 = .ok (.iload 4, 2) := by decide +kernel
theorem dX4_lots_95 : decode cX4_lots 95 = .ok (.aload_n 0, 1) := by decide +kernel
theorem dX4_lots_96 : decode cX4_lots 96 = .ok (.getfield 13, 3) := by decide +kernel
theorem dX4_lots_99 : decode cX4_lots 99 = .ok (.iload_n 3, 1) := by decide +kernel
theorem dX4_lots_100 : decode cX4_lots 100 = .ok (.ifCond .ne 7, 3) := by decide +kernel
theorem dX4_lots_103 : decode cX4_lots 103 = .ok (.iconst 2, 1) := by decide +kernel
theorem dX4_lots_104 : decode cX4_lots 104 = .ok (.goto 4, 3) := by decide +kernel
theorem dX4_lots_107 : decode cX4_lots 107 = .ok (.iconst 5, 1) := by decide +kernel
theorem dX4_lots_108 : decode cX4_lots 108 = .ok (.invokestatic 135, 3) := by decide +kernel
theorem dX4_lots_111 : decode cX4_lots 111 = .ok (.iadd, 1) := by decide +kernel
theorem dX4_lots_112 : decode cX4_lots 112 = .ok (.istore 4, 2) := by decide +kernel
theorem dX4_lots_114 : decode cX4_lots 114 = .ok (.iinc 5 1, 3) := by decide +kernel
theorem dX4_lots_117 : decode cX4_lots 117 = .ok (.goto (-65), 3) := by decide +kernel
theorem dX4_lots_120 : decode cX4_lots 120 = .ok (.iload 4, 2) := by decide +kernel
theorem dX4_lots_122 : decode cX4_lots 122 = .ok (.ireturn, 1) := by decide +kernel
theorem dX4_image_0 : decode cX4_image 0 = .ok (.aload_n 0, 1) := by decide +kernel
theorem dX4_image_1 : decode cX4_image 1 = .ok (.getfield 9, 3) := by decide +kernel
theorem dX4_image_4 : decode cX4_image 4 = .ok (.aload_n 0, 1) := by decide +kernel
theorem dX4_image_5 : decode cX4_image 5 = .ok (.getfield 16, 3) := by decide +kernel
theorem dX4_image_8 : decode cX4_image 8 = .ok (.invokestatic 78, 3) := by decide +kernel
theorem dX4_image_11 : decode cX4_image 11 = .ok (.aload_n 0, 1) := by decide +kernel
theorem dX4_image_12 : decode cX4_image 12 = .ok (.iconst 1, 1) := by decide +kernel
theorem dX4_image_13 : decode cX4_image 13 = .ok (.putfield 185, 3) := by decide +kernel
theorem dX4_image_16 : decode cX4_image 16 = .ok (.aload_n 0, 1) := by decide +kernel
theorem dX4_image_17 : decode cX4_image 17 = .ok (.getfield 9, 3) := by decide +kernel
theorem dX4_image_20 : decode cX4_image 20 = .ok (.iconst 1, 1) := by decide +kernel
theorem dX4_image_21 : decode cX4_image 21 = .ok (.iaload, 1) := by decide +kernel
theorem dX4_image_22 : decode cX4_image 22 = .ok (.ireturn, 1) := by decide +kernel
theorem dX4_on_0 : decode cX4_on 0 = .ok (.aload_n 0, 1) := by decide +kernel
theorem dX4_on_1 : decode cX4_on 1 = .ok (.getfield 185, 3) := by decide +kernel
theorem dX4_on_4 : decode cX4_on 4 = .ok (.ifCond .ne 10, 3) := by decide +kernel
theorem dX4_on_7 : decode cX4_on 7 = .ok (.aload_n 0, 1) := by decide +kernel
theorem dX4_on_8 : decode cX4_on 8 = .ok (.bipush (-3), 2) := by decide +kernel
theorem dX4_on_10 : decode cX4_on 10 = .ok (.invokevirtual 36, 3) := by decide +kernel
theorem dX4_on_13 : decode cX4_on 13 = .ok (.ireturn, 1) := by decide +kernel
theorem dX4_on_14 : decode cX4_on 14 = .ok (.aload_n 0, 1) := by decide +kernel
theorem dX4_on_15 : decode cX4_on 15 = .ok (.getfield 16, 3) := by decide +kernel
theorem dX4_on_18 : decode cX4_on 18 = .ok (.aload_n 0, 1) := by decide +kernel
theorem dX4_on_19 : decode cX4_on 19 = .ok (.getfield 9, 3) := by decide +kernel
theorem dX4_on_22 : decode cX4_on 22 = .ok (.invokestatic 78, 3) := by decide +kernel
theorem dX4_on_25 : decode cX4_on 25 = .ok (.aload_n 0, 1) := by decide +kernel
theorem dX4_on_26 : decode cX4_on 26 = .ok (.getfield 9, 3) := by decide +kernel
theorem dX4_on_29 : decode cX4_on 29 = .ok (.iconst 1, 1) := by decide +kernel
theorem dX4_on_30 : decode cX4_on 30 = .ok (.iaload, 1) := by decide +kernel
theorem dX4_on_31 : decode cX4_on 31 = .ok (.ireturn, 1) := by decide +kernel
theorem dX4_count_0 : decode cX4_count 0 = .ok (.iload_n 1, 1) := by decide +kernel
theorem dX4_count_1 : decode cX4_count 1 = .ok (.bipush 11, 2) := by decide +kernel
theorem dX4_count_3 : decode cX4_count 3 = .ok (.bipush 16, 2) := by decide +kernel
theorem dX4_count_5 : decode cX4_count 5 = .ok (.invokestatic 40, 3) := by decide +kernel
theorem dX4_count_8 : decode cX4_count 8 = .ok (.ifCond .eq 13, 3) := by decide +kernel
theorem dX4_count_11 : decode cX4_count 11 = .ok (.aload_n 0, 1) := by decide +kernel
theorem dX4_count_12 : decode cX4_count 12 = .ok (.getfield 28, 3) := by decide +kernel
theorem dX4_count_15 : decode cX4_count 15 = .ok (.iload_n 1, 1) := by decide +kernel
theorem dX4_count_16 : decode cX4_count 16 = .ok (.bipush 10, 2) := by decide +kernel
theorem dX4_count_18 : decode cX4_count 18 = .ok (.isub, 1) := by decide +kernel
theorem dX4_count_19 : decode cX4_count 19 = .ok (.iaload, 1) := by decide +kernel
theorem dX4_count_20 : decode cX4_count 20 = .ok (.ireturn, 1) := by decide +kernel
theorem dX4_count_21 : decode cX4_count 21 = .ok (.iload_n 1, 1) := by decide +kernel
theorem dX4_count_22 : decode cX4_count 22 = .ok (.tableswitch 85 0 8 #[50, 50, 50, 50, 50, 57, 66, 75, 80], 50) := by decide +kernel
theorem dX4_count_72 : decode cX4_count 72 = .ok (.aload_n 0, 1) := by decide +kernel
theorem dX4_count_73 : decode cX4_count 73 = .ok (.getfield 9, 3) := by decide +kernel
theorem dX4_count_76 : decode cX4_count 76 = .ok (.iload_n 1, 1) := by decide +kernel
theorem dX4_count_77 : decode cX4_count 77 = .ok (.iaload, 1) := by decide +kernel
theorem dX4_count_78 : decode cX4_count 78 = .ok (.ireturn, 1) := by decide +kernel
theorem dX4_count_79 : decode cX4_count 79 = .ok (.aload_n 0, 1) := by decide +kernel
theorem dX4_count_80 : decode cX4_count 80 = .ok (.getfield 9, 3) := by decide +kernel
theorem dX4_count_83 : decode cX4_count 83 = .ok (.iconst 2, 1) := by decide +kernel
theorem dX4_count_84 : decode cX4_count 84 = .ok (.invokestatic 135, 3) := by decide +kernel
theorem dX4_count_87 : decode cX4_count 87 = .ok (.ireturn, 1) := by decide +kernel
theorem dX4_count_88 : decode cX4_count 88 = .ok (.aload_n 0, 1) := by decide +kernel
theorem dX4_count_89 : decode cX4_count 89 = .ok (.getfield 9, 3) := by decide +kernel
theorem dX4_count_92 : decode cX4_count 92 = .ok (.iconst 5, 1) := by decide +kernel
theorem dX4_count_93 : decode cX4_count 93 = .ok (.invokestatic 135, 3) := by decide +kernel
theorem dX4_count_96 : decode cX4_count 96 = .ok (.ireturn, 1) := by decide +kernel
theorem dX4_count_97 : decode cX4_count 97 = .ok (.aload_n 0, 1) := by decide +kernel
theorem dX4_count_98 : decode cX4_count 98 = .ok (.getfield 170, 3) := by decide +kernel
theorem dX4_count_101 : decode cX4_count 101 = .ok (.ireturn, 1) := by decide +kernel
theorem dX4_count_102 : decode cX4_count 102 = .ok (.aload_n 0, 1) := by decide +kernel
theorem dX4_count_103 : decode cX4_count 103 = .ok (.getfield 86, 3) := by decide +kernel
theorem dX4_count_106 : decode cX4_count 106 = .ok (.ireturn, 1) := by decide +kernel
theorem dX4_count_107 : decode cX4_count 107 = .ok (.bipush (-9), 2) := by decide +kernel
theorem dX4_count_109 : decode cX4_count 109 = .ok (.ireturn, 1) := by decide +kernel
theorem dL_law_0 : decode cL_law 0 = .ok (.new 7, 3) := by decide +kernel
theorem dL_law_3 : decode cL_law 3 = .ok (.dup, 1) := by decide +kernel
theorem dL_law_4 : decode cL_law 4 = .ok (.invokespecial 9, 3) := by decide +kernel
theorem dL_law_7 : decode cL_law 7 = .ok (.astore_n 1, 1) := by decide +kernel
theorem dL_law_8 : decode cL_law 8 = .ok (.new 10, 3) := by decide +kernel
theorem dL_law_11 : decode cL_law 11 = .ok (.dup, 1) := by decide +kernel
theorem dL_law_12 : decode cL_law 12 = .ok (.invokespecial 12, 3) := by decide +kernel
theorem dL_law_15 : decode cL_law 15 = .ok (.astore_n 2, 1) := by decide +kernel
theorem dL_law_16 : decode cL_law 16 = .ok (.iconst 0, 1) := by decide +kernel
theorem dL_law_17 : decode cL_law 17 = .ok (.istore_n 3, 1) := by decide +kernel
theorem dL_law_18 : decode cL_law 18 = .ok (.iload_n 3, 1) := by decide +kernel
theorem dL_law_19 : decode cL_law 19 = .ok (.aload_n 0, 1) := by decide +kernel
theorem dL_law_20 : decode cL_law 20 = .ok (.arraylength, 1) := by decide +kernel
theorem dL_law_21 : decode cL_law 21 = .ok (.bipush 6, 2) := by decide +kernel
theorem dL_law_23 : decode cL_law 23 = .ok (.isub, 1) := by decide +kernel
theorem dL_law_24 : decode cL_law 24 = .ok (.if_icmp .gt 1066, 3) := by decide +kernel
theorem dL_law_27 : decode cL_law 27 = .ok (.aload_n 0, 1) := by decide +kernel
theorem dL_law_28 : decode cL_law 28 = .ok (.iload_n 3, 1) := by decide +kernel
theorem dL_law_29 : decode cL_law 29 = .ok (.iaload, 1) := by decide +kernel
theorem dL_law_30 : decode cL_law 30 = .ok (.bipush 31, 2) := by decide +kernel
theorem dL_law_32 : decode cL_law 32 = .ok (.iand, 1) := by decide +kernel
theorem dL_law_33 : decode cL_law 33 = .ok (.tableswitch 1051 0 31 #[143, 166, 179, 212, 245, 278, 321, 364, 387, 430, 463, 507, 530, 553, 586, 599, 622, 655, 678, 691, 714, 737, 760, 793, 816, 839, 872, 895, 959, 1002, 1015, 1028], 143) := by decide +kernel
theorem dL_law_176 : decode cL_law 176 = .ok (.aload_n 1, 1) := by decide +kernel
theorem dL_law_177 : decode cL_law 177 = .ok (.aload_n 0, 1) := by decide +kernel
theorem dL_law_178 : decode cL_law 178 = .ok (.iload_n 3, 1) := by decide +kernel
theorem dL_law_179 : decode cL_law 179 = .ok (.iconst 1, 1) := by decide +kernel
theorem dL_law_180 : decode cL_law 180 = .ok (.iadd, 1) := by decide +kernel
theorem dL_law_181 : decode cL_law 181 = .ok (.iaload, 1) := by decide +kernel
theorem dL_law_182 : decode cL_law 182 = .ok (.invokevirtual 13, 3) := by decide +kernel
theorem dL_law_185 : decode cL_law 185 = .ok (.aload_n 2, 1) := by decide +kernel
theorem dL_law_186 : decode cL_law 186 = .ok (.aload_n 0, 1) := by decide +kernel
theorem dL_law_187 : decode cL_law 187 = .ok (.iload_n 3, 1) := by decide +kernel
theorem dL_law_188 : decode cL_law 188 = .ok (.iconst 1, 1) := by decide +kernel
theorem dL_law_189 : decode cL_law 189 = .ok (.iadd, 1) := by decide +kernel
theorem dL_law_190 : decode cL_law 190 = .ok (.iaload, 1) := by decide +kernel
theorem dL_law_191 : decode cL_law 191 = .ok (.invokevirtual 17, 3) := by decide +kernel
theorem dL_law_194 : decode cL_law 194 = .ok (.if_icmp .eq 890, 3) := by decide +kernel
theorem dL_law_197 : decode cL_law 197 = .ok (.iconst 0, 1) := by decide +kernel
theorem dL_law_198 : decode cL_law 198 = .ok (.ireturn, 1) := by decide +kernel
theorem dL_law_199 : decode cL_law 199 = .ok (.aload_n 1, 1) := by decide +kernel
theorem dL_law_200 : decode cL_law 200 = .ok (.invokevirtual 18, 3) := by decide +kernel
theorem dL_law_203 : decode cL_law 203 = .ok (.aload_n 2, 1) := by decide +kernel
theorem dL_law_204 : decode cL_law 204 = .ok (.invokevirtual 22, 3) := by decide +kernel
theorem dL_law_207 : decode cL_law 207 = .ok (.if_icmp .eq 877, 3) := by decide +kernel
theorem dL_law_210 : decode cL_law 210 = .ok (.iconst 0, 1) := by decide +kernel
theorem dL_law_211 : decode cL_law 211 = .ok (.ireturn, 1) := by decide +kernel
theorem dL_law_212 : decode cL_law 212 = .ok (.aload_n 1, 1) := by decide +kernel
theorem dL_law_213 : decode cL_law 213 = .ok (.aload_n 0, 1) := by decide +kernel
theorem dL_law_214 : decode cL_law 214 = .ok (.iload_n 3, 1) := by decide +kernel
theorem dL_law_215 : decode cL_law 215 = .ok (.iconst 1, 1) := by decide +kernel
theorem dL_law_216 : decode cL_law 216 = .ok (.iadd, 1) := by decide +kernel
theorem dL_law_217 : decode cL_law 217 = .ok (.iaload, 1) := by decide +kernel
theorem dL_law_218 : decode cL_law 218 = .ok (.aload_n 0, 1) := by decide +kernel
theorem dL_law_219 : decode cL_law 219 = .ok (.iload_n 3, 1) := by decide +kernel
theorem dL_law_220 : decode cL_law 220 = .ok (.iconst 2, 1) := by decide +kernel
theorem dL_law_221 : decode cL_law 221 = .ok (.iadd, 1) := by decide +kernel
theorem dL_law_222 : decode cL_law 222 = .ok (.iaload, 1) := by decide +kernel
theorem dL_law_223 : decode cL_law 223 = .ok (.invokevirtual 23, 3) := by decide +kernel
theorem dL_law_226 : decode cL_law 226 = .ok (.aload_n 2, 1) := by decide +kernel
theorem dL_law_227 : decode cL_law 227 = .ok (.aload_n 0, 1) := by decide +kernel
theorem dL_law_228 : decode cL_law 228 = .ok (.iload_n 3, 1) := by decide +kernel
theorem dL_law_229 : decode cL_law 229 = .ok (.iconst 1, 1) := by decide +kernel
theorem dL_law_230 : decode cL_law 230 = .ok (.iadd, 1) := by decide +kernel
theorem dL_law_231 : decode cL_law 231 = .ok (.iaload, 1) := by decide +kernel
theorem dL_law_232 : decode cL_law 232 = .ok (.aload_n 0, 1) := by decide +kernel
theorem dL_law_233 : decode cL_law 233 = .ok (.iload_n 3, 1) := by decide +kernel
theorem dL_law_234 : decode cL_law 234 = .ok (.iconst 2, 1) := by decide +kernel
theorem dL_law_235 : decode cL_law 235 = .ok (.iadd, 1) := by decide +kernel
theorem dL_law_236 : decode cL_law 236 = .ok (.iaload, 1) := by decide +kernel
theorem dL_law_237 : decode cL_law 237 = .ok (.invokevirtual 27, 3) := by decide +kernel
theorem dL_law_240 : decode cL_law 240 = .ok (.if_icmp .eq 844, 3) := by decide +kernel
theorem dL_law_243 : decode cL_law 243 = .ok (.iconst 0, 1) := by decide +kernel
theorem dL_law_244 : decode cL_law 244 = .ok (.ireturn, 1) := by decide +kernel
theorem dL_law_245 : decode cL_law 245 = .ok (.aload_n 1, 1) := by decide +kernel
theorem dL_law_246 : decode cL_law 246 = .ok (.aload_n 0, 1) := by decide +kernel
theorem dL_law_247 : decode cL_law 247 = .ok (.iload_n 3, 1) := by decide +kernel
theorem dL_law_248 : decode cL_law 248 = .ok (.iconst 1, 1) := by decide +kernel
theorem dL_law_249 : decode cL_law 249 = .ok (.iadd, 1) := by decide +kernel
theorem dL_law_250 : decode cL_law 250 = .ok (.iaload, 1) := by decide +kernel
theorem dL_law_251 : decode cL_law 251 = .ok (.aload_n 0, 1) := by decide +kernel
theorem dL_law_252 : decode cL_law 252 = .ok (.iload_n 3, 1) := by decide +kernel
theorem dL_law_253 : decode cL_law 253 = .ok (.iconst 2, 1) := by decide +kernel
theorem dL_law_254 : decode cL_law 254 = .ok (.iadd, 1) := by decide +kernel
theorem dL_law_255 : decode cL_law 255 = .ok (.iaload, 1) := by decide +kernel
theorem dL_law_256 : decode cL_law 256 = .ok (.invokevirtual 28, 3) := by decide +kernel
theorem dL_law_259 : decode cL_law 259 = .ok (.aload_n 2, 1) := by decide +kernel
theorem dL_law_260 : decode cL_law 260 = .ok (.aload_n 0, 1) := by decide +kernel
theorem dL_law_261 : decode cL_law 261 = .ok (.iload_n 3, 1) := by decide +kernel
theorem dL_law_262 : decode cL_law 262 = .ok (.iconst 1, 1) := by decide +kernel
theorem dL_law_263 : decode cL_law 263 = .ok (.iadd, 1) := by decide +kernel
theorem dL_law_264 : decode cL_law 264 = .ok (.iaload, 1) := by decide +kernel
theorem dL_law_265 : decode cL_law 265 = .ok (.aload_n 0, 1) := by decide +kernel
theorem dL_law_266 : decode cL_law 266 = .ok (.iload_n 3, 1) := by decide +kernel
theorem dL_law_267 : decode cL_law 267 = .ok (.iconst 2, 1) := by decide +kernel
theorem dL_law_268 : decode cL_law 268 = .ok (.iadd, 1) := by decide +kernel
theorem dL_law_269 : decode cL_law 269 = .ok (.iaload, 1) := by decide +kernel
theorem dL_law_270 : decode cL_law 270 = .ok (.invokevirtual 31, 3) := by decide +kernel
theorem dL_law_273 : decode cL_law 273 = .ok (.if_icmp .eq 811, 3) := by decide +kernel
theorem dL_law_276 : decode cL_law 276 = .ok (.iconst 0, 1) := by decide +kernel
theorem dL_law_277 : decode cL_law 277 = .ok (.ireturn, 1) := by decide +kernel
theorem dL_law_278 : decode cL_law 278 = .ok (.aload_n 1, 1) := by decide +kernel
theorem dL_law_279 : decode cL_law 279 = .ok (.aload_n 0, 1) := by decide +kernel
theorem dL_law_280 : decode cL_law 280 = .ok (.iload_n 3, 1) := by decide +kernel
theorem dL_law_281 : decode cL_law 281 = .ok (.iconst 1, 1) := by decide +kernel
theorem dL_law_282 : decode cL_law 282 = .ok (.iadd, 1) := by decide +kernel
theorem dL_law_283 : decode cL_law 283 = .ok (.iaload, 1) := by decide +kernel
theorem dL_law_284 : decode cL_law 284 = .ok (.aload_n 0, 1) := by decide +kernel
theorem dL_law_285 : decode cL_law 285 = .ok (.iload_n 3, 1) := by decide +kernel
theorem dL_law_286 : decode cL_law 286 = .ok (.iconst 2, 1) := by decide +kernel
theorem dL_law_287 : decode cL_law 287 = .ok (.iadd, 1) := by decide +kernel
theorem dL_law_288 : decode cL_law 288 = .ok (.iaload, 1) := by decide +kernel
theorem dL_law_289 : decode cL_law 289 = .ok (.invokevirtual 32, 3) := by decide +kernel
theorem dL_law_292 : decode cL_law 292 = .ok (.aload_n 2, 1) := by decide +kernel
theorem dL_law_293 : decode cL_law 293 = .ok (.aload_n 0, 1) := by decide +kernel
theorem dL_law_294 : decode cL_law 294 = .ok (.iload_n 3, 1) := by decide +kernel
theorem dL_law_295 : decode cL_law 295 = .ok (.iconst 1, 1) := by decide +kernel
theorem dL_law_296 : decode cL_law 296 = .ok (.iadd, 1) := by decide +kernel
theorem dL_law_297 : decode cL_law 297 = .ok (.iaload, 1) := by decide +kernel
theorem dL_law_298 : decode cL_law 298 = .ok (.aload_n 0, 1) := by decide +kernel
theorem dL_law_299 : decode cL_law 299 = .ok (.iload_n 3, 1) := by decide +kernel
theorem dL_law_300 : decode cL_law 300 = .ok (.iconst 2, 1) := by decide +kernel
theorem dL_law_301 : decode cL_law 301 = .ok (.iadd, 1) := by decide +kernel
theorem dL_law_302 : decode cL_law 302 = .ok (.iaload, 1) := by decide +kernel
theorem dL_law_303 : decode cL_law 303 = .ok (.invokevirtual 35, 3) := by decide +kernel
theorem dL_law_306 : decode cL_law 306 = .ok (.if_icmp .eq 778, 3) := by decide +kernel
theorem dL_law_309 : decode cL_law 309 = .ok (.iconst 0, 1) := by decide +kernel
theorem dL_law_310 : decode cL_law 310 = .ok (.ireturn, 1) := by decide +kernel
theorem dL_law_311 : decode cL_law 311 = .ok (.aload_n 1, 1) := by decide +kernel
theorem dL_law_312 : decode cL_law 312 = .ok (.aload_n 0, 1) := by decide +kernel
theorem dL_law_313 : decode cL_law 313 = .ok (.iload_n 3, 1) := by decide +kernel
theorem dL_law_314 : decode cL_law 314 = .ok (.iconst 1, 1) := by decide +kernel
theorem dL_law_315 : decode cL_law 315 = .ok (.iadd, 1) := by decide +kernel
theorem dL_law_316 : decode cL_law 316 = .ok (.iaload, 1) := by decide +kernel
theorem dL_law_317 : decode cL_law 317 = .ok (.aload_n 0, 1) := by decide +kernel
theorem dL_law_318 : decode cL_law 318 = .ok (.iload_n 3, 1) := by decide +kernel
theorem dL_law_319 : decode cL_law 319 = .ok (.iconst 2, 1) := by decide +kernel
theorem dL_law_320 : decode cL_law 320 = .ok (.iadd, 1) := by decide +kernel
theorem dL_law_321 : decode cL_law 321 = .ok (.iaload, 1) := by decide +kernel
theorem dL_law_322 : decode cL_law 322 = .ok (.aload_n 0, 1) := by decide +kernel
theorem dL_law_323 : decode cL_law 323 = .ok (.iload_n 3, 1) := by decide +kernel
theorem dL_law_324 : decode cL_law 324 = .ok (.iconst 3, 1) := by decide +kernel
theorem dL_law_325 : decode cL_law 325 = .ok (.iadd, 1) := by decide +kernel
theorem dL_law_326 : decode cL_law 326 = .ok (.iaload, 1) := by decide +kernel
theorem dL_law_327 : decode cL_law 327 = .ok (.invokevirtual 36, 3) := by decide +kernel
theorem dL_law_330 : decode cL_law 330 = .ok (.aload_n 2, 1) := by decide +kernel
theorem dL_law_331 : decode cL_law 331 = .ok (.aload_n 0, 1) := by decide +kernel
theorem dL_law_332 : decode cL_law 332 = .ok (.iload_n 3, 1) := by decide +kernel
theorem dL_law_333 : decode cL_law 333 = .ok (.iconst 1, 1) := by decide +kernel
theorem dL_law_334 : decode cL_law 334 = .ok (.iadd, 1) := by decide +kernel
theorem dL_law_335 : decode cL_law 335 = .ok (.iaload, 1) := by decide +kernel
theorem dL_law_336 : decode cL_law 336 = .ok (.aload_n 0, 1) := by decide +kernel
theorem dL_law_337 : decode cL_law 337 = .ok (.iload_n 3, 1) := by decide +kernel
theorem dL_law_338 : decode cL_law 338 = .ok (.iconst 2, 1) := by decide +kernel
theorem dL_law_339 : decode cL_law 339 = .ok (.iadd, 1) := by decide +kernel
theorem dL_law_340 : decode cL_law 340 = .ok (.iaload, 1) := by decide +kernel
theorem dL_law_341 : decode cL_law 341 = .ok (.aload_n 0, 1) := by decide +kernel
theorem dL_law_342 : decode cL_law 342 = .ok (.iload_n 3, 1) := by decide +kernel
theorem dL_law_343 : decode cL_law 343 = .ok (.iconst 3, 1) := by decide +kernel
theorem dL_law_344 : decode cL_law 344 = .ok (.iadd, 1) := by decide +kernel
theorem dL_law_345 : decode cL_law 345 = .ok (.iaload, 1) := by decide +kernel
theorem dL_law_346 : decode cL_law 346 = .ok (.invokevirtual 40, 3) := by decide +kernel
theorem dL_law_349 : decode cL_law 349 = .ok (.if_icmp .eq 735, 3) := by decide +kernel
theorem dL_law_352 : decode cL_law 352 = .ok (.iconst 0, 1) := by decide +kernel
theorem dL_law_353 : decode cL_law 353 = .ok (.ireturn, 1) := by decide +kernel
theorem dL_law_354 : decode cL_law 354 = .ok (.aload_n 1, 1) := by decide +kernel
theorem dL_law_355 : decode cL_law 355 = .ok (.aload_n 0, 1) := by decide +kernel
theorem dL_law_356 : decode cL_law 356 = .ok (.iload_n 3, 1) := by decide +kernel
theorem dL_law_357 : decode cL_law 357 = .ok (.iconst 1, 1) := by decide +kernel
theorem dL_law_358 : decode cL_law 358 = .ok (.iadd, 1) := by decide +kernel
theorem dL_law_359 : decode cL_law 359 = .ok (.iaload, 1) := by decide +kernel
theorem dL_law_360 : decode cL_law 360 = .ok (.aload_n 0, 1) := by decide +kernel
theorem dL_law_361 : decode cL_law 361 = .ok (.iload_n 3, 1) := by decide +kernel
theorem dL_law_362 : decode cL_law 362 = .ok (.iconst 2, 1) := by decide +kernel
theorem dL_law_363 : decode cL_law 363 = .ok (.iadd, 1) := by decide +kernel
theorem dL_law_364 : decode cL_law 364 = .ok (.iaload, 1) := by decide +kernel
theorem dL_law_365 : decode cL_law 365 = .ok (.aload_n 0, 1) := by decide +kernel
theorem dL_law_366 : decode cL_law 366 = .ok (.iload_n 3, 1) := by decide +kernel
theorem dL_law_367 : decode cL_law 367 = .ok (.iconst 3, 1) := by decide +kernel
theorem dL_law_368 : decode cL_law 368 = .ok (.iadd, 1) := by decide +kernel
theorem dL_law_369 : decode cL_law 369 = .ok (.iaload, 1) := by decide +kernel
theorem dL_law_370 : decode cL_law 370 = .ok (.invokevirtual 41, 3) := by decide +kernel
theorem dL_law_373 : decode cL_law 373 = .ok (.aload_n 2, 1) := by decide +kernel
theorem dL_law_374 : decode cL_law 374 = .ok (.aload_n 0, 1) := by decide +kernel
theorem dL_law_375 : decode cL_law 375 = .ok (.iload_n 3, 1) := by decide +kernel
theorem dL_law_376 : decode cL_law 376 = .ok (.iconst 1, 1) := by decide +kernel
theorem dL_law_377 : decode cL_law 377 = .ok (.iadd, 1) := by decide +kernel
theorem dL_law_378 : decode cL_law 378 = .ok (.iaload, 1) := by decide +kernel
theorem dL_law_379 : decode cL_law 379 = .ok (.aload_n 0, 1) := by decide +kernel
theorem dL_law_380 : decode cL_law 380 = .ok (.iload_n 3, 1) := by decide +kernel
theorem dL_law_381 : decode cL_law 381 = .ok (.iconst 2, 1) := by decide +kernel
theorem dL_law_382 : decode cL_law 382 = .ok (.iadd, 1) := by decide +kernel
theorem dL_law_383 : decode cL_law 383 = .ok (.iaload, 1) := by decide +kernel
theorem dL_law_384 : decode cL_law 384 = .ok (.aload_n 0, 1) := by decide +kernel
theorem dL_law_385 : decode cL_law 385 = .ok (.iload_n 3, 1) := by decide +kernel
theorem dL_law_386 : decode cL_law 386 = .ok (.iconst 3, 1) := by decide +kernel
theorem dL_law_387 : decode cL_law 387 = .ok (.iadd, 1) := by decide +kernel
theorem dL_law_388 : decode cL_law 388 = .ok (.iaload, 1) := by decide +kernel
theorem dL_law_389 : decode cL_law 389 = .ok (.invokevirtual 44, 3) := by decide +kernel
theorem dL_law_392 : decode cL_law 392 = .ok (.if_icmp .eq 692, 3) := by decide +kernel
theorem dL_law_395 : decode cL_law 395 = .ok (.iconst 0, 1) := by decide +kernel
theorem dL_law_396 : decode cL_law 396 = .ok (.ireturn, 1) := by decide +kernel
theorem dL_law_397 : decode cL_law 397 = .ok (.aload_n 1, 1) := by decide +kernel
theorem dL_law_398 : decode cL_law 398 = .ok (.aload_n 0, 1) := by decide +kernel
theorem dL_law_399 : decode cL_law 399 = .ok (.iload_n 3, 1) := by decide +kernel
theorem dL_law_400 : decode cL_law 400 = .ok (.iconst 1, 1) := by decide +kernel
theorem dL_law_401 : decode cL_law 401 = .ok (.iadd, 1) := by decide +kernel
theorem dL_law_402 : decode cL_law 402 = .ok (.iaload, 1) := by decide +kernel
theorem dL_law_403 : decode cL_law 403 = .ok (.invokevirtual 45, 3) := by decide +kernel
theorem dL_law_406 : decode cL_law 406 = .ok (.aload_n 2, 1) := by decide +kernel
theorem dL_law_407 : decode cL_law 407 = .ok (.aload_n 0, 1) := by decide +kernel
theorem dL_law_408 : decode cL_law 408 = .ok (.iload_n 3, 1) := by decide +kernel
theorem dL_law_409 : decode cL_law 409 = .ok (.iconst 1, 1) := by decide +kernel
theorem dL_law_410 : decode cL_law 410 = .ok (.iadd, 1) := by decide +kernel
theorem dL_law_411 : decode cL_law 411 = .ok (.iaload, 1) := by decide +kernel
theorem dL_law_412 : decode cL_law 412 = .ok (.invokevirtual 48, 3) := by decide +kernel
theorem dL_law_415 : decode cL_law 415 = .ok (.if_icmp .eq 669, 3) := by decide +kernel
theorem dL_law_418 : decode cL_law 418 = .ok (.iconst 0, 1) := by decide +kernel
theorem dL_law_419 : decode cL_law 419 = .ok (.ireturn, 1) := by decide +kernel
theorem dL_law_420 : decode cL_law 420 = .ok (.aload_n 1, 1) := by decide +kernel
theorem dL_law_421 : decode cL_law 421 = .ok (.aload_n 0, 1) := by decide +kernel
theorem dL_law_422 : decode cL_law 422 = .ok (.iload_n 3, 1) := by decide +kernel
theorem dL_law_423 : decode cL_law 423 = .ok (.iconst 1, 1) := by decide +kernel
theorem dL_law_424 : decode cL_law 424 = .ok (.iadd, 1) := by decide +kernel
theorem dL_law_425 : decode cL_law 425 = .ok (.iaload, 1) := by decide +kernel
theorem dL_law_426 : decode cL_law 426 = .ok (.aload_n 0, 1) := by decide +kernel
theorem dL_law_427 : decode cL_law 427 = .ok (.iload_n 3, 1) := by decide +kernel
theorem dL_law_428 : decode cL_law 428 = .ok (.iconst 2, 1) := by decide +kernel
theorem dL_law_429 : decode cL_law 429 = .ok (.iadd, 1) := by decide +kernel
theorem dL_law_430 : decode cL_law 430 = .ok (.iaload, 1) := by decide +kernel
theorem dL_law_431 : decode cL_law 431 = .ok (.aload_n 0, 1) := by decide +kernel
theorem dL_law_432 : decode cL_law 432 = .ok (.iload_n 3, 1) := by decide +kernel
theorem dL_law_433 : decode cL_law 433 = .ok (.iconst 3, 1) := by decide +kernel
theorem dL_law_434 : decode cL_law 434 = .ok (.iadd, 1) := by decide +kernel
theorem dL_law_435 : decode cL_law 435 = .ok (.iaload, 1) := by decide +kernel
theorem dL_law_436 : decode cL_law 436 = .ok (.invokevirtual 49, 3) := by decide +kernel
theorem dL_law_439 : decode cL_law 439 = .ok (.aload_n 2, 1) := by decide +kernel
theorem dL_law_440 : decode cL_law 440 = .ok (.aload_n 0, 1) := by decide +kernel
theorem dL_law_441 : decode cL_law 441 = .ok (.iload_n 3, 1) := by decide +kernel
theorem dL_law_442 : decode cL_law 442 = .ok (.iconst 1, 1) := by decide +kernel
theorem dL_law_443 : decode cL_law 443 = .ok (.iadd, 1) := by decide +kernel
theorem dL_law_444 : decode cL_law 444 = .ok (.iaload, 1) := by decide +kernel
theorem dL_law_445 : decode cL_law 445 = .ok (.aload_n 0, 1) := by decide +kernel
theorem dL_law_446 : decode cL_law 446 = .ok (.iload_n 3, 1) := by decide +kernel
theorem dL_law_447 : decode cL_law 447 = .ok (.iconst 2, 1) := by decide +kernel
theorem dL_law_448 : decode cL_law 448 = .ok (.iadd, 1) := by decide +kernel
theorem dL_law_449 : decode cL_law 449 = .ok (.iaload, 1) := by decide +kernel
theorem dL_law_450 : decode cL_law 450 = .ok (.aload_n 0, 1) := by decide +kernel
theorem dL_law_451 : decode cL_law 451 = .ok (.iload_n 3, 1) := by decide +kernel
theorem dL_law_452 : decode cL_law 452 = .ok (.iconst 3, 1) := by decide +kernel
theorem dL_law_453 : decode cL_law 453 = .ok (.iadd, 1) := by decide +kernel
theorem dL_law_454 : decode cL_law 454 = .ok (.iaload, 1) := by decide +kernel
theorem dL_law_455 : decode cL_law 455 = .ok (.invokevirtual 52, 3) := by decide +kernel
theorem dL_law_458 : decode cL_law 458 = .ok (.if_icmp .eq 626, 3) := by decide +kernel
theorem dL_law_461 : decode cL_law 461 = .ok (.iconst 0, 1) := by decide +kernel
theorem dL_law_462 : decode cL_law 462 = .ok (.ireturn, 1) := by decide +kernel
theorem dL_law_463 : decode cL_law 463 = .ok (.aload_n 1, 1) := by decide +kernel
theorem dL_law_464 : decode cL_law 464 = .ok (.aload_n 0, 1) := by decide +kernel
theorem dL_law_465 : decode cL_law 465 = .ok (.iload_n 3, 1) := by decide +kernel
theorem dL_law_466 : decode cL_law 466 = .ok (.iconst 1, 1) := by decide +kernel
theorem dL_law_467 : decode cL_law 467 = .ok (.iadd, 1) := by decide +kernel
theorem dL_law_468 : decode cL_law 468 = .ok (.iaload, 1) := by decide +kernel
theorem dL_law_469 : decode cL_law 469 = .ok (.aload_n 0, 1) := by decide +kernel
theorem dL_law_470 : decode cL_law 470 = .ok (.iload_n 3, 1) := by decide +kernel
theorem dL_law_471 : decode cL_law 471 = .ok (.iconst 2, 1) := by decide +kernel
theorem dL_law_472 : decode cL_law 472 = .ok (.iadd, 1) := by decide +kernel
theorem dL_law_473 : decode cL_law 473 = .ok (.iaload, 1) := by decide +kernel
theorem dL_law_474 : decode cL_law 474 = .ok (.invokevirtual 53, 3) := by decide +kernel
theorem dL_law_477 : decode cL_law 477 = .ok (.aload_n 2, 1) := by decide +kernel
theorem dL_law_478 : decode cL_law 478 = .ok (.aload_n 0, 1) := by decide +kernel
theorem dL_law_479 : decode cL_law 479 = .ok (.iload_n 3, 1) := by decide +kernel
theorem dL_law_480 : decode cL_law 480 = .ok (.iconst 1, 1) := by decide +kernel
theorem dL_law_481 : decode cL_law 481 = .ok (.iadd, 1) := by decide +kernel
theorem dL_law_482 : decode cL_law 482 = .ok (.iaload, 1) := by decide +kernel
theorem dL_law_483 : decode cL_law 483 = .ok (.aload_n 0, 1) := by decide +kernel
theorem dL_law_484 : decode cL_law 484 = .ok (.iload_n 3, 1) := by decide +kernel
theorem dL_law_485 : decode cL_law 485 = .ok (.iconst 2, 1) := by decide +kernel
theorem dL_law_486 : decode cL_law 486 = .ok (.iadd, 1) := by decide +kernel
theorem dL_law_487 : decode cL_law 487 = .ok (.iaload, 1) := by decide +kernel
theorem dL_law_488 : decode cL_law 488 = .ok (.invokevirtual 56, 3) := by decide +kernel
theorem dL_law_491 : decode cL_law 491 = .ok (.if_icmp .eq 593, 3) := by decide +kernel
theorem dL_law_494 : decode cL_law 494 = .ok (.iconst 0, 1) := by decide +kernel
theorem dL_law_495 : decode cL_law 495 = .ok (.ireturn, 1) := by decide +kernel
theorem dL_law_496 : decode cL_law 496 = .ok (.aload_n 1, 1) := by decide +kernel
theorem dL_law_497 : decode cL_law 497 = .ok (.aload_n 0, 1) := by decide +kernel
theorem dL_law_498 : decode cL_law 498 = .ok (.iload_n 3, 1) := by decide +kernel
theorem dL_law_499 : decode cL_law 499 = .ok (.iconst 1, 1) := by decide +kernel
theorem dL_law_500 : decode cL_law 500 = .ok (.iadd, 1) := by decide +kernel
theorem dL_law_501 : decode cL_law 501 = .ok (.iaload, 1) := by decide +kernel
theorem dL_law_502 : decode cL_law 502 = .ok (.aload_n 0, 1) := by decide +kernel
theorem dL_law_503 : decode cL_law 503 = .ok (.iload_n 3, 1) := by decide +kernel
theorem dL_law_504 : decode cL_law 504 = .ok (.iconst 2, 1) := by decide +kernel
theorem dL_law_505 : decode cL_law 505 = .ok (.iadd, 1) := by decide +kernel
theorem dL_law_506 : decode cL_law 506 = .ok (.iaload, 1) := by decide +kernel
theorem dL_law_507 : decode cL_law 507 = .ok (.aload_n 0, 1) := by decide +kernel
theorem dL_law_508 : decode cL_law 508 = .ok (.iload_n 3, 1) := by decide +kernel
theorem dL_law_509 : decode cL_law 509 = .ok (.iconst 3, 1) := by decide +kernel
theorem dL_law_510 : decode cL_law 510 = .ok (.iadd, 1) := by decide +kernel
theorem dL_law_511 : decode cL_law 511 = .ok (.iaload, 1) := by decide +kernel
theorem dL_law_512 : decode cL_law 512 = .ok (.invokevirtual 57, 3) := by decide +kernel
theorem dL_law_515 : decode cL_law 515 = .ok (.aload_n 2, 1) := by decide +kernel
theorem dL_law_516 : decode cL_law 516 = .ok (.aload_n 0, 1) := by decide +kernel
theorem dL_law_517 : decode cL_law 517 = .ok (.iload_n 3, 1) := by decide +kernel
theorem dL_law_518 : decode cL_law 518 = .ok (.iconst 1, 1) := by decide +kernel
theorem dL_law_519 : decode cL_law 519 = .ok (.iadd, 1) := by decide +kernel
theorem dL_law_520 : decode cL_law 520 = .ok (.iaload, 1) := by decide +kernel
theorem dL_law_521 : decode cL_law 521 = .ok (.aload_n 0, 1) := by decide +kernel
theorem dL_law_522 : decode cL_law 522 = .ok (.iload_n 3, 1) := by decide +kernel
theorem dL_law_523 : decode cL_law 523 = .ok (.iconst 2, 1) := by decide +kernel
theorem dL_law_524 : decode cL_law 524 = .ok (.iadd, 1) := by decide +kernel
theorem dL_law_525 : decode cL_law 525 = .ok (.iaload, 1) := by decide +kernel
theorem dL_law_526 : decode cL_law 526 = .ok (.aload_n 0, 1) := by decide +kernel
theorem dL_law_527 : decode cL_law 527 = .ok (.iload_n 3, 1) := by decide +kernel
theorem dL_law_528 : decode cL_law 528 = .ok (.iconst 3, 1) := by decide +kernel
theorem dL_law_529 : decode cL_law 529 = .ok (.iadd, 1) := by decide +kernel
theorem dL_law_530 : decode cL_law 530 = .ok (.iaload, 1) := by decide +kernel
theorem dL_law_531 : decode cL_law 531 = .ok (.invokevirtual 61, 3) := by decide +kernel
theorem dL_law_534 : decode cL_law 534 = .ok (.lcmp, 1) := by decide +kernel
theorem dL_law_535 : decode cL_law 535 = .ok (.ifCond .eq 549, 3) := by decide +kernel
theorem dL_law_538 : decode cL_law 538 = .ok (.iconst 0, 1) := by decide +kernel
theorem dL_law_539 : decode cL_law 539 = .ok (.ireturn, 1) := by decide +kernel
theorem dL_law_540 : decode cL_law 540 = .ok (.aload_n 1, 1) := by decide +kernel
theorem dL_law_541 : decode cL_law 541 = .ok (.aload_n 0, 1) := by decide +kernel
theorem dL_law_542 : decode cL_law 542 = .ok (.iload_n 3, 1) := by decide +kernel
theorem dL_law_543 : decode cL_law 543 = .ok (.iconst 1, 1) := by decide +kernel
theorem dL_law_544 : decode cL_law 544 = .ok (.iadd, 1) := by decide +kernel
theorem dL_law_545 : decode cL_law 545 = .ok (.iaload, 1) := by decide +kernel
theorem dL_law_546 : decode cL_law 546 = .ok (.invokevirtual 62, 3) := by decide +kernel
theorem dL_law_549 : decode cL_law 549 = .ok (.aload_n 2, 1) := by decide +kernel
theorem dL_law_550 : decode cL_law 550 = .ok (.aload_n 0, 1) := by decide +kernel
theorem dL_law_551 : decode cL_law 551 = .ok (.iload_n 3, 1) := by decide +kernel
theorem dL_law_552 : decode cL_law 552 = .ok (.iconst 1, 1) := by decide +kernel
theorem dL_law_553 : decode cL_law 553 = .ok (.iadd, 1) := by decide +kernel
theorem dL_law_554 : decode cL_law 554 = .ok (.iaload, 1) := by decide +kernel
theorem dL_law_555 : decode cL_law 555 = .ok (.invokevirtual 65, 3) := by decide +kernel
theorem dL_law_558 : decode cL_law 558 = .ok (.if_icmp .eq 526, 3) := by decide +kernel
theorem dL_law_561 : decode cL_law 561 = .ok (.iconst 0, 1) := by decide +kernel
theorem dL_law_562 : decode cL_law 562 = .ok (.ireturn, 1) := by decide +kernel
theorem dL_law_563 : decode cL_law 563 = .ok (.aload_n 1, 1) := by decide +kernel
theorem dL_law_564 : decode cL_law 564 = .ok (.aload_n 0, 1) := by decide +kernel
theorem dL_law_565 : decode cL_law 565 = .ok (.iload_n 3, 1) := by decide +kernel
theorem dL_law_566 : decode cL_law 566 = .ok (.iconst 1, 1) := by decide +kernel
theorem dL_law_567 : decode cL_law 567 = .ok (.iadd, 1) := by decide +kernel
theorem dL_law_568 : decode cL_law 568 = .ok (.iaload, 1) := by decide +kernel
theorem dL_law_569 : decode cL_law 569 = .ok (.invokevirtual 66, 3) := by decide +kernel
theorem dL_law_572 : decode cL_law 572 = .ok (.aload_n 2, 1) := by decide +kernel
theorem dL_law_573 : decode cL_law 573 = .ok (.aload_n 0, 1) := by decide +kernel
theorem dL_law_574 : decode cL_law 574 = .ok (.iload_n 3, 1) := by decide +kernel
theorem dL_law_575 : decode cL_law 575 = .ok (.iconst 1, 1) := by decide +kernel
theorem dL_law_576 : decode cL_law 576 = .ok (.iadd, 1) := by decide +kernel
theorem dL_law_577 : decode cL_law 577 = .ok (.iaload, 1) := by decide +kernel
theorem dL_law_578 : decode cL_law 578 = .ok (.invokevirtual 69, 3) := by decide +kernel
theorem dL_law_581 : decode cL_law 581 = .ok (.if_icmp .eq 503, 3) := by decide +kernel
theorem dL_law_584 : decode cL_law 584 = .ok (.iconst 0, 1) := by decide +kernel
theorem dL_law_585 : decode cL_law 585 = .ok (.ireturn, 1) := by decide +kernel
theorem dL_law_586 : decode cL_law 586 = .ok (.aload_n 1, 1) := by decide +kernel
theorem dL_law_587 : decode cL_law 587 = .ok (.aload_n 0, 1) := by decide +kernel
theorem dL_law_588 : decode cL_law 588 = .ok (.iload_n 3, 1) := by decide +kernel
theorem dL_law_589 : decode cL_law 589 = .ok (.iconst 1, 1) := by decide +kernel
theorem dL_law_590 : decode cL_law 590 = .ok (.iadd, 1) := by decide +kernel
theorem dL_law_591 : decode cL_law 591 = .ok (.iaload, 1) := by decide +kernel
theorem dL_law_592 : decode cL_law 592 = .ok (.aload_n 0, 1) := by decide +kernel
theorem dL_law_593 : decode cL_law 593 = .ok (.iload_n 3, 1) := by decide +kernel
theorem dL_law_594 : decode cL_law 594 = .ok (.iconst 2, 1) := by decide +kernel
theorem dL_law_595 : decode cL_law 595 = .ok (.iadd, 1) := by decide +kernel
theorem dL_law_596 : decode cL_law 596 = .ok (.iaload, 1) := by decide +kernel
theorem dL_law_597 : decode cL_law 597 = .ok (.invokevirtual 70, 3) := by decide +kernel
theorem dL_law_600 : decode cL_law 600 = .ok (.aload_n 2, 1) := by decide +kernel
theorem dL_law_601 : decode cL_law 601 = .ok (.aload_n 0, 1) := by decide +kernel
theorem dL_law_602 : decode cL_law 602 = .ok (.iload_n 3, 1) := by decide +kernel
theorem dL_law_603 : decode cL_law 603 = .ok (.iconst 1, 1) := by decide +kernel
theorem dL_law_604 : decode cL_law 604 = .ok (.iadd, 1) := by decide +kernel
theorem dL_law_605 : decode cL_law 605 = .ok (.iaload, 1) := by decide +kernel
theorem dL_law_606 : decode cL_law 606 = .ok (.aload_n 0, 1) := by decide +kernel
theorem dL_law_607 : decode cL_law 607 = .ok (.iload_n 3, 1) := by decide +kernel
theorem dL_law_608 : decode cL_law 608 = .ok (.iconst 2, 1) := by decide +kernel
theorem dL_law_609 : decode cL_law 609 = .ok (.iadd, 1) := by decide +kernel
theorem dL_law_610 : decode cL_law 610 = .ok (.iaload, 1) := by decide +kernel
theorem dL_law_611 : decode cL_law 611 = .ok (.invokevirtual 73, 3) := by decide +kernel
theorem dL_law_614 : decode cL_law 614 = .ok (.if_icmp .eq 470, 3) := by decide +kernel
theorem dL_law_617 : decode cL_law 617 = .ok (.iconst 0, 1) := by decide +kernel
theorem dL_law_618 : decode cL_law 618 = .ok (.ireturn, 1) := by decide +kernel
theorem dL_law_619 : decode cL_law 619 = .ok (.aload_n 1, 1) := by decide +kernel
theorem dL_law_620 : decode cL_law 620 = .ok (.invokevirtual 74, 3) := by decide +kernel
theorem dL_law_623 : decode cL_law 623 = .ok (.aload_n 2, 1) := by decide +kernel
theorem dL_law_624 : decode cL_law 624 = .ok (.invokevirtual 77, 3) := by decide +kernel
theorem dL_law_627 : decode cL_law 627 = .ok (.if_icmp .eq 457, 3) := by decide +kernel
theorem dL_law_630 : decode cL_law 630 = .ok (.iconst 0, 1) := by decide +kernel
theorem dL_law_631 : decode cL_law 631 = .ok (.ireturn, 1) := by decide +kernel
theorem dL_law_632 : decode cL_law 632 = .ok (.aload_n 1, 1) := by decide +kernel
theorem dL_law_633 : decode cL_law 633 = .ok (.aload_n 0, 1) := by decide +kernel
theorem dL_law_634 : decode cL_law 634 = .ok (.iload_n 3, 1) := by decide +kernel
theorem dL_law_635 : decode cL_law 635 = .ok (.iconst 1, 1) := by decide +kernel
theorem dL_law_636 : decode cL_law 636 = .ok (.iadd, 1) := by decide +kernel
theorem dL_law_637 : decode cL_law 637 = .ok (.iaload, 1) := by decide +kernel
theorem dL_law_638 : decode cL_law 638 = .ok (.invokevirtual 78, 3) := by decide +kernel
theorem dL_law_641 : decode cL_law 641 = .ok (.aload_n 2, 1) := by decide +kernel
theorem dL_law_642 : decode cL_law 642 = .ok (.aload_n 0, 1) := by decide +kernel
theorem dL_law_643 : decode cL_law 643 = .ok (.iload_n 3, 1) := by decide +kernel
theorem dL_law_644 : decode cL_law 644 = .ok (.iconst 1, 1) := by decide +kernel
theorem dL_law_645 : decode cL_law 645 = .ok (.iadd, 1) := by decide +kernel
theorem dL_law_646 : decode cL_law 646 = .ok (.iaload, 1) := by decide +kernel
theorem dL_law_647 : decode cL_law 647 = .ok (.invokevirtual 81, 3) := by decide +kernel
theorem dL_law_650 : decode cL_law 650 = .ok (.if_icmp .eq 434, 3) := by decide +kernel
theorem dL_law_653 : decode cL_law 653 = .ok (.iconst 0, 1) := by decide +kernel
theorem dL_law_654 : decode cL_law 654 = .ok (.ireturn, 1) := by decide +kernel
theorem dL_law_655 : decode cL_law 655 = .ok (.aload_n 1, 1) := by decide +kernel
theorem dL_law_656 : decode cL_law 656 = .ok (.aload_n 0, 1) := by decide +kernel
theorem dL_law_657 : decode cL_law 657 = .ok (.iload_n 3, 1) := by decide +kernel
theorem dL_law_658 : decode cL_law 658 = .ok (.iconst 1, 1) := by decide +kernel
theorem dL_law_659 : decode cL_law 659 = .ok (.iadd, 1) := by decide +kernel
theorem dL_law_660 : decode cL_law 660 = .ok (.iaload, 1) := by decide +kernel
theorem dL_law_661 : decode cL_law 661 = .ok (.aload_n 0, 1) := by decide +kernel
theorem dL_law_662 : decode cL_law 662 = .ok (.iload_n 3, 1) := by decide +kernel
theorem dL_law_663 : decode cL_law 663 = .ok (.iconst 2, 1) := by decide +kernel
theorem dL_law_664 : decode cL_law 664 = .ok (.iadd, 1) := by decide +kernel
theorem dL_law_665 : decode cL_law 665 = .ok (.iaload, 1) := by decide +kernel
theorem dL_law_666 : decode cL_law 666 = .ok (.invokevirtual 82, 3) := by decide +kernel
theorem dL_law_669 : decode cL_law 669 = .ok (.aload_n 2, 1) := by decide +kernel
theorem dL_law_670 : decode cL_law 670 = .ok (.aload_n 0, 1) := by decide +kernel
theorem dL_law_671 : decode cL_law 671 = .ok (.iload_n 3, 1) := by decide +kernel
theorem dL_law_672 : decode cL_law 672 = .ok (.iconst 1, 1) := by decide +kernel
theorem dL_law_673 : decode cL_law 673 = .ok (.iadd, 1) := by decide +kernel
theorem dL_law_674 : decode cL_law 674 = .ok (.iaload, 1) := by decide +kernel
theorem dL_law_675 : decode cL_law 675 = .ok (.aload_n 0, 1) := by decide +kernel
theorem dL_law_676 : decode cL_law 676 = .ok (.iload_n 3, 1) := by decide +kernel
theorem dL_law_677 : decode cL_law 677 = .ok (.iconst 2, 1) := by decide +kernel
theorem dL_law_678 : decode cL_law 678 = .ok (.iadd, 1) := by decide +kernel
theorem dL_law_679 : decode cL_law 679 = .ok (.iaload, 1) := by decide +kernel
theorem dL_law_680 : decode cL_law 680 = .ok (.invokevirtual 85, 3) := by decide +kernel
theorem dL_law_683 : decode cL_law 683 = .ok (.if_icmp .eq 401, 3) := by decide +kernel
theorem dL_law_686 : decode cL_law 686 = .ok (.iconst 0, 1) := by decide +kernel
theorem dL_law_687 : decode cL_law 687 = .ok (.ireturn, 1) := by decide +kernel
theorem dL_law_688 : decode cL_law 688 = .ok (.aload_n 1, 1) := by decide +kernel
theorem dL_law_689 : decode cL_law 689 = .ok (.aload_n 0, 1) := by decide +kernel
theorem dL_law_690 : decode cL_law 690 = .ok (.iload_n 3, 1) := by decide +kernel
theorem dL_law_691 : decode cL_law 691 = .ok (.iconst 1, 1) := by decide +kernel
theorem dL_law_692 : decode cL_law 692 = .ok (.iadd, 1) := by decide +kernel
theorem dL_law_693 : decode cL_law 693 = .ok (.iaload, 1) := by decide +kernel
theorem dL_law_694 : decode cL_law 694 = .ok (.invokevirtual 86, 3) := by decide +kernel
theorem dL_law_697 : decode cL_law 697 = .ok (.aload_n 2, 1) := by decide +kernel
theorem dL_law_698 : decode cL_law 698 = .ok (.aload_n 0, 1) := by decide +kernel
theorem dL_law_699 : decode cL_law 699 = .ok (.iload_n 3, 1) := by decide +kernel
theorem dL_law_700 : decode cL_law 700 = .ok (.iconst 1, 1) := by decide +kernel
theorem dL_law_701 : decode cL_law 701 = .ok (.iadd, 1) := by decide +kernel
theorem dL_law_702 : decode cL_law 702 = .ok (.iaload, 1) := by decide +kernel
theorem dL_law_703 : decode cL_law 703 = .ok (.invokevirtual 89, 3) := by decide +kernel
theorem dL_law_706 : decode cL_law 706 = .ok (.if_icmp .eq 378, 3) := by decide +kernel
theorem dL_law_709 : decode cL_law 709 = .ok (.iconst 0, 1) := by decide +kernel
theorem dL_law_710 : decode cL_law 710 = .ok (.ireturn, 1) := by decide +kernel
theorem dL_law_711 : decode cL_law 711 = .ok (.aload_n 1, 1) := by decide +kernel
theorem dL_law_712 : decode cL_law 712 = .ok (.invokevirtual 90, 3) := by decide +kernel
theorem dL_law_715 : decode cL_law 715 = .ok (.aload_n 2, 1) := by decide +kernel
theorem dL_law_716 : decode cL_law 716 = .ok (.invokevirtual 93, 3) := by decide +kernel
theorem dL_law_719 : decode cL_law 719 = .ok (.if_icmp .eq 365, 3) := by decide +kernel
theorem dL_law_722 : decode cL_law 722 = .ok (.iconst 0, 1) := by decide +kernel
theorem dL_law_723 : decode cL_law 723 = .ok (.ireturn, 1) := by decide +kernel
theorem dL_law_724 : decode cL_law 724 = .ok (.aload_n 1, 1) := by decide +kernel
theorem dL_law_725 : decode cL_law 725 = .ok (.aload_n 0, 1) := by decide +kernel
theorem dL_law_726 : decode cL_law 726 = .ok (.iload_n 3, 1) := by decide +kernel
theorem dL_law_727 : decode cL_law 727 = .ok (.iconst 1, 1) := by decide +kernel
theorem dL_law_728 : decode cL_law 728 = .ok (.iadd, 1) := by decide +kernel
theorem dL_law_729 : decode cL_law 729 = .ok (.iaload, 1) := by decide +kernel
theorem dL_law_730 : decode cL_law 730 = .ok (.invokevirtual 94, 3) := by decide +kernel
theorem dL_law_733 : decode cL_law 733 = .ok (.aload_n 2, 1) := by decide +kernel
theorem dL_law_734 : decode cL_law 734 = .ok (.aload_n 0, 1) := by decide +kernel
theorem dL_law_735 : decode cL_law 735 = .ok (.iload_n 3, 1) := by decide +kernel
theorem dL_law_736 : decode cL_law 736 = .ok (.iconst 1, 1) := by decide +kernel
theorem dL_law_737 : decode cL_law 737 = .ok (.iadd, 1) := by decide +kernel
theorem dL_law_738 : decode cL_law 738 = .ok (.iaload, 1) := by decide +kernel
theorem dL_law_739 : decode cL_law 739 = .ok (.invokevirtual 97, 3) := by decide +kernel
theorem dL_law_742 : decode cL_law 742 = .ok (.if_icmp .eq 342, 3) := by decide +kernel
theorem dL_law_745 : decode cL_law 745 = .ok (.iconst 0, 1) := by decide +kernel
theorem dL_law_746 : decode cL_law 746 = .ok (.ireturn, 1) := by decide +kernel
theorem dL_law_747 : decode cL_law 747 = .ok (.aload_n 1, 1) := by decide +kernel
theorem dL_law_748 : decode cL_law 748 = .ok (.aload_n 0, 1) := by decide +kernel
theorem dL_law_749 : decode cL_law 749 = .ok (.iload_n 3, 1) := by decide +kernel
theorem dL_law_750 : decode cL_law 750 = .ok (.iconst 1, 1) := by decide +kernel
theorem dL_law_751 : decode cL_law 751 = .ok (.iadd, 1) := by decide +kernel
theorem dL_law_752 : decode cL_law 752 = .ok (.iaload, 1) := by decide +kernel
theorem dL_law_753 : decode cL_law 753 = .ok (.invokevirtual 98, 3) := by decide +kernel
theorem dL_law_756 : decode cL_law 756 = .ok (.aload_n 2, 1) := by decide +kernel
theorem dL_law_757 : decode cL_law 757 = .ok (.aload_n 0, 1) := by decide +kernel
theorem dL_law_758 : decode cL_law 758 = .ok (.iload_n 3, 1) := by decide +kernel
theorem dL_law_759 : decode cL_law 759 = .ok (.iconst 1, 1) := by decide +kernel
theorem dL_law_760 : decode cL_law 760 = .ok (.iadd, 1) := by decide +kernel
theorem dL_law_761 : decode cL_law 761 = .ok (.iaload, 1) := by decide +kernel
theorem dL_law_762 : decode cL_law 762 = .ok (.invokevirtual 101, 3) := by decide +kernel
theorem dL_law_765 : decode cL_law 765 = .ok (.if_icmp .eq 319, 3) := by decide +kernel
theorem dL_law_768 : decode cL_law 768 = .ok (.iconst 0, 1) := by decide +kernel
theorem dL_law_769 : decode cL_law 769 = .ok (.ireturn, 1) := by decide +kernel
theorem dL_law_770 : decode cL_law 770 = .ok (.aload_n 1, 1) := by decide +kernel
theorem dL_law_771 : decode cL_law 771 = .ok (.aload_n 0, 1) := by decide +kernel
theorem dL_law_772 : decode cL_law 772 = .ok (.iload_n 3, 1) := by decide +kernel
theorem dL_law_773 : decode cL_law 773 = .ok (.iconst 1, 1) := by decide +kernel
theorem dL_law_774 : decode cL_law 774 = .ok (.iadd, 1) := by decide +kernel
theorem dL_law_775 : decode cL_law 775 = .ok (.iaload, 1) := by decide +kernel
theorem dL_law_776 : decode cL_law 776 = .ok (.invokevirtual 102, 3) := by decide +kernel
theorem dL_law_779 : decode cL_law 779 = .ok (.aload_n 2, 1) := by decide +kernel
theorem dL_law_780 : decode cL_law 780 = .ok (.aload_n 0, 1) := by decide +kernel
theorem dL_law_781 : decode cL_law 781 = .ok (.iload_n 3, 1) := by decide +kernel
theorem dL_law_782 : decode cL_law 782 = .ok (.iconst 1, 1) := by decide +kernel
theorem dL_law_783 : decode cL_law 783 = .ok (.iadd, 1) := by decide +kernel
theorem dL_law_784 : decode cL_law 784 = .ok (.iaload, 1) := by decide +kernel
theorem dL_law_785 : decode cL_law 785 = .ok (.invokevirtual 105, 3) := by decide +kernel
theorem dL_law_788 : decode cL_law 788 = .ok (.if_icmp .eq 296, 3) := by decide +kernel
theorem dL_law_791 : decode cL_law 791 = .ok (.iconst 0, 1) := by decide +kernel
theorem dL_law_792 : decode cL_law 792 = .ok (.ireturn, 1) := by decide +kernel
theorem dL_law_793 : decode cL_law 793 = .ok (.aload_n 1, 1) := by decide +kernel
theorem dL_law_794 : decode cL_law 794 = .ok (.aload_n 0, 1) := by decide +kernel
theorem dL_law_795 : decode cL_law 795 = .ok (.iload_n 3, 1) := by decide +kernel
theorem dL_law_796 : decode cL_law 796 = .ok (.iconst 1, 1) := by decide +kernel
theorem dL_law_797 : decode cL_law 797 = .ok (.iadd, 1) := by decide +kernel
theorem dL_law_798 : decode cL_law 798 = .ok (.iaload, 1) := by decide +kernel
theorem dL_law_799 : decode cL_law 799 = .ok (.aload_n 0, 1) := by decide +kernel
theorem dL_law_800 : decode cL_law 800 = .ok (.iload_n 3, 1) := by decide +kernel
theorem dL_law_801 : decode cL_law 801 = .ok (.iconst 2, 1) := by decide +kernel
theorem dL_law_802 : decode cL_law 802 = .ok (.iadd, 1) := by decide +kernel
theorem dL_law_803 : decode cL_law 803 = .ok (.iaload, 1) := by decide +kernel
theorem dL_law_804 : decode cL_law 804 = .ok (.invokevirtual 106, 3) := by decide +kernel
theorem dL_law_807 : decode cL_law 807 = .ok (.aload_n 2, 1) := by decide +kernel
theorem dL_law_808 : decode cL_law 808 = .ok (.aload_n 0, 1) := by decide +kernel
theorem dL_law_809 : decode cL_law 809 = .ok (.iload_n 3, 1) := by decide +kernel
theorem dL_law_810 : decode cL_law 810 = .ok (.iconst 1, 1) := by decide +kernel
theorem dL_law_811 : decode cL_law 811 = .ok (.iadd, 1) := by decide +kernel
theorem dL_law_812 : decode cL_law 812 = .ok (.iaload, 1) := by decide +kernel
theorem dL_law_813 : decode cL_law 813 = .ok (.aload_n 0, 1) := by decide +kernel
theorem dL_law_814 : decode cL_law 814 = .ok (.iload_n 3, 1) := by decide +kernel
theorem dL_law_815 : decode cL_law 815 = .ok (.iconst 2, 1) := by decide +kernel
theorem dL_law_816 : decode cL_law 816 = .ok (.iadd, 1) := by decide +kernel
theorem dL_law_817 : decode cL_law 817 = .ok (.iaload, 1) := by decide +kernel
theorem dL_law_818 : decode cL_law 818 = .ok (.invokevirtual 109, 3) := by decide +kernel
theorem dL_law_821 : decode cL_law 821 = .ok (.if_icmp .eq 263, 3) := by decide +kernel
theorem dL_law_824 : decode cL_law 824 = .ok (.iconst 0, 1) := by decide +kernel
theorem dL_law_825 : decode cL_law 825 = .ok (.ireturn, 1) := by decide +kernel
theorem dL_law_826 : decode cL_law 826 = .ok (.aload_n 1, 1) := by decide +kernel
theorem dL_law_827 : decode cL_law 827 = .ok (.aload_n 0, 1) := by decide +kernel
theorem dL_law_828 : decode cL_law 828 = .ok (.iload_n 3, 1) := by decide +kernel
theorem dL_law_829 : decode cL_law 829 = .ok (.iconst 1, 1) := by decide +kernel
theorem dL_law_830 : decode cL_law 830 = .ok (.iadd, 1) := by decide +kernel
theorem dL_law_831 : decode cL_law 831 = .ok (.iaload, 1) := by decide +kernel
theorem dL_law_832 : decode cL_law 832 = .ok (.invokevirtual 110, 3) := by decide +kernel
theorem dL_law_835 : decode cL_law 835 = .ok (.aload_n 2, 1) := by decide +kernel
theorem dL_law_836 : decode cL_law 836 = .ok (.aload_n 0, 1) := by decide +kernel
theorem dL_law_837 : decode cL_law 837 = .ok (.iload_n 3, 1) := by decide +kernel
theorem dL_law_838 : decode cL_law 838 = .ok (.iconst 1, 1) := by decide +kernel
theorem dL_law_839 : decode cL_law 839 = .ok (.iadd, 1) := by decide +kernel
theorem dL_law_840 : decode cL_law 840 = .ok (.iaload, 1) := by decide +kernel
theorem dL_law_841 : decode cL_law 841 = .ok (.invokevirtual 113, 3) := by decide +kernel
theorem dL_law_844 : decode cL_law 844 = .ok (.if_icmp .eq 240, 3) := by decide +kernel
theorem dL_law_847 : decode cL_law 847 = .ok (.iconst 0, 1) := by decide +kernel
theorem dL_law_848 : decode cL_law 848 = .ok (.ireturn, 1) := by decide +kernel
theorem dL_law_849 : decode cL_law 849 = .ok (.aload_n 1, 1) := by decide +kernel
theorem dL_law_850 : decode cL_law 850 = .ok (.aload_n 0, 1) := by decide +kernel
theorem dL_law_851 : decode cL_law 851 = .ok (.iload_n 3, 1) := by decide +kernel
theorem dL_law_852 : decode cL_law 852 = .ok (.iconst 1, 1) := by decide +kernel
theorem dL_law_853 : decode cL_law 853 = .ok (.iadd, 1) := by decide +kernel
theorem dL_law_854 : decode cL_law 854 = .ok (.iaload, 1) := by decide +kernel
theorem dL_law_855 : decode cL_law 855 = .ok (.invokevirtual 114, 3) := by decide +kernel
theorem dL_law_858 : decode cL_law 858 = .ok (.aload_n 2, 1) := by decide +kernel
theorem dL_law_859 : decode cL_law 859 = .ok (.aload_n 0, 1) := by decide +kernel
theorem dL_law_860 : decode cL_law 860 = .ok (.iload_n 3, 1) := by decide +kernel
theorem dL_law_861 : decode cL_law 861 = .ok (.iconst 1, 1) := by decide +kernel
theorem dL_law_862 : decode cL_law 862 = .ok (.iadd, 1) := by decide +kernel
theorem dL_law_863 : decode cL_law 863 = .ok (.iaload, 1) := by decide +kernel
theorem dL_law_864 : decode cL_law 864 = .ok (.invokevirtual 117, 3) := by decide +kernel
theorem dL_law_867 : decode cL_law 867 = .ok (.if_icmp .eq 217, 3) := by decide +kernel
theorem dL_law_870 : decode cL_law 870 = .ok (.iconst 0, 1) := by decide +kernel
theorem dL_law_871 : decode cL_law 871 = .ok (.ireturn, 1) := by decide +kernel
theorem dL_law_872 : decode cL_law 872 = .ok (.aload_n 1, 1) := by decide +kernel
theorem dL_law_873 : decode cL_law 873 = .ok (.aload_n 0, 1) := by decide +kernel
theorem dL_law_874 : decode cL_law 874 = .ok (.iload_n 3, 1) := by decide +kernel
theorem dL_law_875 : decode cL_law 875 = .ok (.iconst 1, 1) := by decide +kernel
theorem dL_law_876 : decode cL_law 876 = .ok (.iadd, 1) := by decide +kernel
theorem dL_law_877 : decode cL_law 877 = .ok (.iaload, 1) := by decide +kernel
theorem dL_law_878 : decode cL_law 878 = .ok (.aload_n 0, 1) := by decide +kernel
theorem dL_law_879 : decode cL_law 879 = .ok (.iload_n 3, 1) := by decide +kernel
theorem dL_law_880 : decode cL_law 880 = .ok (.iconst 2, 1) := by decide +kernel
theorem dL_law_881 : decode cL_law 881 = .ok (.iadd, 1) := by decide +kernel
theorem dL_law_882 : decode cL_law 882 = .ok (.iaload, 1) := by decide +kernel
theorem dL_law_883 : decode cL_law 883 = .ok (.invokevirtual 118, 3) := by decide +kernel
theorem dL_law_886 : decode cL_law 886 = .ok (.aload_n 2, 1) := by decide +kernel
theorem dL_law_887 : decode cL_law 887 = .ok (.aload_n 0, 1) := by decide +kernel
theorem dL_law_888 : decode cL_law 888 = .ok (.iload_n 3, 1) := by decide +kernel
theorem dL_law_889 : decode cL_law 889 = .ok (.iconst 1, 1) := by decide +kernel
theorem dL_law_890 : decode cL_law 890 = .ok (.iadd, 1) := by decide +kernel
theorem dL_law_891 : decode cL_law 891 = .ok (.iaload, 1) := by decide +kernel
theorem dL_law_892 : decode cL_law 892 = .ok (.aload_n 0, 1) := by decide +kernel
theorem dL_law_893 : decode cL_law 893 = .ok (.iload_n 3, 1) := by decide +kernel
theorem dL_law_894 : decode cL_law 894 = .ok (.iconst 2, 1) := by decide +kernel
theorem dL_law_895 : decode cL_law 895 = .ok (.iadd, 1) := by decide +kernel
theorem dL_law_896 : decode cL_law 896 = .ok (.iaload, 1) := by decide +kernel
theorem dL_law_897 : decode cL_law 897 = .ok (.invokevirtual 121, 3) := by decide +kernel
theorem dL_law_900 : decode cL_law 900 = .ok (.if_icmp .eq 184, 3) := by decide +kernel
theorem dL_law_903 : decode cL_law 903 = .ok (.iconst 0, 1) := by decide +kernel
theorem dL_law_904 : decode cL_law 904 = .ok (.ireturn, 1) := by decide +kernel
theorem dL_law_905 : decode cL_law 905 = .ok (.aload_n 1, 1) := by decide +kernel
theorem dL_law_906 : decode cL_law 906 = .ok (.aload_n 0, 1) := by decide +kernel
theorem dL_law_907 : decode cL_law 907 = .ok (.iload_n 3, 1) := by decide +kernel
theorem dL_law_908 : decode cL_law 908 = .ok (.iconst 1, 1) := by decide +kernel
theorem dL_law_909 : decode cL_law 909 = .ok (.iadd, 1) := by decide +kernel
theorem dL_law_910 : decode cL_law 910 = .ok (.iaload, 1) := by decide +kernel
theorem dL_law_911 : decode cL_law 911 = .ok (.invokevirtual 122, 3) := by decide +kernel
theorem dL_law_914 : decode cL_law 914 = .ok (.aload_n 2, 1) := by decide +kernel
theorem dL_law_915 : decode cL_law 915 = .ok (.aload_n 0, 1) := by decide +kernel
theorem dL_law_916 : decode cL_law 916 = .ok (.iload_n 3, 1) := by decide +kernel
theorem dL_law_917 : decode cL_law 917 = .ok (.iconst 1, 1) := by decide +kernel
theorem dL_law_918 : decode cL_law 918 = .ok (.iadd, 1) := by decide +kernel
theorem dL_law_919 : decode cL_law 919 = .ok (.iaload, 1) := by decide +kernel
theorem dL_law_920 : decode cL_law 920 = .ok (.invokevirtual 125, 3) := by decide +kernel
theorem dL_law_923 : decode cL_law 923 = .ok (.if_icmp .eq 161, 3) := by decide +kernel
theorem dL_law_926 : decode cL_law 926 = .ok (.iconst 0, 1) := by decide +kernel
theorem dL_law_927 : decode cL_law 927 = .ok (.ireturn, 1) := by decide +kernel
theorem dL_law_928 : decode cL_law 928 = .ok (.aload_n 1, 1) := by decide +kernel
theorem dL_law_929 : decode cL_law 929 = .ok (.aload_n 0, 1) := by decide +kernel
theorem dL_law_930 : decode cL_law 930 = .ok (.iload_n 3, 1) := by decide +kernel
theorem dL_law_931 : decode cL_law 931 = .ok (.iconst 1, 1) := by decide +kernel
theorem dL_law_932 : decode cL_law 932 = .ok (.iadd, 1) := by decide +kernel
theorem dL_law_933 : decode cL_law 933 = .ok (.iaload, 1) := by decide +kernel
theorem dL_law_934 : decode cL_law 934 = .ok (.aload_n 0, 1) := by decide +kernel
theorem dL_law_935 : decode cL_law 935 = .ok (.iload_n 3, 1) := by decide +kernel
theorem dL_law_936 : decode cL_law 936 = .ok (.iconst 2, 1) := by decide +kernel
theorem dL_law_937 : decode cL_law 937 = .ok (.iadd, 1) := by decide +kernel
theorem dL_law_938 : decode cL_law 938 = .ok (.iaload, 1) := by decide +kernel
theorem dL_law_939 : decode cL_law 939 = .ok (.aload_n 0, 1) := by decide +kernel
theorem dL_law_940 : decode cL_law 940 = .ok (.iload_n 3, 1) := by decide +kernel
theorem dL_law_941 : decode cL_law 941 = .ok (.iconst 3, 1) := by decide +kernel
theorem dL_law_942 : decode cL_law 942 = .ok (.iadd, 1) := by decide +kernel
theorem dL_law_943 : decode cL_law 943 = .ok (.iaload, 1) := by decide +kernel
theorem dL_law_944 : decode cL_law 944 = .ok (.aload_n 0, 1) := by decide +kernel
theorem dL_law_945 : decode cL_law 945 = .ok (.iload_n 3, 1) := by decide +kernel
theorem dL_law_946 : decode cL_law 946 = .ok (.iconst 4, 1) := by decide +kernel
theorem dL_law_947 : decode cL_law 947 = .ok (.iadd, 1) := by decide +kernel
theorem dL_law_948 : decode cL_law 948 = .ok (.iaload, 1) := by decide +kernel
theorem dL_law_949 : decode cL_law 949 = .ok (.aload_n 0, 1) := by decide +kernel
theorem dL_law_950 : decode cL_law 950 = .ok (.iload_n 3, 1) := by decide +kernel
theorem dL_law_951 : decode cL_law 951 = .ok (.iconst 5, 1) := by decide +kernel
theorem dL_law_952 : decode cL_law 952 = .ok (.iadd, 1) := by decide +kernel
theorem dL_law_953 : decode cL_law 953 = .ok (.iaload, 1) := by decide +kernel
theorem dL_law_954 : decode cL_law 954 = .ok (.invokevirtual 126, 3) := by decide +kernel
theorem dL_law_957 : decode cL_law 957 = .ok (.aload_n 2, 1) := by decide +kernel
theorem dL_law_958 : decode cL_law 958 = .ok (.aload_n 0, 1) := by decide +kernel
theorem dL_law_959 : decode cL_law 959 = .ok (.iload_n 3, 1) := by decide +kernel
theorem dL_law_960 : decode cL_law 960 = .ok (.iconst 1, 1) := by decide +kernel
theorem dL_law_961 : decode cL_law 961 = .ok (.iadd, 1) := by decide +kernel
theorem dL_law_962 : decode cL_law 962 = .ok (.iaload, 1) := by decide +kernel
theorem dL_law_963 : decode cL_law 963 = .ok (.aload_n 0, 1) := by decide +kernel
theorem dL_law_964 : decode cL_law 964 = .ok (.iload_n 3, 1) := by decide +kernel
theorem dL_law_965 : decode cL_law 965 = .ok (.iconst 2, 1) := by decide +kernel
theorem dL_law_966 : decode cL_law 966 = .ok (.iadd, 1) := by decide +kernel
theorem dL_law_967 : decode cL_law 967 = .ok (.iaload, 1) := by decide +kernel
theorem dL_law_968 : decode cL_law 968 = .ok (.aload_n 0, 1) := by decide +kernel
theorem dL_law_969 : decode cL_law 969 = .ok (.iload_n 3, 1) := by decide +kernel
theorem dL_law_970 : decode cL_law 970 = .ok (.iconst 3, 1) := by decide +kernel
theorem dL_law_971 : decode cL_law 971 = .ok (.iadd, 1) := by decide +kernel
theorem dL_law_972 : decode cL_law 972 = .ok (.iaload, 1) := by decide +kernel
theorem dL_law_973 : decode cL_law 973 = .ok (.aload_n 0, 1) := by decide +kernel
theorem dL_law_974 : decode cL_law 974 = .ok (.iload_n 3, 1) := by decide +kernel
theorem dL_law_975 : decode cL_law 975 = .ok (.iconst 4, 1) := by decide +kernel
theorem dL_law_976 : decode cL_law 976 = .ok (.iadd, 1) := by decide +kernel
theorem dL_law_977 : decode cL_law 977 = .ok (.iaload, 1) := by decide +kernel
theorem dL_law_978 : decode cL_law 978 = .ok (.aload_n 0, 1) := by decide +kernel
theorem dL_law_979 : decode cL_law 979 = .ok (.iload_n 3, 1) := by decide +kernel
theorem dL_law_980 : decode cL_law 980 = .ok (.iconst 5, 1) := by decide +kernel
theorem dL_law_981 : decode cL_law 981 = .ok (.iadd, 1) := by decide +kernel
theorem dL_law_982 : decode cL_law 982 = .ok (.iaload, 1) := by decide +kernel
theorem dL_law_983 : decode cL_law 983 = .ok (.invokevirtual 130, 3) := by decide +kernel
theorem dL_law_986 : decode cL_law 986 = .ok (.lcmp, 1) := by decide +kernel
theorem dL_law_987 : decode cL_law 987 = .ok (.ifCond .eq 97, 3) := by decide +kernel
theorem dL_law_990 : decode cL_law 990 = .ok (.iconst 0, 1) := by decide +kernel
theorem dL_law_991 : decode cL_law 991 = .ok (.ireturn, 1) := by decide +kernel
theorem dL_law_992 : decode cL_law 992 = .ok (.aload_n 1, 1) := by decide +kernel
theorem dL_law_993 : decode cL_law 993 = .ok (.aload_n 0, 1) := by decide +kernel
theorem dL_law_994 : decode cL_law 994 = .ok (.iload_n 3, 1) := by decide +kernel
theorem dL_law_995 : decode cL_law 995 = .ok (.iconst 1, 1) := by decide +kernel
theorem dL_law_996 : decode cL_law 996 = .ok (.iadd, 1) := by decide +kernel
theorem dL_law_997 : decode cL_law 997 = .ok (.iaload, 1) := by decide +kernel
theorem dL_law_998 : decode cL_law 998 = .ok (.aload_n 0, 1) := by decide +kernel
theorem dL_law_999 : decode cL_law 999 = .ok (.iload_n 3, 1) := by decide +kernel
theorem dL_law_1000 : decode cL_law 1000 = .ok (.iconst 2, 1) := by decide +kernel
theorem dL_law_1001 : decode cL_law 1001 = .ok (.iadd, 1) := by decide +kernel
theorem dL_law_1002 : decode cL_law 1002 = .ok (.iaload, 1) := by decide +kernel
theorem dL_law_1003 : decode cL_law 1003 = .ok (.aload_n 0, 1) := by decide +kernel
theorem dL_law_1004 : decode cL_law 1004 = .ok (.iload_n 3, 1) := by decide +kernel
theorem dL_law_1005 : decode cL_law 1005 = .ok (.iconst 3, 1) := by decide +kernel
theorem dL_law_1006 : decode cL_law 1006 = .ok (.iadd, 1) := by decide +kernel
theorem dL_law_1007 : decode cL_law 1007 = .ok (.iaload, 1) := by decide +kernel
theorem dL_law_1008 : decode cL_law 1008 = .ok (.invokevirtual 131, 3) := by decide +kernel
theorem dL_law_1011 : decode cL_law 1011 = .ok (.aload_n 2, 1) := by decide +kernel
theorem dL_law_1012 : decode cL_law 1012 = .ok (.aload_n 0, 1) := by decide +kernel
theorem dL_law_1013 : decode cL_law 1013 = .ok (.iload_n 3, 1) := by decide +kernel
theorem dL_law_1014 : decode cL_law 1014 = .ok (.iconst 1, 1) := by decide +kernel
theorem dL_law_1015 : decode cL_law 1015 = .ok (.iadd, 1) := by decide +kernel
theorem dL_law_1016 : decode cL_law 1016 = .ok (.iaload, 1) := by decide +kernel
theorem dL_law_1017 : decode cL_law 1017 = .ok (.aload_n 0, 1) := by decide +kernel
theorem dL_law_1018 : decode cL_law 1018 = .ok (.iload_n 3, 1) := by decide +kernel
theorem dL_law_1019 : decode cL_law 1019 = .ok (.iconst 2, 1) := by decide +kernel
theorem dL_law_1020 : decode cL_law 1020 = .ok (.iadd, 1) := by decide +kernel
theorem dL_law_1021 : decode cL_law 1021 = .ok (.iaload, 1) := by decide +kernel
theorem dL_law_1022 : decode cL_law 1022 = .ok (.aload_n 0, 1) := by decide +kernel
theorem dL_law_1023 : decode cL_law 1023 = .ok (.iload_n 3, 1) := by decide +kernel
theorem dL_law_1024 : decode cL_law 1024 = .ok (.iconst 3, 1) := by decide +kernel
theorem dL_law_1025 : decode cL_law 1025 = .ok (.iadd, 1) := by decide +kernel
theorem dL_law_1026 : decode cL_law 1026 = .ok (.iaload, 1) := by decide +kernel
theorem dL_law_1027 : decode cL_law 1027 = .ok (.invokevirtual 134, 3) := by decide +kernel
theorem dL_law_1030 : decode cL_law 1030 = .ok (.if_icmp .eq 54, 3) := by decide +kernel
theorem dL_law_1033 : decode cL_law 1033 = .ok (.iconst 0, 1) := by decide +kernel
theorem dL_law_1034 : decode cL_law 1034 = .ok (.ireturn, 1) := by decide +kernel
theorem dL_law_1035 : decode cL_law 1035 = .ok (.aload_n 1, 1) := by decide +kernel
theorem dL_law_1036 : decode cL_law 1036 = .ok (.invokevirtual 135, 3) := by decide +kernel
theorem dL_law_1039 : decode cL_law 1039 = .ok (.aload_n 2, 1) := by decide +kernel
theorem dL_law_1040 : decode cL_law 1040 = .ok (.invokevirtual 138, 3) := by decide +kernel
theorem dL_law_1043 : decode cL_law 1043 = .ok (.if_icmp .eq 41, 3) := by decide +kernel
theorem dL_law_1046 : decode cL_law 1046 = .ok (.iconst 0, 1) := by decide +kernel
theorem dL_law_1047 : decode cL_law 1047 = .ok (.ireturn, 1) := by decide +kernel
theorem dL_law_1048 : decode cL_law 1048 = .ok (.aload_n 1, 1) := by decide +kernel
theorem dL_law_1049 : decode cL_law 1049 = .ok (.invokevirtual 139, 3) := by decide +kernel
theorem dL_law_1052 : decode cL_law 1052 = .ok (.aload_n 2, 1) := by decide +kernel
theorem dL_law_1053 : decode cL_law 1053 = .ok (.invokevirtual 142, 3) := by decide +kernel
theorem dL_law_1056 : decode cL_law 1056 = .ok (.if_icmp .eq 28, 3) := by decide +kernel
theorem dL_law_1059 : decode cL_law 1059 = .ok (.iconst 0, 1) := by decide +kernel
theorem dL_law_1060 : decode cL_law 1060 = .ok (.ireturn, 1) := by decide +kernel
theorem dL_law_1061 : decode cL_law 1061 = .ok (.aload_n 1, 1) := by decide +kernel
theorem dL_law_1062 : decode cL_law 1062 = .ok (.aload_n 0, 1) := by decide +kernel
theorem dL_law_1063 : decode cL_law 1063 = .ok (.iload_n 3, 1) := by decide +kernel
theorem dL_law_1064 : decode cL_law 1064 = .ok (.iconst 1, 1) := by decide +kernel
theorem dL_law_1065 : decode cL_law 1065 = .ok (.iadd, 1) := by decide +kernel
theorem dL_law_1066 : decode cL_law 1066 = .ok (.iaload, 1) := by decide +kernel
theorem dL_law_1067 : decode cL_law 1067 = .ok (.invokevirtual 143, 3) := by decide +kernel
theorem dL_law_1070 : decode cL_law 1070 = .ok (.aload_n 2, 1) := by decide +kernel
theorem dL_law_1071 : decode cL_law 1071 = .ok (.aload_n 0, 1) := by decide +kernel
theorem dL_law_1072 : decode cL_law 1072 = .ok (.iload_n 3, 1) := by decide +kernel
theorem dL_law_1073 : decode cL_law 1073 = .ok (.iconst 1, 1) := by decide +kernel
theorem dL_law_1074 : decode cL_law 1074 = .ok (.iadd, 1) := by decide +kernel
theorem dL_law_1075 : decode cL_law 1075 = .ok (.iaload, 1) := by decide +kernel
theorem dL_law_1076 : decode cL_law 1076 = .ok (.invokevirtual 146, 3) := by decide +kernel
theorem dL_law_1079 : decode cL_law 1079 = .ok (.if_icmp .eq 5, 3) := by decide +kernel
theorem dL_law_1082 : decode cL_law 1082 = .ok (.iconst 0, 1) := by decide +kernel
theorem dL_law_1083 : decode cL_law 1083 = .ok (.ireturn, 1) := by decide +kernel
theorem dL_law_1084 : decode cL_law 1084 = .ok (.iinc 3 6, 3) := by decide +kernel
theorem dL_law_1087 : decode cL_law 1087 = .ok (.goto (-1069), 3) := by decide +kernel
theorem dL_law_1090 : decode cL_law 1090 = .ok (.iconst 1, 1) := by decide +kernel
theorem dL_law_1091 : decode cL_law 1091 = .ok (.ireturn, 1) := by decide +kernel
end
section
theorem dJ9_abs_0f7a4_0 : decode cJ9_abs_0f7a4 0 = .ok (.iload_n 0, 1) := by decide +kernel
theorem dJ9_abs_0f7a4_1 : decode cJ9_abs_0f7a4 1 = .ok (.ifCond .ge 8, 3) := by decide +kernel
theorem dJ9_abs_0f7a4_4 : decode cJ9_abs_0f7a4 4 = .ok (.iload_n 0, 1) := by decide +kernel
theorem dJ9_abs_0f7a4_5 : decode cJ9_abs_0f7a4 5 = .ok (.ineg, 1) := by decide +kernel
theorem dJ9_abs_0f7a4_6 : decode cJ9_abs_0f7a4 6 = .ok (.goto 4, 3) := by decide +kernel
theorem dJ9_abs_0f7a4_9 : decode cJ9_abs_0f7a4 9 = .ok (.iload_n 0, 1) := by decide +kernel
theorem dJ9_abs_0f7a4_10 : decode cJ9_abs_0f7a4 10 = .ok (.ireturn, 1) := by decide +kernel
theorem dJ9_max_7cf53_0 : decode cJ9_max_7cf53 0 = .ok (.iload_n 0, 1) := by decide +kernel
theorem dJ9_max_7cf53_1 : decode cJ9_max_7cf53 1 = .ok (.iload_n 1, 1) := by decide +kernel
theorem dJ9_max_7cf53_2 : decode cJ9_max_7cf53 2 = .ok (.if_icmp .lt 7, 3) := by decide +kernel
theorem dJ9_max_7cf53_5 : decode cJ9_max_7cf53 5 = .ok (.iload_n 0, 1) := by decide +kernel
theorem dJ9_max_7cf53_6 : decode cJ9_max_7cf53 6 = .ok (.goto 4, 3) := by decide +kernel
theorem dJ9_max_7cf53_9 : decode cJ9_max_7cf53 9 = .ok (.iload_n 1, 1) := by decide +kernel
theorem dJ9_max_7cf53_10 : decode cJ9_max_7cf53 10 = .ok (.ireturn, 1) := by decide +kernel
theorem dJ9_min_7cf53_0 : decode cJ9_min_7cf53 0 = .ok (.iload_n 0, 1) := by decide +kernel
theorem dJ9_min_7cf53_1 : decode cJ9_min_7cf53 1 = .ok (.iload_n 1, 1) := by decide +kernel
theorem dJ9_min_7cf53_2 : decode cJ9_min_7cf53 2 = .ok (.if_icmp .gt 7, 3) := by decide +kernel
theorem dJ9_min_7cf53_5 : decode cJ9_min_7cf53 5 = .ok (.iload_n 0, 1) := by decide +kernel
theorem dJ9_min_7cf53_6 : decode cJ9_min_7cf53 6 = .ok (.goto 4, 3) := by decide +kernel
theorem dJ9_min_7cf53_9 : decode cJ9_min_7cf53 9 = .ok (.iload_n 1, 1) := by decide +kernel
theorem dJ9_min_7cf53_10 : decode cJ9_min_7cf53 10 = .ok (.ireturn, 1) := by decide +kernel
theorem dJ6_bitCount_0f7a4_0 : decode cJ6_bitCount_0f7a4 0 = .ok (.iload_n 0, 1) := by decide +kernel
theorem dJ6_bitCount_0f7a4_1 : decode cJ6_bitCount_0f7a4 1 = .ok (.iload_n 0, 1) := by decide +kernel
theorem dJ6_bitCount_0f7a4_2 : decode cJ6_bitCount_0f7a4 2 = .ok (.iconst 1, 1) := by decide +kernel
theorem dJ6_bitCount_0f7a4_3 : decode cJ6_bitCount_0f7a4 3 = .ok (.iushr, 1) := by decide +kernel
theorem dJ6_bitCount_0f7a4_4 : decode cJ6_bitCount_0f7a4 4 = .ok (.ldc_w 265, 3) := by decide +kernel
theorem dJ6_bitCount_0f7a4_7 : decode cJ6_bitCount_0f7a4 7 = .ok (.iand, 1) := by decide +kernel
theorem dJ6_bitCount_0f7a4_8 : decode cJ6_bitCount_0f7a4 8 = .ok (.isub, 1) := by decide +kernel
theorem dJ6_bitCount_0f7a4_9 : decode cJ6_bitCount_0f7a4 9 = .ok (.istore_n 0, 1) := by decide +kernel
theorem dJ6_bitCount_0f7a4_10 : decode cJ6_bitCount_0f7a4 10 = .ok (.iload_n 0, 1) := by decide +kernel
theorem dJ6_bitCount_0f7a4_11 : decode cJ6_bitCount_0f7a4 11 = .ok (.ldc_w 266, 3) := by decide +kernel
theorem dJ6_bitCount_0f7a4_14 : decode cJ6_bitCount_0f7a4 14 = .ok (.iand, 1) := by decide +kernel
theorem dJ6_bitCount_0f7a4_15 : decode cJ6_bitCount_0f7a4 15 = .ok (.iload_n 0, 1) := by decide +kernel
theorem dJ6_bitCount_0f7a4_16 : decode cJ6_bitCount_0f7a4 16 = .ok (.iconst 2, 1) := by decide +kernel
theorem dJ6_bitCount_0f7a4_17 : decode cJ6_bitCount_0f7a4 17 = .ok (.iushr, 1) := by decide +kernel
theorem dJ6_bitCount_0f7a4_18 : decode cJ6_bitCount_0f7a4 18 = .ok (.ldc_w 266, 3) := by decide +kernel
theorem dJ6_bitCount_0f7a4_21 : decode cJ6_bitCount_0f7a4 21 = .ok (.iand, 1) := by decide +kernel
theorem dJ6_bitCount_0f7a4_22 : decode cJ6_bitCount_0f7a4 22 = .ok (.iadd, 1) := by decide +kernel
theorem dJ6_bitCount_0f7a4_23 : decode cJ6_bitCount_0f7a4 23 = .ok (.istore_n 0, 1) := by decide +kernel
theorem dJ6_bitCount_0f7a4_24 : decode cJ6_bitCount_0f7a4 24 = .ok (.iload_n 0, 1) := by decide +kernel
theorem dJ6_bitCount_0f7a4_25 : decode cJ6_bitCount_0f7a4 25 = .ok (.iload_n 0, 1) := by decide +kernel
theorem dJ6_bitCount_0f7a4_26 : decode cJ6_bitCount_0f7a4 26 = .ok (.iconst 4, 1) := by decide +kernel
theorem dJ6_bitCount_0f7a4_27 : decode cJ6_bitCount_0f7a4 27 = .ok (.iushr, 1) := by decide +kernel
theorem dJ6_bitCount_0f7a4_28 : decode cJ6_bitCount_0f7a4 28 = .ok (.iadd, 1) := by decide +kernel
theorem dJ6_bitCount_0f7a4_29 : decode cJ6_bitCount_0f7a4 29 = .ok (.ldc_w 267, 3) := by decide +kernel
theorem dJ6_bitCount_0f7a4_32 : decode cJ6_bitCount_0f7a4 32 = .ok (.iand, 1) := by decide +kernel
theorem dJ6_bitCount_0f7a4_33 : decode cJ6_bitCount_0f7a4 33 = .ok (.istore_n 0, 1) := by decide +kernel
theorem dJ6_bitCount_0f7a4_34 : decode cJ6_bitCount_0f7a4 34 = .ok (.iload_n 0, 1) := by decide +kernel
theorem dJ6_bitCount_0f7a4_35 : decode cJ6_bitCount_0f7a4 35 = .ok (.iload_n 0, 1) := by decide +kernel
theorem dJ6_bitCount_0f7a4_36 : decode cJ6_bitCount_0f7a4 36 = .ok (.bipush 8, 2) := by decide +kernel
theorem dJ6_bitCount_0f7a4_38 : decode cJ6_bitCount_0f7a4 38 = .ok (.iushr, 1) := by decide +kernel
theorem dJ6_bitCount_0f7a4_39 : decode cJ6_bitCount_0f7a4 39 = .ok (.iadd, 1) := by decide +kernel
theorem dJ6_bitCount_0f7a4_40 : decode cJ6_bitCount_0f7a4 40 = .ok (.istore_n 0, 1) := by decide +kernel
theorem dJ6_bitCount_0f7a4_41 : decode cJ6_bitCount_0f7a4 41 = .ok (.iload_n 0, 1) := by decide +kernel
theorem dJ6_bitCount_0f7a4_42 : decode cJ6_bitCount_0f7a4 42 = .ok (.iload_n 0, 1) := by decide +kernel
theorem dJ6_bitCount_0f7a4_43 : decode cJ6_bitCount_0f7a4 43 = .ok (.bipush 16, 2) := by decide +kernel
theorem dJ6_bitCount_0f7a4_45 : decode cJ6_bitCount_0f7a4 45 = .ok (.iushr, 1) := by decide +kernel
theorem dJ6_bitCount_0f7a4_46 : decode cJ6_bitCount_0f7a4 46 = .ok (.iadd, 1) := by decide +kernel
theorem dJ6_bitCount_0f7a4_47 : decode cJ6_bitCount_0f7a4 47 = .ok (.istore_n 0, 1) := by decide +kernel
theorem dJ6_bitCount_0f7a4_48 : decode cJ6_bitCount_0f7a4 48 = .ok (.iload_n 0, 1) := by decide +kernel
theorem dJ6_bitCount_0f7a4_49 : decode cJ6_bitCount_0f7a4 49 = .ok (.bipush 63, 2) := by decide +kernel
theorem dJ6_bitCount_0f7a4_51 : decode cJ6_bitCount_0f7a4 51 = .ok (.iand, 1) := by decide +kernel
theorem dJ6_bitCount_0f7a4_52 : decode cJ6_bitCount_0f7a4 52 = .ok (.ireturn, 1) := by decide +kernel
theorem dJ0_length_8abf5_0 : decode cJ0_length_8abf5 0 = .ok (.aload_n 0, 1) := by decide +kernel
theorem dJ0_length_8abf5_1 : decode cJ0_length_8abf5 1 = .ok (.getfield 9, 3) := by decide +kernel
theorem dJ0_length_8abf5_4 : decode cJ0_length_8abf5 4 = .ok (.arraylength, 1) := by decide +kernel
theorem dJ0_length_8abf5_5 : decode cJ0_length_8abf5 5 = .ok (.aload_n 0, 1) := by decide +kernel
theorem dJ0_length_8abf5_6 : decode cJ0_length_8abf5 6 = .ok (.invokevirtual 335, 3) := by decide +kernel
theorem dJ0_length_8abf5_9 : decode cJ0_length_8abf5 9 = .ok (.ishr, 1) := by decide +kernel
theorem dJ0_length_8abf5_10 : decode cJ0_length_8abf5 10 = .ok (.ireturn, 1) := by decide +kernel
theorem dJ0_charAt_5068e_0 : decode cJ0_charAt_5068e 0 = .ok (.aload_n 0, 1) := by decide +kernel
theorem dJ0_charAt_5068e_1 : decode cJ0_charAt_5068e 1 = .ok (.invokevirtual 492, 3) := by decide +kernel
theorem dJ0_charAt_5068e_4 : decode cJ0_charAt_5068e 4 = .ok (.ifCond .eq 12, 3) := by decide +kernel
theorem dJ0_charAt_5068e_7 : decode cJ0_charAt_5068e 7 = .ok (.aload_n 0, 1) := by decide +kernel
theorem dJ0_charAt_5068e_8 : decode cJ0_charAt_5068e 8 = .ok (.getfield 9, 3) := by decide +kernel
theorem dJ0_charAt_5068e_11 : decode cJ0_charAt_5068e 11 = .ok (.iload_n 1, 1) := by decide +kernel
theorem dJ0_charAt_5068e_12 : decode cJ0_charAt_5068e 12 = .ok (.invokestatic 495, 3) := by decide +kernel
theorem dJ0_charAt_5068e_15 : decode cJ0_charAt_5068e 15 = .ok (.ireturn, 1) := by decide +kernel
theorem dJ0_charAt_5068e_16 : decode cJ0_charAt_5068e 16 = .ok (.aload_n 0, 1) := by decide +kernel
theorem dJ0_charAt_5068e_17 : decode cJ0_charAt_5068e 17 = .ok (.getfield 9, 3) := by decide +kernel
theorem dJ0_charAt_5068e_20 : decode cJ0_charAt_5068e 20 = .ok (.iload_n 1, 1) := by decide +kernel
theorem dJ0_charAt_5068e_21 : decode cJ0_charAt_5068e 21 = .ok (.invokestatic 498, 3) := by decide +kernel
theorem dJ0_charAt_5068e_24 : decode cJ0_charAt_5068e 24 = .ok (.ireturn, 1) := by decide +kernel
theorem dJ0_indexOf_0f7a4_0 : decode cJ0_indexOf_0f7a4 0 = .ok (.aload_n 0, 1) := by decide +kernel
theorem dJ0_indexOf_0f7a4_1 : decode cJ0_indexOf_0f7a4 1 = .ok (.iload_n 1, 1) := by decide +kernel
theorem dJ0_indexOf_0f7a4_2 : decode cJ0_indexOf_0f7a4 2 = .ok (.iconst 0, 1) := by decide +kernel
theorem dJ0_indexOf_0f7a4_3 : decode cJ0_indexOf_0f7a4 3 = .ok (.invokevirtual 633, 3) := by decide +kernel
theorem dJ0_indexOf_0f7a4_6 : decode cJ0_indexOf_0f7a4 6 = .ok (.ireturn, 1) := by decide +kernel
theorem dJ0_indexOf_7cf53_0 : decode cJ0_indexOf_7cf53 0 = .ok (.aload_n 0, 1) := by decide +kernel
theorem dJ0_indexOf_7cf53_1 : decode cJ0_indexOf_7cf53 1 = .ok (.invokevirtual 492, 3) := by decide +kernel
theorem dJ0_indexOf_7cf53_4 : decode cJ0_indexOf_7cf53 4 = .ok (.ifCond .eq 19, 3) := by decide +kernel
theorem dJ0_indexOf_7cf53_7 : decode cJ0_indexOf_7cf53 7 = .ok (.aload_n 0, 1) := by decide +kernel
theorem dJ0_indexOf_7cf53_8 : decode cJ0_indexOf_7cf53 8 = .ok (.getfield 9, 3) := by decide +kernel
theorem dJ0_indexOf_7cf53_11 : decode cJ0_indexOf_7cf53 11 = .ok (.iload_n 1, 1) := by decide +kernel
theorem dJ0_indexOf_7cf53_12 : decode cJ0_indexOf_7cf53 12 = .ok (.iload_n 2, 1) := by decide +kernel
theorem dJ0_indexOf_7cf53_13 : decode cJ0_indexOf_7cf53 13 = .ok (.aload_n 0, 1) := by decide +kernel
theorem dJ0_indexOf_7cf53_14 : decode cJ0_indexOf_7cf53 14 = .ok (.invokevirtual 505, 3) := by decide +kernel
theorem dJ0_indexOf_7cf53_17 : decode cJ0_indexOf_7cf53 17 = .ok (.invokestatic 637, 3) := by decide +kernel
theorem dJ0_indexOf_7cf53_20 : decode cJ0_indexOf_7cf53 20 = .ok (.goto 16, 3) := by decide +kernel
theorem dJ0_indexOf_7cf53_23 : decode cJ0_indexOf_7cf53 23 = .ok (.aload_n 0, 1) := by decide +kernel
theorem dJ0_indexOf_7cf53_24 : decode cJ0_indexOf_7cf53 24 = .ok (.getfield 9, 3) := by decide +kernel
theorem dJ0_indexOf_7cf53_27 : decode cJ0_indexOf_7cf53 27 = .ok (.iload_n 1, 1) := by decide +kernel
theorem dJ0_indexOf_7cf53_28 : decode cJ0_indexOf_7cf53 28 = .ok (.iload_n 2, 1) := by decide +kernel
theorem dJ0_indexOf_7cf53_29 : decode cJ0_indexOf_7cf53 29 = .ok (.aload_n 0, 1) := by decide +kernel
theorem dJ0_indexOf_7cf53_30 : decode cJ0_indexOf_7cf53 30 = .ok (.invokevirtual 505, 3) := by decide +kernel
theorem dJ0_indexOf_7cf53_33 : decode cJ0_indexOf_7cf53 33 = .ok (.invokestatic 640, 3) := by decide +kernel
theorem dJ0_indexOf_7cf53_36 : decode cJ0_indexOf_7cf53 36 = .ok (.ireturn, 1) := by decide +kernel
theorem dJ0_coder_7d493_0 : decode cJ0_coder_7d493 0 = .ok (.getstatic 38, 3) := by decide +kernel
theorem dJ0_coder_7d493_3 : decode cJ0_coder_7d493 3 = .ok (.ifCond .eq 10, 3) := by decide +kernel
theorem dJ0_coder_7d493_6 : decode cJ0_coder_7d493 6 = .ok (.aload_n 0, 1) := by decide +kernel
theorem dJ0_coder_7d493_7 : decode cJ0_coder_7d493 7 = .ok (.getfield 15, 3) := by decide +kernel
theorem dJ0_coder_7d493_10 : decode cJ0_coder_7d493 10 = .ok (.goto 4, 3) := by decide +kernel
theorem dJ0_coder_7d493_13 : decode cJ0_coder_7d493 13 = .ok (.iconst 1, 1) := by decide +kernel
theorem dJ0_coder_7d493_14 : decode cJ0_coder_7d493 14 = .ok (.ireturn, 1) := by decide +kernel
theorem dJ0_isLatin1_aae02_0 : decode cJ0_isLatin1_aae02 0 = .ok (.getstatic 38, 3) := by decide +kernel
theorem dJ0_isLatin1_aae02_3 : decode cJ0_isLatin1_aae02 3 = .ok (.ifCond .eq 14, 3) := by decide +kernel
theorem dJ0_isLatin1_aae02_6 : decode cJ0_isLatin1_aae02 6 = .ok (.aload_n 0, 1) := by decide +kernel
theorem dJ0_isLatin1_aae02_7 : decode cJ0_isLatin1_aae02 7 = .ok (.getfield 15, 3) := by decide +kernel
theorem dJ0_isLatin1_aae02_10 : decode cJ0_isLatin1_aae02 10 = .ok (.ifCond .ne 7, 3) := by decide +kernel
theorem dJ0_isLatin1_aae02_13 : decode cJ0_isLatin1_aae02 13 = .ok (.iconst 1, 1) := by decide +kernel
theorem dJ0_isLatin1_aae02_14 : decode cJ0_isLatin1_aae02 14 = .ok (.goto 4, 3) := by decide +kernel
theorem dJ0_isLatin1_aae02_17 : decode cJ0_isLatin1_aae02 17 = .ok (.iconst 0, 1) := by decide +kernel
theorem dJ0_isLatin1_aae02_18 : decode cJ0_isLatin1_aae02 18 = .ok (.ireturn, 1) := by decide +kernel
theorem dJ0_checkIndex_df160_0 : decode cJ0_checkIndex_df160 0 = .ok (.iload_n 0, 1) := by decide +kernel
theorem dJ0_checkIndex_df160_1 : decode cJ0_checkIndex_df160 1 = .ok (.iload_n 1, 1) := by decide +kernel
theorem dJ0_checkIndex_df160_2 : decode cJ0_checkIndex_df160 2 = .ok (.getstatic 1053, 3) := by decide +kernel
theorem dJ0_checkIndex_df160_5 : decode cJ0_checkIndex_df160 5 = .ok (.invokestatic 1059, 3) := by decide +kernel
theorem dJ0_checkIndex_df160_8 : decode cJ0_checkIndex_df160 8 = .ok (.pop, 1) := by decide +kernel
theorem dJ0_checkIndex_df160_9 : decode cJ0_checkIndex_df160 9 = .ok (.return_, 1) := by decide +kernel
theorem dJ1_charAt_3b067_0 : decode cJ1_charAt_3b067 0 = .ok (.iload_n 1, 1) := by decide +kernel
theorem dJ1_charAt_3b067_1 : decode cJ1_charAt_3b067 1 = .ok (.aload_n 0, 1) := by decide +kernel
theorem dJ1_charAt_3b067_2 : decode cJ1_charAt_3b067 2 = .ok (.arraylength, 1) := by decide +kernel
theorem dJ1_charAt_3b067_3 : decode cJ1_charAt_3b067 3 = .ok (.invokestatic 9, 3) := by decide +kernel
theorem dJ1_charAt_3b067_6 : decode cJ1_charAt_3b067 6 = .ok (.aload_n 0, 1) := by decide +kernel
theorem dJ1_charAt_3b067_7 : decode cJ1_charAt_3b067 7 = .ok (.iload_n 1, 1) := by decide +kernel
theorem dJ1_charAt_3b067_8 : decode cJ1_charAt_3b067 8 = .ok (.baload, 1) := by decide +kernel
theorem dJ1_charAt_3b067_9 : decode cJ1_charAt_3b067 9 = .ok (.sipush 255, 3) := by decide +kernel
theorem dJ1_charAt_3b067_12 : decode cJ1_charAt_3b067 12 = .ok (.iand, 1) := by decide +kernel
theorem dJ1_charAt_3b067_13 : decode cJ1_charAt_3b067 13 = .ok (.i2c, 1) := by decide +kernel
theorem dJ1_charAt_3b067_14 : decode cJ1_charAt_3b067 14 = .ok (.ireturn, 1) := by decide +kernel
theorem dJ1_canEncode_9a6ad_0 : decode cJ1_canEncode_9a6ad 0 = .ok (.iload_n 0, 1) := by decide +kernel
theorem dJ1_canEncode_9a6ad_1 : decode cJ1_canEncode_9a6ad 1 = .ok (.ifCond .lt 14, 3) := by decide +kernel
theorem dJ1_canEncode_9a6ad_4 : decode cJ1_canEncode_9a6ad 4 = .ok (.iload_n 0, 1) := by decide +kernel
theorem dJ1_canEncode_9a6ad_5 : decode cJ1_canEncode_9a6ad 5 = .ok (.sipush 255, 3) := by decide +kernel
theorem dJ1_canEncode_9a6ad_8 : decode cJ1_canEncode_9a6ad 8 = .ok (.if_icmp .gt 7, 3) := by decide +kernel
theorem dJ1_canEncode_9a6ad_11 : decode cJ1_canEncode_9a6ad 11 = .ok (.iconst 1, 1) := by decide +kernel
theorem dJ1_canEncode_9a6ad_12 : decode cJ1_canEncode_9a6ad 12 = .ok (.goto 4, 3) := by decide +kernel
theorem dJ1_canEncode_9a6ad_15 : decode cJ1_canEncode_9a6ad 15 = .ok (.iconst 0, 1) := by decide +kernel
theorem dJ1_canEncode_9a6ad_16 : decode cJ1_canEncode_9a6ad 16 = .ok (.ireturn, 1) := by decide +kernel
theorem dJ1_indexOf_4cfef_0 : decode cJ1_indexOf_4cfef 0 = .ok (.iload_n 1, 1) := by decide +kernel
theorem dJ1_indexOf_4cfef_1 : decode cJ1_indexOf_4cfef 1 = .ok (.invokestatic 88, 3) := by decide +kernel
theorem dJ1_indexOf_4cfef_4 : decode cJ1_indexOf_4cfef 4 = .ok (.ifCond .ne 5, 3) := by decide +kernel
theorem dJ1_indexOf_4cfef_7 : decode cJ1_indexOf_4cfef 7 = .ok (.iconst (-1), 1) := by decide +kernel
theorem dJ1_indexOf_4cfef_8 : decode cJ1_indexOf_4cfef 8 = .ok (.ireturn, 1) := by decide +kernel
theorem dJ1_indexOf_4cfef_9 : decode cJ1_indexOf_4cfef 9 = .ok (.iload_n 2, 1) := by decide +kernel
theorem dJ1_indexOf_4cfef_10 : decode cJ1_indexOf_4cfef 10 = .ok (.iconst 0, 1) := by decide +kernel
theorem dJ1_indexOf_4cfef_11 : decode cJ1_indexOf_4cfef 11 = .ok (.invokestatic 92, 3) := by decide +kernel
theorem dJ1_indexOf_4cfef_14 : decode cJ1_indexOf_4cfef 14 = .ok (.istore_n 2, 1) := by decide +kernel
theorem dJ1_indexOf_4cfef_15 : decode cJ1_indexOf_4cfef 15 = .ok (.iload_n 3, 1) := by decide +kernel
theorem dJ1_indexOf_4cfef_16 : decode cJ1_indexOf_4cfef 16 = .ok (.aload_n 0, 1) := by decide +kernel
theorem dJ1_indexOf_4cfef_17 : decode cJ1_indexOf_4cfef 17 = .ok (.arraylength, 1) := by decide +kernel
theorem dJ1_indexOf_4cfef_18 : decode cJ1_indexOf_4cfef 18 = .ok (.invokestatic 38, 3) := by decide +kernel
theorem dJ1_indexOf_4cfef_21 : decode cJ1_indexOf_4cfef 21 = .ok (.istore_n 3, 1) := by decide +kernel
theorem dJ1_indexOf_4cfef_22 : decode cJ1_indexOf_4cfef 22 = .ok (.iload_n 2, 1) := by decide +kernel
theorem dJ1_indexOf_4cfef_23 : decode cJ1_indexOf_4cfef 23 = .ok (.iload_n 3, 1) := by decide +kernel
theorem dJ1_indexOf_4cfef_24 : decode cJ1_indexOf_4cfef 24 = .ok (.if_icmp .lt 5, 3) := by decide +kernel
theorem dJ1_indexOf_4cfef_27 : decode cJ1_indexOf_4cfef 27 = .ok (.iconst (-1), 1) := by decide +kernel
theorem dJ1_indexOf_4cfef_28 : decode cJ1_indexOf_4cfef 28 = .ok (.ireturn, 1) := by decide +kernel
theorem dJ1_indexOf_4cfef_29 : decode cJ1_indexOf_4cfef 29 = .ok (.aload_n 0, 1) := by decide +kernel
theorem dJ1_indexOf_4cfef_30 : decode cJ1_indexOf_4cfef 30 = .ok (.iload_n 1, 1) := by decide +kernel
theorem dJ1_indexOf_4cfef_31 : decode cJ1_indexOf_4cfef 31 = .ok (.iload_n 2, 1) := by decide +kernel
theorem dJ1_indexOf_4cfef_32 : decode cJ1_indexOf_4cfef 32 = .ok (.iload_n 3, 1) := by decide +kernel
theorem dJ1_indexOf_4cfef_33 : decode cJ1_indexOf_4cfef 33 = .ok (.invokestatic 95, 3) := by decide +kernel
theorem dJ1_indexOf_4cfef_36 : decode cJ1_indexOf_4cfef 36 = .ok (.ireturn, 1) := by decide +kernel
theorem dJ1_indexOfChar_4cfef_0 : decode cJ1_indexOfChar_4cfef 0 = .ok (.iload_n 1, 1) := by decide +kernel
theorem dJ1_indexOfChar_4cfef_1 : decode cJ1_indexOfChar_4cfef 1 = .ok (.i2b, 1) := by decide +kernel
theorem dJ1_indexOfChar_4cfef_2 : decode cJ1_indexOfChar_4cfef 2 = .ok (.istore 4, 2) := by decide +kernel
theorem dJ1_indexOfChar_4cfef_4 : decode cJ1_indexOfChar_4cfef 4 = .ok (.iload_n 2, 1) := by decide +kernel
theorem dJ1_indexOfChar_4cfef_5 : decode cJ1_indexOfChar_4cfef 5 = .ok (.istore 5, 2) := by decide +kernel
theorem dJ1_indexOfChar_4cfef_7 : decode cJ1_indexOfChar_4cfef 7 = .ok (.iload 5, 2) := by decide +kernel
theorem dJ1_indexOfChar_4cfef_9 : decode cJ1_indexOfChar_4cfef 9 = .ok (.iload_n 3, 1) := by decide +kernel
theorem dJ1_indexOfChar_4cfef_10 : decode cJ1_indexOfChar_4cfef 10 = .ok (.if_icmp .ge 21, 3) := by decide +kernel
theorem dJ1_indexOfChar_4cfef_13 : decode cJ1_indexOfChar_4cfef 13 = .ok (.aload_n 0, 1) := by decide +kernel
theorem dJ1_indexOfChar_4cfef_14 : decode cJ1_indexOfChar_4cfef 14 = .ok (.iload 5, 2) := by decide +kernel
theorem dJ1_indexOfChar_4cfef_16 : decode cJ1_indexOfChar_4cfef 16 = .ok (.baload, 1) := by decide +kernel
theorem dJ1_indexOfChar_4cfef_17 : decode cJ1_indexOfChar_4cfef 17 = .ok (.iload 4, 2) := by decide +kernel
theorem dJ1_indexOfChar_4cfef_19 : decode cJ1_indexOfChar_4cfef 19 = .ok (.if_icmp .ne 6, 3) := by decide +kernel
theorem dJ1_indexOfChar_4cfef_22 : decode cJ1_indexOfChar_4cfef 22 = .ok (.iload 5, 2) := by decide +kernel
theorem dJ1_indexOfChar_4cfef_24 : decode cJ1_indexOfChar_4cfef 24 = .ok (.ireturn, 1) := by decide +kernel
theorem dJ1_indexOfChar_4cfef_25 : decode cJ1_indexOfChar_4cfef 25 = .ok (.iinc 5 1, 3) := by decide +kernel
theorem dJ1_indexOfChar_4cfef_28 : decode cJ1_indexOfChar_4cfef 28 = .ok (.goto (-21), 3) := by decide +kernel
theorem dJ1_indexOfChar_4cfef_31 : decode cJ1_indexOfChar_4cfef 31 = .ok (.iconst (-1), 1) := by decide +kernel
theorem dJ1_indexOfChar_4cfef_32 : decode cJ1_indexOfChar_4cfef 32 = .ok (.ireturn, 1) := by decide +kernel
theorem dJ3_checkIndex_8e157_0 : decode cJ3_checkIndex_8e157 0 = .ok (.iload_n 0, 1) := by decide +kernel
theorem dJ3_checkIndex_8e157_1 : decode cJ3_checkIndex_8e157 1 = .ok (.ifCond .lt 8, 3) := by decide +kernel
theorem dJ3_checkIndex_8e157_4 : decode cJ3_checkIndex_8e157 4 = .ok (.iload_n 0, 1) := by decide +kernel
theorem dJ3_checkIndex_8e157_5 : decode cJ3_checkIndex_8e157 5 = .ok (.iload_n 1, 1) := by decide +kernel
theorem dJ3_checkIndex_8e157_6 : decode cJ3_checkIndex_8e157 6 = .ok (.if_icmp .lt 10, 3) := by decide +kernel
theorem dJ3_checkIndex_8e157_9 : decode cJ3_checkIndex_8e157 9 = .ok (.aload_n 2, 1) := by decide +kernel
theorem dJ3_checkIndex_8e157_10 : decode cJ3_checkIndex_8e157 10 = .ok (.iload_n 0, 1) := by decide +kernel
theorem dJ3_checkIndex_8e157_11 : decode cJ3_checkIndex_8e157 11 = .ok (.iload_n 1, 1) := by decide +kernel
theorem dJ3_checkIndex_8e157_12 : decode cJ3_checkIndex_8e157 12 = .ok (.invokestatic 95, 3) := by decide +kernel
theorem dJ3_checkIndex_8e157_15 : decode cJ3_checkIndex_8e157 15 = .ok (.athrow, 1) := by decide +kernel
theorem dJ3_checkIndex_8e157_16 : decode cJ3_checkIndex_8e157 16 = .ok (.iload_n 0, 1) := by decide +kernel
theorem dJ3_checkIndex_8e157_17 : decode cJ3_checkIndex_8e157 17 = .ok (.ireturn, 1) := by decide +kernel
end
section
def J6_bitCount_0f7a4 (a1 : Int32) : Int32 := nm (a1 - ((aiush a1 1) &&& 1431655765)) (fun v1 => nm ((v1 &&& 858993459) + ((aiush v1 2) &&& 858993459)) (fun v2 => nm ((v2 + (aiush v2 4)) &&& 252645135) (fun v3 => nm (v3 + (aiush v3 8)) (fun v4 => nm (v4 + (aiush v4 16)) (fun v5 => (v5 &&& 63))))))
set_option maxRecDepth 100000 in
set_option maxHeartbeats 8000000 in
theorem J6_bitCount_0f7a4_ca {S : Sc} {d : Nat} {a1 : Int32} {mem : Mm} {rr : Int32} {Q : Po}  (h : J6_bitCount_0f7a4 a1 = rr) (q : Q (some (.int rr)) mem) : Ca S (d + 1) 3 [.int a1] mem Q := by
  unfold J6_bitCount_0f7a4 at h
  refine ca_in (by decide) mt_J6_bitCount_0f7a4 (Nat.le_of_ble_eq_true rfl) ?_
  show Ev S (d + 0) 16 cJ6_bitCount_0f7a4 (some .int) 0 [some (.int a1)] [] mem Q
  refine ev_iload_n dJ6_bitCount_0f7a4_0 (pc' := 1) rfl rfl ?_
  refine ev_iload_n dJ6_bitCount_0f7a4_1 (pc' := 2) rfl rfl ?_
  refine ev_iconst dJ6_bitCount_0f7a4_2 (pc' := 3) (v := 1) rfl (by decide) ?_
  refine ev_iushr dJ6_bitCount_0f7a4_3 (pc' := 4) rfl ?_
  refine ev_ldc_w dJ6_bitCount_0f7a4_4 (pc' := 7) rfl iq_16_265 ?_
  refine ev_iand dJ6_bitCount_0f7a4_7 (pc' := 8) rfl ?_
  refine ev_isub dJ6_bitCount_0f7a4_8 (pc' := 9) rfl ?_
  refine ev_topi (fun v1 e_v1 => ?_)
  replace h := nm_at e_v1 h
  refine ev_istore_n dJ6_bitCount_0f7a4_9 (pc' := 10) (ls' := [some (.int v1)]) rfl (Nat.le_of_ble_eq_true rfl) rfl ?_
  refine ev_iload_n dJ6_bitCount_0f7a4_10 (pc' := 11) rfl rfl ?_
  refine ev_ldc_w dJ6_bitCount_0f7a4_11 (pc' := 14) rfl iq_16_266 ?_
  refine ev_iand dJ6_bitCount_0f7a4_14 (pc' := 15) rfl ?_
  refine ev_iload_n dJ6_bitCount_0f7a4_15 (pc' := 16) rfl rfl ?_
  refine ev_iconst dJ6_bitCount_0f7a4_16 (pc' := 17) (v := 2) rfl (by decide) ?_
  refine ev_iushr dJ6_bitCount_0f7a4_17 (pc' := 18) rfl ?_
  refine ev_ldc_w dJ6_bitCount_0f7a4_18 (pc' := 21) rfl iq_16_266 ?_
  refine ev_iand dJ6_bitCount_0f7a4_21 (pc' := 22) rfl ?_
  refine ev_iadd dJ6_bitCount_0f7a4_22 (pc' := 23) rfl ?_
  refine ev_topi (fun v2 e_v2 => ?_)
  replace h := nm_at e_v2 h
  refine ev_istore_n dJ6_bitCount_0f7a4_23 (pc' := 24) (ls' := [some (.int v2)]) rfl (Nat.le_of_ble_eq_true rfl) rfl ?_
  refine ev_iload_n dJ6_bitCount_0f7a4_24 (pc' := 25) rfl rfl ?_
  refine ev_iload_n dJ6_bitCount_0f7a4_25 (pc' := 26) rfl rfl ?_
  refine ev_iconst dJ6_bitCount_0f7a4_26 (pc' := 27) (v := 4) rfl (by decide) ?_
  refine ev_iushr dJ6_bitCount_0f7a4_27 (pc' := 28) rfl ?_
  refine ev_iadd dJ6_bitCount_0f7a4_28 (pc' := 29) rfl ?_
  refine ev_ldc_w dJ6_bitCount_0f7a4_29 (pc' := 32) rfl iq_16_267 ?_
  refine ev_iand dJ6_bitCount_0f7a4_32 (pc' := 33) rfl ?_
  refine ev_topi (fun v3 e_v3 => ?_)
  replace h := nm_at e_v3 h
  refine ev_istore_n dJ6_bitCount_0f7a4_33 (pc' := 34) (ls' := [some (.int v3)]) rfl (Nat.le_of_ble_eq_true rfl) rfl ?_
  refine ev_iload_n dJ6_bitCount_0f7a4_34 (pc' := 35) rfl rfl ?_
  refine ev_iload_n dJ6_bitCount_0f7a4_35 (pc' := 36) rfl rfl ?_
  refine ev_bipush dJ6_bitCount_0f7a4_36 (pc' := 38) (v := 8) rfl (by decide) ?_
  refine ev_iushr dJ6_bitCount_0f7a4_38 (pc' := 39) rfl ?_
  refine ev_iadd dJ6_bitCount_0f7a4_39 (pc' := 40) rfl ?_
  refine ev_topi (fun v4 e_v4 => ?_)
  replace h := nm_at e_v4 h
  refine ev_istore_n dJ6_bitCount_0f7a4_40 (pc' := 41) (ls' := [some (.int v4)]) rfl (Nat.le_of_ble_eq_true rfl) rfl ?_
  refine ev_iload_n dJ6_bitCount_0f7a4_41 (pc' := 42) rfl rfl ?_
  refine ev_iload_n dJ6_bitCount_0f7a4_42 (pc' := 43) rfl rfl ?_
  refine ev_bipush dJ6_bitCount_0f7a4_43 (pc' := 45) (v := 16) rfl (by decide) ?_
  refine ev_iushr dJ6_bitCount_0f7a4_45 (pc' := 46) rfl ?_
  refine ev_iadd dJ6_bitCount_0f7a4_46 (pc' := 47) rfl ?_
  refine ev_topi (fun v5 e_v5 => ?_)
  replace h := nm_at e_v5 h
  refine ev_istore_n dJ6_bitCount_0f7a4_47 (pc' := 48) (ls' := [some (.int v5)]) rfl (Nat.le_of_ble_eq_true rfl) rfl ?_
  refine ev_iload_n dJ6_bitCount_0f7a4_48 (pc' := 49) rfl rfl ?_
  refine ev_bipush dJ6_bitCount_0f7a4_49 (pc' := 51) (v := 63) rfl (by decide) ?_
  refine ev_iand dJ6_bitCount_0f7a4_51 (pc' := 52) rfl ?_
  cases h
  exact ev_ireturn dJ6_bitCount_0f7a4_52 rfl q
def J0_coder_7d493 (o : Nat) : Int32 := 0
set_option maxRecDepth 100000 in
set_option maxHeartbeats 8000000 in
theorem J0_coder_7d493_ca {S : Sc} {d : Nat} {o : Nat} {mem : Mm} {rr : Int32} {Q : Po} (h_o : kd o = 7) (h : J0_coder_7d493 o = rr) (q : Q (some (.int rr)) mem) : Ca S (d + 1) 8 [.ref o] mem Q := by
  unfold J0_coder_7d493 at h
  refine ca_in (by decide) mt_J0_coder_7d493 (Nat.le_of_ble_eq_true rfl) ?_
  show Ev S (d + 0) 10 cJ0_coder_7d493 (some .byte) 0 [some (.ref o)] [] mem Q
  refine ev_getsC dJ0_coder_7d493_0 (pc' := 3) rfl rfl ?_
  refine ev_if_eq dJ0_coder_7d493_3 (pc' := 6) rfl (t := 13) rfl (fun q => absurd q (by decide)) (fun _ => ?_)
  refine ev_aload_n dJ0_coder_7d493_6 (pc' := 7) rfl rfl ?_
  refine ev_getC dJ0_coder_7d493_7 (pc' := 10) rfl rfl h_o ?_
  refine ev_goto dJ0_coder_7d493_10 (t := 14) rfl ?_
  cases h
  exact ev_ireturn dJ0_coder_7d493_14 (aret_b (by decide)) q
def J0_length_8abf5 (o : Nat) : Int32 := ((Int32.ofNat (ablen (o + 10))) >>> ((J0_coder_7d493 o) &&& 31))
set_option maxRecDepth 100000 in
set_option maxHeartbeats 8000000 in
theorem J0_length_8abf5_ca {S : Sc} {d : Nat} {o : Nat} {mem : Mm} {rr : Int32} {Q : Po} (h_o : kd o = 7) (h : J0_length_8abf5 o = rr) (q : Q (some (.int rr)) mem) : Ca S (d + 2) 4 [.ref o] mem Q := by
  unfold J0_length_8abf5 at h
  refine ca_in (by decide) mt_J0_length_8abf5 (Nat.le_of_ble_eq_true rfl) ?_
  show Ev S (d + 1) 10 cJ0_length_8abf5 (some .int) 0 [some (.ref o)] [] mem Q
  refine ev_aload_n dJ0_length_8abf5_0 (pc' := 1) rfl rfl ?_
  refine ev_getV dJ0_length_8abf5_1 (pc' := 4) rfl rfl h_o ?_
  refine ev_alenB dJ0_length_8abf5_4 (pc' := 5) rfl (kd78 h_o) ?_
  refine ev_aload_n dJ0_length_8abf5_5 (pc' := 6) rfl rfl ?_
  refine ev_invV dJ0_length_8abf5_6 (pc' := 9) rfl sq_10_335 mt_J0_coder_7d493 rfl (arecv_tx (x := o) rfl rfl h_o) ⟨_, rfl, Nat.le_of_ble_eq_true rfl, Nat.le_of_ble_eq_true rfl, rfl, rfl⟩ ?_
  refine J0_coder_7d493_ca h_o rfl ?_
  refine ev_r1 ?_
  refine ev_ishr dJ0_length_8abf5_9 (pc' := 10) rfl ?_
  cases h
  exact ev_ireturn dJ0_length_8abf5_10 rfl q
def J0_isLatin1_aae02 (o : Nat) : Int32 := 1
theorem J0_isLatin1_aae02_b (o : Nat) : J0_isLatin1_aae02 o = 0 ∨ J0_isLatin1_aae02 o = 1 := by
  unfold J0_isLatin1_aae02
  first | exact X4_isIn_b _ _ _ | (repeat' split) <;> first | exact Or.inl rfl | exact Or.inr rfl
set_option maxRecDepth 100000 in
set_option maxHeartbeats 8000000 in
theorem J0_isLatin1_aae02_ca {S : Sc} {d : Nat} {o : Nat} {mem : Mm} {rr : Int32} {Q : Po} (h_o : kd o = 7) (h : J0_isLatin1_aae02 o = rr) (q : Q (some (.int rr)) mem) : Ca S (d + 1) 9 [.ref o] mem Q := by
  unfold J0_isLatin1_aae02 at h
  refine ca_in (by decide) mt_J0_isLatin1_aae02 (Nat.le_of_ble_eq_true rfl) ?_
  show Ev S (d + 0) 10 cJ0_isLatin1_aae02 (some .boolean) 0 [some (.ref o)] [] mem Q
  refine ev_getsC dJ0_isLatin1_aae02_0 (pc' := 3) rfl rfl ?_
  refine ev_if_eq dJ0_isLatin1_aae02_3 (pc' := 6) rfl (t := 17) rfl (fun q => absurd q (by decide)) (fun _ => ?_)
  refine ev_aload_n dJ0_isLatin1_aae02_6 (pc' := 7) rfl rfl ?_
  refine ev_getC dJ0_isLatin1_aae02_7 (pc' := 10) rfl rfl h_o ?_
  refine ev_if_ne dJ0_isLatin1_aae02_10 (pc' := 13) rfl (t := 17) rfl (fun q => absurd (by decide) q) (fun _ => ?_)
  refine ev_iconst dJ0_isLatin1_aae02_13 (pc' := 14) (v := 1) rfl (by decide) ?_
  refine ev_goto dJ0_isLatin1_aae02_14 (t := 18) rfl ?_
  cases h
  exact ev_ireturn dJ0_isLatin1_aae02_18 (aret_z (by decide)) q
def J3_checkIndex_8e157 (a1 : Int32) (a2 : Int32) : Option Int32 := if a1 < 0 then (none) else (if a1 < a2 then (some a1) else (none))
set_option maxRecDepth 100000 in
set_option maxHeartbeats 8000000 in
theorem J3_checkIndex_8e157_ca {S : Sc} {d : Nat} {a1 : Int32} {a2 : Int32} {mem : Mm} {rr : Int32} {Q : Po}  (h : J3_checkIndex_8e157 a1 a2 = some rr) (q : Q (some (.int rr)) mem) : Ca S (d + 1) 15 [.int a1, .int a2, .ref 99] mem Q := by
  unfold J3_checkIndex_8e157 at h
  refine ca_in (by decide) mt_J3_checkIndex_8e157 (Nat.le_of_ble_eq_true rfl) ?_
  show Ev S (d + 0) 13 cJ3_checkIndex_8e157 (some .int) 0 [some (.int a1), some (.int a2), some (.ref 99)] [] mem Q
  refine ev_iload_n dJ3_checkIndex_8e157_0 (pc' := 1) rfl rfl ?_
  refine ev_if_lt dJ3_checkIndex_8e157_1 (pc' := 4) rfl (t := 9) rfl (fun c1 => ?_) (fun c1 => ?_)
  · replace h := it_t c1 h
    refine ev_aload_n dJ3_checkIndex_8e157_9 (pc' := 10) rfl rfl ?_
    refine ev_iload_n dJ3_checkIndex_8e157_10 (pc' := 11) rfl rfl ?_
    refine ev_iload_n dJ3_checkIndex_8e157_11 (pc' := 12) rfl rfl ?_
    cases h
  · replace h := it_f c1 h
    refine ev_iload_n dJ3_checkIndex_8e157_4 (pc' := 5) rfl rfl ?_
    refine ev_iload_n dJ3_checkIndex_8e157_5 (pc' := 6) rfl rfl ?_
    refine ev_icmp_lt dJ3_checkIndex_8e157_6 (pc' := 9) rfl (t := 16) rfl (fun c2 => ?_) (fun c2 => ?_)
    · replace h := it_t c2 h
      refine ev_iload_n dJ3_checkIndex_8e157_16 (pc' := 17) rfl rfl ?_
      cases h
      exact ev_ireturn dJ3_checkIndex_8e157_17 rfl q
    · replace h := it_f c2 h
      refine ev_aload_n dJ3_checkIndex_8e157_9 (pc' := 10) rfl rfl ?_
      refine ev_iload_n dJ3_checkIndex_8e157_10 (pc' := 11) rfl rfl ?_
      refine ev_iload_n dJ3_checkIndex_8e157_11 (pc' := 12) rfl rfl ?_
      cases h
def J0_checkIndex_df160 (a1 : Int32) (a2 : Int32) : Option Unit := ob (J3_checkIndex_8e157 a1 a2) (fun y1 => some ())
set_option maxRecDepth 100000 in
set_option maxHeartbeats 8000000 in
theorem J0_checkIndex_df160_ca {S : Sc} {d : Nat} {a1 : Int32} {a2 : Int32} {mem : Mm}  {Q : Po}  (h : J0_checkIndex_df160 a1 a2 = some ()) (q : Q none mem) : Ca S (d + 2) 10 [.int a1, .int a2] mem Q := by
  unfold J0_checkIndex_df160 at h
  refine ca_in (by decide) mt_J0_checkIndex_df160 (Nat.le_of_ble_eq_true rfl) ?_
  show Ev S (d + 1) 10 cJ0_checkIndex_df160 none 0 [some (.int a1), some (.int a2)] [] mem Q
  refine ev_iload_n dJ0_checkIndex_df160_0 (pc' := 1) rfl rfl ?_
  refine ev_iload_n dJ0_checkIndex_df160_1 (pc' := 2) rfl rfl ?_
  refine ev_getsF dJ0_checkIndex_df160_2 (pc' := 5) rfl rfl ?_
  obtain ⟨y1, x_y1, h⟩ := ob_of h
  refine ev_invS dJ0_checkIndex_df160_5 (pc' := 8) rfl sq_10_1059 mt_J3_checkIndex_8e157 rfl ⟨_, rfl, Nat.le_of_ble_eq_true rfl, Nat.le_of_ble_eq_true rfl, rfl, rfl⟩ ?_
  refine J3_checkIndex_8e157_ca  x_y1 ?_
  refine ev_r1 ?_
  refine ev_pop dJ0_checkIndex_df160_8 (pc' := 9) rfl rfl ?_
  cases h
  exact ev_return dJ0_checkIndex_df160_9 rfl q
def J1_charAt_3b067 (p1 : Nat) (a2 : Int32) : Option Int32 := ob (J0_checkIndex_df160 a2 (Int32.ofNat (ablen p1))) (fun y1 => gd (vin a2 (ablen p1)) (gd ((((((abyt p1 (a2).toNatClampNeg) &&& 255)).toUInt32 % 65536).toInt32).toUInt32.toUInt16.toUInt32.toInt32 = ((((abyt p1 (a2).toNatClampNeg) &&& 255)).toUInt32 % 65536).toInt32) (some ((((abyt p1 (a2).toNatClampNeg) &&& 255)).toUInt32 % 65536).toInt32)))
set_option maxRecDepth 100000 in
set_option maxHeartbeats 8000000 in
theorem J1_charAt_3b067_ca {S : Sc} {d : Nat} {p1 : Nat} {a2 : Int32} {mem : Mm} {rr : Int32} {Q : Po} (h_p1 : kd p1 = 8) (h : J1_charAt_3b067 p1 a2 = some rr) (q : Q (some (.int rr)) mem) : Ca S (d + 3) 11 [.ref p1, .int a2] mem Q := by
  unfold J1_charAt_3b067 at h
  refine ca_in (by decide) mt_J1_charAt_3b067 (Nat.le_of_ble_eq_true rfl) ?_
  show Ev S (d + 2) 11 cJ1_charAt_3b067 (some .char) 0 [some (.ref p1), some (.int a2)] [] mem Q
  refine ev_iload_n dJ1_charAt_3b067_0 (pc' := 1) rfl rfl ?_
  refine ev_aload_n dJ1_charAt_3b067_1 (pc' := 2) rfl rfl ?_
  refine ev_alenB dJ1_charAt_3b067_2 (pc' := 3) rfl h_p1 ?_
  obtain ⟨y1, x_y1, h⟩ := ob_of h
  refine ev_invS dJ1_charAt_3b067_3 (pc' := 6) rfl sq_11_9 mt_J0_checkIndex_df160 rfl ⟨_, rfl, Nat.le_of_ble_eq_true rfl, Nat.le_of_ble_eq_true rfl, rfl, rfl⟩ ?_
  refine J0_checkIndex_df160_ca  x_y1 ?_
  refine ev_r0 ?_
  refine ev_aload_n dJ1_charAt_3b067_6 (pc' := 7) rfl rfl ?_
  refine ev_iload_n dJ1_charAt_3b067_7 (pc' := 8) rfl rfl ?_
  obtain ⟨g2, h⟩ := gd_of h
  refine ev_bald dJ1_charAt_3b067_8 (pc' := 9) rfl h_p1 g2 ?_
  refine ev_sipush dJ1_charAt_3b067_9 (pc' := 12) (v := 255) rfl (by decide) ?_
  refine ev_iand dJ1_charAt_3b067_12 (pc' := 13) rfl ?_
  refine ev_i2c dJ1_charAt_3b067_13 (pc' := 14) rfl ?_
  obtain ⟨g3, h⟩ := gd_of h
  cases h
  exact ev_ireturn dJ1_charAt_3b067_14 (aret_c g3) q
def J0_charAt_5068e (o : Nat) (a1 : Int32) : Option Int32 := if (J0_isLatin1_aae02 o) = 0 then (none) else (ob (J1_charAt_3b067 (o + 10) a1) (fun y2 => gd ((y2).toUInt32.toUInt16.toUInt32.toInt32 = y2) (some y2)))
set_option maxRecDepth 100000 in
set_option maxHeartbeats 8000000 in
theorem J0_charAt_5068e_ca {S : Sc} {d : Nat} {o : Nat} {a1 : Int32} {mem : Mm} {rr : Int32} {Q : Po} (h_o : kd o = 7) (h : J0_charAt_5068e o a1 = some rr) (q : Q (some (.int rr)) mem) : Ca S (d + 4) 5 [.ref o, .int a1] mem Q := by
  unfold J0_charAt_5068e at h
  refine ca_in (by decide) mt_J0_charAt_5068e (Nat.le_of_ble_eq_true rfl) ?_
  show Ev S (d + 3) 10 cJ0_charAt_5068e (some .char) 0 [some (.ref o), some (.int a1)] [] mem Q
  refine ev_aload_n dJ0_charAt_5068e_0 (pc' := 1) rfl rfl ?_
  refine ev_invV dJ0_charAt_5068e_1 (pc' := 4) rfl sq_10_492 mt_J0_isLatin1_aae02 rfl (arecv_tx (x := o) rfl rfl h_o) ⟨_, rfl, Nat.le_of_ble_eq_true rfl, Nat.le_of_ble_eq_true rfl, rfl, rfl⟩ ?_
  refine J0_isLatin1_aae02_ca h_o rfl ?_
  refine ev_r1 ?_
  refine ev_if_eq dJ0_charAt_5068e_4 (pc' := 7) rfl (t := 16) rfl (fun c1 => ?_) (fun c1 => ?_)
  · replace h := it_t c1 h
    refine ev_aload_n dJ0_charAt_5068e_16 (pc' := 17) rfl rfl ?_
    refine ev_getV dJ0_charAt_5068e_17 (pc' := 20) rfl rfl h_o ?_
    refine ev_iload_n dJ0_charAt_5068e_20 (pc' := 21) rfl rfl ?_
    cases h
  · replace h := it_f c1 h
    refine ev_aload_n dJ0_charAt_5068e_7 (pc' := 8) rfl rfl ?_
    refine ev_getV dJ0_charAt_5068e_8 (pc' := 11) rfl rfl h_o ?_
    refine ev_iload_n dJ0_charAt_5068e_11 (pc' := 12) rfl rfl ?_
    obtain ⟨y2, x_y2, h⟩ := ob_of h
    refine ev_invS dJ0_charAt_5068e_12 (pc' := 15) rfl sq_10_495 mt_J1_charAt_3b067 rfl ⟨_, rfl, Nat.le_of_ble_eq_true rfl, Nat.le_of_ble_eq_true rfl, rfl, rfl⟩ ?_
    refine J1_charAt_3b067_ca (kd78 h_o) x_y2 ?_
    refine ev_r1 ?_
    obtain ⟨g3, h⟩ := gd_of h
    cases h
    exact ev_ireturn dJ0_charAt_5068e_15 (aret_c g3) q
def J1_canEncode_9a6ad (a1 : Int32) : Int32 := if a1 < 0 then (0) else (if 255 < a1 then (0) else (1))
theorem J1_canEncode_9a6ad_b (a1 : Int32) : J1_canEncode_9a6ad a1 = 0 ∨ J1_canEncode_9a6ad a1 = 1 := by
  unfold J1_canEncode_9a6ad
  first | exact X4_isIn_b _ _ _ | (repeat' split) <;> first | exact Or.inl rfl | exact Or.inr rfl
set_option maxRecDepth 100000 in
set_option maxHeartbeats 8000000 in
theorem J1_canEncode_9a6ad_ca {S : Sc} {d : Nat} {a1 : Int32} {mem : Mm} {rr : Int32} {Q : Po}  (h : J1_canEncode_9a6ad a1 = rr) (q : Q (some (.int rr)) mem) : Ca S (d + 1) 12 [.int a1] mem Q := by
  unfold J1_canEncode_9a6ad at h
  refine ca_in (by decide) mt_J1_canEncode_9a6ad (Nat.le_of_ble_eq_true rfl) ?_
  show Ev S (d + 0) 11 cJ1_canEncode_9a6ad (some .boolean) 0 [some (.int a1)] [] mem Q
  refine ev_iload_n dJ1_canEncode_9a6ad_0 (pc' := 1) rfl rfl ?_
  refine ev_if_lt dJ1_canEncode_9a6ad_1 (pc' := 4) rfl (t := 15) rfl (fun c1 => ?_) (fun c1 => ?_)
  · replace h := it_t c1 h
    refine ev_iconst dJ1_canEncode_9a6ad_15 (pc' := 16) (v := 0) rfl (by decide) ?_
    cases h
    exact ev_ireturn dJ1_canEncode_9a6ad_16 (aret_z (by decide)) q
  · replace h := it_f c1 h
    refine ev_iload_n dJ1_canEncode_9a6ad_4 (pc' := 5) rfl rfl ?_
    refine ev_sipush dJ1_canEncode_9a6ad_5 (pc' := 8) (v := 255) rfl (by decide) ?_
    refine ev_icmp_gt dJ1_canEncode_9a6ad_8 (pc' := 11) rfl (t := 15) rfl (fun c2 => ?_) (fun c2 => ?_)
    · replace h := it_t c2 h
      refine ev_iconst dJ1_canEncode_9a6ad_15 (pc' := 16) (v := 0) rfl (by decide) ?_
      cases h
      exact ev_ireturn dJ1_canEncode_9a6ad_16 (aret_z (by decide)) q
    · replace h := it_f c2 h
      refine ev_iconst dJ1_canEncode_9a6ad_11 (pc' := 12) (v := 1) rfl (by decide) ?_
      refine ev_goto dJ1_canEncode_9a6ad_12 (t := 16) rfl ?_
      cases h
      exact ev_ireturn dJ1_canEncode_9a6ad_16 (aret_z (by decide)) q
def J1_indexOfChar_4cfef_L7 (p1 : Nat) (a2 : Int32) (a3 : Int32) : Nat → Int32 → Option Int32
  | 0, _ => none
  | n + 1, w4 => if a2 ≤ w4 then (some (-1)) else (gd (vin w4 (ablen p1)) (if (abyt p1 (w4).toNatClampNeg) = a3 then (some w4) else (nm (w4 + 1) (fun v9 => J1_indexOfChar_4cfef_L7 p1 a2 a3 n v9))))
def J1_indexOfChar_4cfef (p1 : Nat) (a2 : Int32) (a3 : Int32) (a4 : Int32) : Option Int32 := nm (a2).toInt8.toInt32 (fun v1 => J1_indexOfChar_4cfef_L7 p1 a4 v1 LF a3)
set_option maxRecDepth 100000 in
set_option maxHeartbeats 8000000 in
theorem J1_indexOfChar_4cfef_L7_ev {S : Sc} {d : Nat} {p1 : Nat} {a2 : Int32} {a3 : Int32} {m5 : Mm} {rr : Int32} {Q : Po} (h_p1 : kd p1 = 8) (q : Q (some (.int rr)) m5) : ∀ (n : Nat) (w4 : Int32), J1_indexOfChar_4cfef_L7 p1 a2 a3 n w4 = some rr → Ev S (d + 0) 11 cJ1_indexOfChar_4cfef (some .int) 7 [some (.ref p1), none, none, some (.int a2), some (.int a3), some (.int w4)] [] m5 Q := by
  intro n
  induction n with
  | zero => intro w4 h; cases h
  | succ n ih =>
    intro w4 h
    unfold J1_indexOfChar_4cfef_L7 at h
    refine ev_iload dJ1_indexOfChar_4cfef_7 (pc' := 9) rfl rfl ?_
    refine ev_iload_n dJ1_indexOfChar_4cfef_9 (pc' := 10) rfl rfl ?_
    refine ev_icmp_ge dJ1_indexOfChar_4cfef_10 (pc' := 13) rfl (t := 31) rfl (fun c6 => ?_) (fun c6 => ?_)
    · replace h := it_t c6 h
      refine ev_iconst dJ1_indexOfChar_4cfef_31 (pc' := 32) (v := (-1)) rfl (by decide) ?_
      cases h
      exact ev_ireturn dJ1_indexOfChar_4cfef_32 rfl q
    · replace h := it_f c6 h
      refine ev_aload_n dJ1_indexOfChar_4cfef_13 (pc' := 14) rfl rfl ?_
      refine ev_iload dJ1_indexOfChar_4cfef_14 (pc' := 16) rfl rfl ?_
      obtain ⟨g7, h⟩ := gd_of h
      refine ev_bald dJ1_indexOfChar_4cfef_16 (pc' := 17) rfl h_p1 g7 ?_
      refine ev_iload dJ1_indexOfChar_4cfef_17 (pc' := 19) rfl rfl ?_
      refine ev_icmp_ne dJ1_indexOfChar_4cfef_19 (pc' := 22) rfl (t := 25) rfl (fun c8 => ?_) (fun c8 => ?_)
      · replace h := it_f c8 h
        obtain ⟨v9, e_v9⟩ : ∃ y : Int32, y = (w4 + 1) := ⟨_, rfl⟩
        replace h := nm_at e_v9 h
        refine ev_iinc dJ1_indexOfChar_4cfef_25 (pc' := 28) (v := v9) (ls' := [some (.ref p1), none, none, some (.int a2), some (.int a3), some (.int v9)]) rfl rfl (by rw [e_v9]; rfl) (Nat.le_of_ble_eq_true rfl) rfl ?_
        refine ev_goto dJ1_indexOfChar_4cfef_28 (t := 7) rfl ?_
        exact ev_sub (lsub_c (lsub_c (lsub_c (lsub_c (lsub_c (lsub_c lsub_nil)))))) (ih v9 h)
      · replace h := it_t c8 h
        refine ev_iload dJ1_indexOfChar_4cfef_22 (pc' := 24) rfl rfl ?_
        cases h
        exact ev_ireturn dJ1_indexOfChar_4cfef_24 rfl q
set_option maxRecDepth 100000 in
set_option maxHeartbeats 8000000 in
theorem J1_indexOfChar_4cfef_ca {S : Sc} {d : Nat} {p1 : Nat} {a2 : Int32} {a3 : Int32} {a4 : Int32} {mem : Mm} {rr : Int32} {Q : Po} (h_p1 : kd p1 = 8) (h : J1_indexOfChar_4cfef p1 a2 a3 a4 = some rr) (q : Q (some (.int rr)) mem) : Ca S (d + 1) 14 [.ref p1, .int a2, .int a3, .int a4] mem Q := by
  unfold J1_indexOfChar_4cfef at h
  refine ca_in (by decide) mt_J1_indexOfChar_4cfef (Nat.le_of_ble_eq_true rfl) ?_
  show Ev S (d + 0) 11 cJ1_indexOfChar_4cfef (some .int) 0 [some (.ref p1), some (.int a2), some (.int a3), some (.int a4), none, none] [] mem Q
  refine ev_iload_n dJ1_indexOfChar_4cfef_0 (pc' := 1) rfl rfl ?_
  refine ev_i2b dJ1_indexOfChar_4cfef_1 (pc' := 2) rfl ?_
  refine ev_topi (fun v1 e_v1 => ?_)
  replace h := nm_at e_v1 h
  refine ev_istore dJ1_indexOfChar_4cfef_2 (pc' := 4) (ls' := [some (.ref p1), some (.int a2), some (.int a3), some (.int a4), some (.int v1), none]) rfl (Nat.le_of_ble_eq_true rfl) rfl ?_
  refine ev_iload_n dJ1_indexOfChar_4cfef_4 (pc' := 5) rfl rfl ?_
  refine ev_istore dJ1_indexOfChar_4cfef_5 (pc' := 7) (ls' := [some (.ref p1), some (.int a2), some (.int a3), some (.int a4), some (.int v1), some (.int a3)]) rfl (Nat.le_of_ble_eq_true rfl) rfl ?_
  exact ev_sub (lsub_c (lsub_n (lsub_n (lsub_c (lsub_c (lsub_c lsub_nil)))))) (J1_indexOfChar_4cfef_L7_ev h_p1 q LF a3 h)
def J1_indexOf_4cfef (p1 : Nat) (a2 : Int32) (a3 : Int32) (a4 : Int32) : Option Int32 := if (J1_canEncode_9a6ad a2) = 0 then (some (-1)) else (nm (mmax a3 0) (fun v2 => nm (mmin a4 (Int32.ofNat (ablen p1))) (fun v3 => if v2 < v3 then (ob (J1_indexOfChar_4cfef p1 a2 v2 v3) (fun y5 => some y5)) else (some (-1)))))
set_option maxRecDepth 100000 in
set_option maxHeartbeats 8000000 in
theorem J1_indexOf_4cfef_ca {S : Sc} {d : Nat} {p1 : Nat} {a2 : Int32} {a3 : Int32} {a4 : Int32} {mem : Mm} {rr : Int32} {Q : Po} (h_p1 : kd p1 = 8) (h : J1_indexOf_4cfef p1 a2 a3 a4 = some rr) (q : Q (some (.int rr)) mem) : Ca S (d + 2) 13 [.ref p1, .int a2, .int a3, .int a4] mem Q := by
  unfold J1_indexOf_4cfef at h
  refine ca_in (by decide) mt_J1_indexOf_4cfef (Nat.le_of_ble_eq_true rfl) ?_
  show Ev S (d + 1) 11 cJ1_indexOf_4cfef (some .int) 0 [some (.ref p1), some (.int a2), some (.int a3), some (.int a4)] [] mem Q
  refine ev_iload_n dJ1_indexOf_4cfef_0 (pc' := 1) rfl rfl ?_
  refine ev_invS dJ1_indexOf_4cfef_1 (pc' := 4) rfl sq_11_88 mt_J1_canEncode_9a6ad rfl ⟨_, rfl, Nat.le_of_ble_eq_true rfl, Nat.le_of_ble_eq_true rfl, rfl, rfl⟩ ?_
  refine J1_canEncode_9a6ad_ca  rfl ?_
  refine ev_r1 ?_
  refine ev_if_ne dJ1_indexOf_4cfef_4 (pc' := 7) rfl (t := 9) rfl (fun c1 => ?_) (fun c1 => ?_)
  · replace h := it_f c1 h
    refine ev_iload_n dJ1_indexOf_4cfef_9 (pc' := 10) rfl rfl ?_
    refine ev_iconst dJ1_indexOf_4cfef_10 (pc' := 11) (v := 0) rfl (by decide) ?_
    refine ev_invS dJ1_indexOf_4cfef_11 (pc' := 14) rfl sq_11_92 mt_J9_max_7cf53 rfl ⟨_, rfl, Nat.le_of_ble_eq_true rfl, Nat.le_of_ble_eq_true rfl, rfl, rfl⟩ ?_
    refine ca_math (by decide) (r := some (.int (mmax a3 0))) rfl ?_
    refine ev_r1 ?_
    refine ev_topi (fun v2 e_v2 => ?_)
    replace h := nm_at e_v2 h
    refine ev_istore_n dJ1_indexOf_4cfef_14 (pc' := 15) (ls' := [some (.ref p1), some (.int a2), some (.int v2), some (.int a4)]) rfl (Nat.le_of_ble_eq_true rfl) rfl ?_
    refine ev_iload_n dJ1_indexOf_4cfef_15 (pc' := 16) rfl rfl ?_
    refine ev_aload_n dJ1_indexOf_4cfef_16 (pc' := 17) rfl rfl ?_
    refine ev_alenB dJ1_indexOf_4cfef_17 (pc' := 18) rfl h_p1 ?_
    refine ev_invS dJ1_indexOf_4cfef_18 (pc' := 21) rfl sq_11_38 mt_J9_min_7cf53 rfl ⟨_, rfl, Nat.le_of_ble_eq_true rfl, Nat.le_of_ble_eq_true rfl, rfl, rfl⟩ ?_
    refine ca_math (by decide) (r := some (.int (mmin a4 (Int32.ofNat (ablen p1))))) rfl ?_
    refine ev_r1 ?_
    refine ev_topi (fun v3 e_v3 => ?_)
    replace h := nm_at e_v3 h
    refine ev_istore_n dJ1_indexOf_4cfef_21 (pc' := 22) (ls' := [some (.ref p1), some (.int a2), some (.int v2), some (.int v3)]) rfl (Nat.le_of_ble_eq_true rfl) rfl ?_
    refine ev_iload_n dJ1_indexOf_4cfef_22 (pc' := 23) rfl rfl ?_
    refine ev_iload_n dJ1_indexOf_4cfef_23 (pc' := 24) rfl rfl ?_
    refine ev_icmp_lt dJ1_indexOf_4cfef_24 (pc' := 27) rfl (t := 29) rfl (fun c4 => ?_) (fun c4 => ?_)
    · replace h := it_t c4 h
      refine ev_aload_n dJ1_indexOf_4cfef_29 (pc' := 30) rfl rfl ?_
      refine ev_iload_n dJ1_indexOf_4cfef_30 (pc' := 31) rfl rfl ?_
      refine ev_iload_n dJ1_indexOf_4cfef_31 (pc' := 32) rfl rfl ?_
      refine ev_iload_n dJ1_indexOf_4cfef_32 (pc' := 33) rfl rfl ?_
      obtain ⟨y5, x_y5, h⟩ := ob_of h
      refine ev_invS dJ1_indexOf_4cfef_33 (pc' := 36) rfl sq_11_95 mt_J1_indexOfChar_4cfef rfl ⟨_, rfl, Nat.le_of_ble_eq_true rfl, Nat.le_of_ble_eq_true rfl, rfl, rfl⟩ ?_
      refine J1_indexOfChar_4cfef_ca h_p1 x_y5 ?_
      refine ev_r1 ?_
      cases h
      exact ev_ireturn dJ1_indexOf_4cfef_36 rfl q
    · replace h := it_f c4 h
      refine ev_iconst dJ1_indexOf_4cfef_27 (pc' := 28) (v := (-1)) rfl (by decide) ?_
      cases h
      exact ev_ireturn dJ1_indexOf_4cfef_28 rfl q
  · replace h := it_t c1 h
    refine ev_iconst dJ1_indexOf_4cfef_7 (pc' := 8) (v := (-1)) rfl (by decide) ?_
    cases h
    exact ev_ireturn dJ1_indexOf_4cfef_8 rfl q
def J0_indexOf_7cf53 (o : Nat) (a1 : Int32) (a2 : Int32) : Option Int32 := if (J0_isLatin1_aae02 o) = 0 then (none) else (ob (J1_indexOf_4cfef (o + 10) a1 a2 (J0_length_8abf5 o)) (fun y2 => some y2))
set_option maxRecDepth 100000 in
set_option maxHeartbeats 8000000 in
theorem J0_indexOf_7cf53_ca {S : Sc} {d : Nat} {o : Nat} {a1 : Int32} {a2 : Int32} {mem : Mm} {rr : Int32} {Q : Po} (h_o : kd o = 7) (h : J0_indexOf_7cf53 o a1 a2 = some rr) (q : Q (some (.int rr)) mem) : Ca S (d + 3) 7 [.ref o, .int a1, .int a2] mem Q := by
  unfold J0_indexOf_7cf53 at h
  refine ca_in (by decide) mt_J0_indexOf_7cf53 (Nat.le_of_ble_eq_true rfl) ?_
  show Ev S (d + 2) 10 cJ0_indexOf_7cf53 (some .int) 0 [some (.ref o), some (.int a1), some (.int a2)] [] mem Q
  refine ev_aload_n dJ0_indexOf_7cf53_0 (pc' := 1) rfl rfl ?_
  refine ev_invV dJ0_indexOf_7cf53_1 (pc' := 4) rfl sq_10_492 mt_J0_isLatin1_aae02 rfl (arecv_tx (x := o) rfl rfl h_o) ⟨_, rfl, Nat.le_of_ble_eq_true rfl, Nat.le_of_ble_eq_true rfl, rfl, rfl⟩ ?_
  refine J0_isLatin1_aae02_ca h_o rfl ?_
  refine ev_r1 ?_
  refine ev_if_eq dJ0_indexOf_7cf53_4 (pc' := 7) rfl (t := 23) rfl (fun c1 => ?_) (fun c1 => ?_)
  · replace h := it_t c1 h
    refine ev_aload_n dJ0_indexOf_7cf53_23 (pc' := 24) rfl rfl ?_
    refine ev_getV dJ0_indexOf_7cf53_24 (pc' := 27) rfl rfl h_o ?_
    refine ev_iload_n dJ0_indexOf_7cf53_27 (pc' := 28) rfl rfl ?_
    refine ev_iload_n dJ0_indexOf_7cf53_28 (pc' := 29) rfl rfl ?_
    refine ev_aload_n dJ0_indexOf_7cf53_29 (pc' := 30) rfl rfl ?_
    refine ev_invV dJ0_indexOf_7cf53_30 (pc' := 33) rfl sq_10_505 mt_J0_length_8abf5 rfl (arecv_tx (x := o) rfl rfl h_o) ⟨_, rfl, Nat.le_of_ble_eq_true rfl, Nat.le_of_ble_eq_true rfl, rfl, rfl⟩ ?_
    refine J0_length_8abf5_ca h_o rfl ?_
    refine ev_r1 ?_
    cases h
  · replace h := it_f c1 h
    refine ev_aload_n dJ0_indexOf_7cf53_7 (pc' := 8) rfl rfl ?_
    refine ev_getV dJ0_indexOf_7cf53_8 (pc' := 11) rfl rfl h_o ?_
    refine ev_iload_n dJ0_indexOf_7cf53_11 (pc' := 12) rfl rfl ?_
    refine ev_iload_n dJ0_indexOf_7cf53_12 (pc' := 13) rfl rfl ?_
    refine ev_aload_n dJ0_indexOf_7cf53_13 (pc' := 14) rfl rfl ?_
    refine ev_invV dJ0_indexOf_7cf53_14 (pc' := 17) rfl sq_10_505 mt_J0_length_8abf5 rfl (arecv_tx (x := o) rfl rfl h_o) ⟨_, rfl, Nat.le_of_ble_eq_true rfl, Nat.le_of_ble_eq_true rfl, rfl, rfl⟩ ?_
    refine J0_length_8abf5_ca h_o rfl ?_
    refine ev_r1 ?_
    obtain ⟨y2, x_y2, h⟩ := ob_of h
    refine ev_invS dJ0_indexOf_7cf53_17 (pc' := 20) rfl sq_10_637 mt_J1_indexOf_4cfef rfl ⟨_, rfl, Nat.le_of_ble_eq_true rfl, Nat.le_of_ble_eq_true rfl, rfl, rfl⟩ ?_
    refine J1_indexOf_4cfef_ca (kd78 h_o) x_y2 ?_
    refine ev_r1 ?_
    refine ev_goto dJ0_indexOf_7cf53_20 (t := 36) rfl ?_
    cases h
    exact ev_ireturn dJ0_indexOf_7cf53_36 rfl q
def J0_indexOf_0f7a4 (o : Nat) (a1 : Int32) : Option Int32 := ob (J0_indexOf_7cf53 o a1 0) (fun y1 => some y1)
set_option maxRecDepth 100000 in
set_option maxHeartbeats 8000000 in
theorem J0_indexOf_0f7a4_ca {S : Sc} {d : Nat} {o : Nat} {a1 : Int32} {mem : Mm} {rr : Int32} {Q : Po} (h_o : kd o = 7) (h : J0_indexOf_0f7a4 o a1 = some rr) (q : Q (some (.int rr)) mem) : Ca S (d + 4) 6 [.ref o, .int a1] mem Q := by
  unfold J0_indexOf_0f7a4 at h
  refine ca_in (by decide) mt_J0_indexOf_0f7a4 (Nat.le_of_ble_eq_true rfl) ?_
  show Ev S (d + 3) 10 cJ0_indexOf_0f7a4 (some .int) 0 [some (.ref o), some (.int a1)] [] mem Q
  refine ev_aload_n dJ0_indexOf_0f7a4_0 (pc' := 1) rfl rfl ?_
  refine ev_iload_n dJ0_indexOf_0f7a4_1 (pc' := 2) rfl rfl ?_
  refine ev_iconst dJ0_indexOf_0f7a4_2 (pc' := 3) (v := 0) rfl (by decide) ?_
  obtain ⟨y1, x_y1, h⟩ := ob_of h
  refine ev_invV dJ0_indexOf_0f7a4_3 (pc' := 6) rfl sq_10_633 mt_J0_indexOf_7cf53 rfl (arecv_tx (x := o) rfl rfl h_o) ⟨_, rfl, Nat.le_of_ble_eq_true rfl, Nat.le_of_ble_eq_true rfl, rfl, rfl⟩ ?_
  refine J0_indexOf_7cf53_ca h_o x_y1 ?_
  refine ev_r1 ?_
  cases h
  exact ev_ireturn dJ0_indexOf_0f7a4_6 rfl q
def X0_become (o : Nat) (p1 : Nat) (mem : Mm) : Mm := nm (mset mem o 0 (mem p1 0)) (fun m1 => nm (mset m1 o 1 (m1 p1 1)) (fun m2 => nm (mset m2 o 2 (m2 p1 2)) (fun m3 => nm (mset m3 o 3 (m3 p1 3)) (fun m4 => nm (mset m4 o 4 (m4 p1 4)) (fun m5 => nm (mset m5 o 5 (m5 p1 5)) (fun m6 => m6))))))
set_option maxRecDepth 100000 in
set_option maxHeartbeats 8000000 in
theorem X0_become_ca {S : Sc} {d : Nat} {o : Nat} {p1 : Nat} {mem : Mm} {mr : Mm} {Q : Po} (h_o : kdp o 0) (h_p1 : kdp p1 0) (h : X0_become o p1 mem = mr) (q : Q none mr) : Ca S (d + 1) 16 [.ref o, .ref p1] mem Q := by
  unfold X0_become at h
  refine ca_in (by decide) mt_X0_become (Nat.le_of_ble_eq_true rfl) ?_
  show Ev S (d + 0) 0 cX0_become none 0 [some (.ref o), some (.ref p1)] [] mem Q
  refine ev_aload_n dX0_become_0 (pc' := 1) rfl rfl ?_
  refine ev_aload_n dX0_become_1 (pc' := 2) rfl rfl ?_
  refine ev_get dX0_become_2 (pc' := 5) rfl fq_0_9 h_p1 rfl ?_
  refine ev_put dX0_become_5 (pc' := 8) rfl fq_0_9 h_o rfl (Or.inl (by decide)) ?_
  refine ev_topm (fun m1 e_m1 => ?_)
  replace h := nm_at e_m1 h
  refine ev_aload_n dX0_become_8 (pc' := 9) rfl rfl ?_
  refine ev_aload_n dX0_become_9 (pc' := 10) rfl rfl ?_
  refine ev_get dX0_become_10 (pc' := 13) rfl fq_0_15 h_p1 rfl ?_
  refine ev_put dX0_become_13 (pc' := 16) rfl fq_0_15 h_o rfl (Or.inl (by decide)) ?_
  refine ev_topm (fun m2 e_m2 => ?_)
  replace h := nm_at e_m2 h
  refine ev_aload_n dX0_become_16 (pc' := 17) rfl rfl ?_
  refine ev_aload_n dX0_become_17 (pc' := 18) rfl rfl ?_
  refine ev_get dX0_become_18 (pc' := 21) rfl fq_0_18 h_p1 rfl ?_
  refine ev_put dX0_become_21 (pc' := 24) rfl fq_0_18 h_o rfl (Or.inl (by decide)) ?_
  refine ev_topm (fun m3 e_m3 => ?_)
  replace h := nm_at e_m3 h
  refine ev_aload_n dX0_become_24 (pc' := 25) rfl rfl ?_
  refine ev_aload_n dX0_become_25 (pc' := 26) rfl rfl ?_
  refine ev_get dX0_become_26 (pc' := 29) rfl fq_0_21 h_p1 rfl ?_
  refine ev_put dX0_become_29 (pc' := 32) rfl fq_0_21 h_o rfl (Or.inl (by decide)) ?_
  refine ev_topm (fun m4 e_m4 => ?_)
  replace h := nm_at e_m4 h
  refine ev_aload_n dX0_become_32 (pc' := 33) rfl rfl ?_
  refine ev_aload_n dX0_become_33 (pc' := 34) rfl rfl ?_
  refine ev_get dX0_become_34 (pc' := 37) rfl fq_0_24 h_p1 rfl ?_
  refine ev_put dX0_become_37 (pc' := 40) rfl fq_0_24 h_o rfl (Or.inl (by decide)) ?_
  refine ev_topm (fun m5 e_m5 => ?_)
  replace h := nm_at e_m5 h
  refine ev_aload_n dX0_become_40 (pc' := 41) rfl rfl ?_
  refine ev_aload_n dX0_become_41 (pc' := 42) rfl rfl ?_
  refine ev_get dX0_become_42 (pc' := 45) rfl fq_0_27 h_p1 rfl ?_
  refine ev_put dX0_become_45 (pc' := 48) rfl fq_0_27 h_o rfl (Or.inl (by decide)) ?_
  refine ev_topm (fun m6 e_m6 => ?_)
  replace h := nm_at e_m6 h
  cases h
  exact ev_return dX0_become_48 rfl q
def X0_angelsPart (o : Nat) (a1 : Int32) (a2 : Int32) (mem : Mm) : Int32 := nm ((a1 * a2) / 100) (fun v1 => if (mem o 0) = 1 then ((v1 / 2)) else (if (mem o 0) = 3 then (0) else (if (mem o 0) = 4 then ((mmin (v1 + (mem o 4)) a1)) else (if (mem o 0) = 5 then (if (mem o 5) ≤ a1 then ((mmin v1 a1)) else ((mmin (2 * v1) a1))) else (v1)))))
set_option maxRecDepth 100000 in
set_option maxHeartbeats 8000000 in
theorem X0_angelsPart_ca {S : Sc} {d : Nat} {o : Nat} {a1 : Int32} {a2 : Int32} {mem : Mm} {rr : Int32} {Q : Po} (h_o : kdp o 0) (h : X0_angelsPart o a1 a2 mem = rr) (q : Q (some (.int rr)) mem) : Ca S (d + 2) 17 [.ref o, .int a1, .int a2] mem Q := by
  unfold X0_angelsPart at h
  refine ca_in (by decide) mt_X0_angelsPart (Nat.le_of_ble_eq_true rfl) ?_
  show Ev S (d + 1) 0 cX0_angelsPart (some .int) 0 [some (.ref o), some (.int a1), some (.int a2), none] [] mem Q
  refine ev_iload_n dX0_angelsPart_0 (pc' := 1) rfl rfl ?_
  refine ev_iload_n dX0_angelsPart_1 (pc' := 2) rfl rfl ?_
  refine ev_imul dX0_angelsPart_2 (pc' := 3) rfl ?_
  refine ev_bipush dX0_angelsPart_3 (pc' := 5) (v := 100) rfl (by decide) ?_
  refine ev_idiv dX0_angelsPart_5 (pc' := 6) rfl (by decide) ?_
  refine ev_topi (fun v1 e_v1 => ?_)
  replace h := nm_at e_v1 h
  refine ev_istore_n dX0_angelsPart_6 (pc' := 7) (ls' := [some (.ref o), some (.int a1), some (.int a2), some (.int v1)]) rfl (Nat.le_of_ble_eq_true rfl) rfl ?_
  refine ev_aload_n dX0_angelsPart_7 (pc' := 8) rfl rfl ?_
  refine ev_get dX0_angelsPart_8 (pc' := 11) rfl fq_0_9 h_o rfl ?_
  by_cases c2 : (mem o 0) = 1
  · replace h := it_t c2 h
    refine ev_tableIn dX0_angelsPart_11 c2 (by decide) rfl (t := 44) rfl ?_
    refine ev_iload_n dX0_angelsPart_44 (pc' := 45) rfl rfl ?_
    refine ev_iconst dX0_angelsPart_45 (pc' := 46) (v := 2) rfl (by decide) ?_
    refine ev_idiv dX0_angelsPart_46 (pc' := 47) rfl (by decide) ?_
    cases h
    exact ev_ireturn dX0_angelsPart_47 rfl q
  · replace h := it_f c2 h
    by_cases c3 : (mem o 0) = 3
    · replace h := it_t c3 h
      refine ev_tableIn dX0_angelsPart_11 c3 (by decide) rfl (t := 48) rfl ?_
      refine ev_iconst dX0_angelsPart_48 (pc' := 49) (v := 0) rfl (by decide) ?_
      cases h
      exact ev_ireturn dX0_angelsPart_49 rfl q
    · replace h := it_f c3 h
      by_cases c4 : (mem o 0) = 4
      · replace h := it_t c4 h
        refine ev_tableIn dX0_angelsPart_11 c4 (by decide) rfl (t := 50) rfl ?_
        refine ev_iload_n dX0_angelsPart_50 (pc' := 51) rfl rfl ?_
        refine ev_aload_n dX0_angelsPart_51 (pc' := 52) rfl rfl ?_
        refine ev_get dX0_angelsPart_52 (pc' := 55) rfl fq_0_24 h_o rfl ?_
        refine ev_iadd dX0_angelsPart_55 (pc' := 56) rfl ?_
        refine ev_iload_n dX0_angelsPart_56 (pc' := 57) rfl rfl ?_
        refine ev_invS dX0_angelsPart_57 (pc' := 60) rfl sq_0_30 mt_J9_min_7cf53 rfl ⟨_, rfl, Nat.le_of_ble_eq_true rfl, Nat.le_of_ble_eq_true rfl, rfl, rfl⟩ ?_
        refine ca_math (by decide) (r := some (.int (mmin (v1 + (mem o 4)) a1))) rfl ?_
        refine ev_r1 ?_
        cases h
        exact ev_ireturn dX0_angelsPart_60 rfl q
      · replace h := it_f c4 h
        by_cases c5 : (mem o 0) = 5
        · replace h := it_t c5 h
          refine ev_tableIn dX0_angelsPart_11 c5 (by decide) rfl (t := 61) rfl ?_
          refine ev_aload_n dX0_angelsPart_61 (pc' := 62) rfl rfl ?_
          refine ev_get dX0_angelsPart_62 (pc' := 65) rfl fq_0_27 h_o rfl ?_
          refine ev_iload_n dX0_angelsPart_65 (pc' := 66) rfl rfl ?_
          refine ev_icmp_le dX0_angelsPart_66 (pc' := 69) rfl (t := 75) rfl (fun c6 => ?_) (fun c6 => ?_)
          · replace h := it_t c6 h
            refine ev_iload_n dX0_angelsPart_75 (pc' := 76) rfl rfl ?_
            refine ev_iload_n dX0_angelsPart_76 (pc' := 77) rfl rfl ?_
            refine ev_invS dX0_angelsPart_77 (pc' := 80) rfl sq_0_30 mt_J9_min_7cf53 rfl ⟨_, rfl, Nat.le_of_ble_eq_true rfl, Nat.le_of_ble_eq_true rfl, rfl, rfl⟩ ?_
            refine ca_math (by decide) (r := some (.int (mmin v1 a1))) rfl ?_
            refine ev_r1 ?_
            cases h
            exact ev_ireturn dX0_angelsPart_80 rfl q
          · replace h := it_f c6 h
            refine ev_iconst dX0_angelsPart_69 (pc' := 70) (v := 2) rfl (by decide) ?_
            refine ev_iload_n dX0_angelsPart_70 (pc' := 71) rfl rfl ?_
            refine ev_imul dX0_angelsPart_71 (pc' := 72) rfl ?_
            refine ev_goto dX0_angelsPart_72 (t := 76) rfl ?_
            refine ev_iload_n dX0_angelsPart_76 (pc' := 77) rfl rfl ?_
            refine ev_invS dX0_angelsPart_77 (pc' := 80) rfl sq_0_30 mt_J9_min_7cf53 rfl ⟨_, rfl, Nat.le_of_ble_eq_true rfl, Nat.le_of_ble_eq_true rfl, rfl, rfl⟩ ?_
            refine ca_math (by decide) (r := some (.int (mmin (2 * v1) a1))) rfl ?_
            refine ev_r1 ?_
            cases h
            exact ev_ireturn dX0_angelsPart_80 rfl q
        · replace h := it_f c5 h
          refine ev_tableDef dX0_angelsPart_11 [1, 3, 4, 5] (by decide) (List.forall_mem_cons.mpr ⟨c2, List.forall_mem_cons.mpr ⟨c3, List.forall_mem_cons.mpr ⟨c4, List.forall_mem_cons.mpr ⟨c5, fun _ h => absurd h List.not_mem_nil⟩⟩⟩⟩) (t := 81) rfl ?_
          refine ev_iload_n dX0_angelsPart_81 (pc' := 82) rfl rfl ?_
          cases h
          exact ev_ireturn dX0_angelsPart_82 rfl q
def X0_strengthIn (o : Nat) (a1 : Int32) (mem : Mm) : Int32 := if (mem o 0) = 1 then ((mmax ((mem o 3) - 1) 0)) else (if (mem o 0) = 2 then (if (airem a1 5) = 0 then ((mmin ((mem o 3) + 1) 99)) else ((mem o 3))) else (if (mem o 0) = 4 then (if (airem a1 5) = 0 then ((mmin ((mem o 3) + 1) 99)) else ((mem o 3))) else (if (mem o 0) = 5 then ((mmin ((mem o 3) + 1) 99)) else ((mem o 3)))))
set_option maxRecDepth 100000 in
set_option maxHeartbeats 8000000 in
theorem X0_strengthIn_ca {S : Sc} {d : Nat} {o : Nat} {a1 : Int32} {mem : Mm} {rr : Int32} {Q : Po} (h_o : kdp o 0) (h : X0_strengthIn o a1 mem = rr) (q : Q (some (.int rr)) mem) : Ca S (d + 2) 18 [.ref o, .int a1] mem Q := by
  unfold X0_strengthIn at h
  refine ca_in (by decide) mt_X0_strengthIn (Nat.le_of_ble_eq_true rfl) ?_
  show Ev S (d + 1) 0 cX0_strengthIn (some .int) 0 [some (.ref o), some (.int a1)] [] mem Q
  refine ev_aload_n dX0_strengthIn_0 (pc' := 1) rfl rfl ?_
  refine ev_get dX0_strengthIn_1 (pc' := 4) rfl fq_0_9 h_o rfl ?_
  by_cases c1 : (mem o 0) = 1
  · replace h := it_t c1 h
    refine ev_tableIn dX0_strengthIn_4 c1 (by decide) rfl (t := 40) rfl ?_
    refine ev_aload_n dX0_strengthIn_40 (pc' := 41) rfl rfl ?_
    refine ev_get dX0_strengthIn_41 (pc' := 44) rfl fq_0_21 h_o rfl ?_
    refine ev_iconst dX0_strengthIn_44 (pc' := 45) (v := 1) rfl (by decide) ?_
    refine ev_isub dX0_strengthIn_45 (pc' := 46) rfl ?_
    refine ev_iconst dX0_strengthIn_46 (pc' := 47) (v := 0) rfl (by decide) ?_
    refine ev_invS dX0_strengthIn_47 (pc' := 50) rfl sq_0_36 mt_J9_max_7cf53 rfl ⟨_, rfl, Nat.le_of_ble_eq_true rfl, Nat.le_of_ble_eq_true rfl, rfl, rfl⟩ ?_
    refine ca_math (by decide) (r := some (.int (mmax ((mem o 3) - 1) 0))) rfl ?_
    refine ev_r1 ?_
    cases h
    exact ev_ireturn dX0_strengthIn_50 rfl q
  · replace h := it_f c1 h
    by_cases c2 : (mem o 0) = 2
    · replace h := it_t c2 h
      refine ev_tableIn dX0_strengthIn_4 c2 (by decide) rfl (t := 51) rfl ?_
      refine ev_iload_n dX0_strengthIn_51 (pc' := 52) rfl rfl ?_
      refine ev_iconst dX0_strengthIn_52 (pc' := 53) (v := 5) rfl (by decide) ?_
      refine ev_irem dX0_strengthIn_53 (pc' := 54) rfl (by decide) ?_
      refine ev_if_ne dX0_strengthIn_54 (pc' := 57) rfl (t := 71) rfl (fun c3 => ?_) (fun c3 => ?_)
      · replace h := it_f c3 h
        refine ev_aload_n dX0_strengthIn_71 (pc' := 72) rfl rfl ?_
        refine ev_get dX0_strengthIn_72 (pc' := 75) rfl fq_0_21 h_o rfl ?_
        cases h
        exact ev_ireturn dX0_strengthIn_75 rfl q
      · replace h := it_t c3 h
        refine ev_aload_n dX0_strengthIn_57 (pc' := 58) rfl rfl ?_
        refine ev_get dX0_strengthIn_58 (pc' := 61) rfl fq_0_21 h_o rfl ?_
        refine ev_iconst dX0_strengthIn_61 (pc' := 62) (v := 1) rfl (by decide) ?_
        refine ev_iadd dX0_strengthIn_62 (pc' := 63) rfl ?_
        refine ev_bipush dX0_strengthIn_63 (pc' := 65) (v := 99) rfl (by decide) ?_
        refine ev_invS dX0_strengthIn_65 (pc' := 68) rfl sq_0_30 mt_J9_min_7cf53 rfl ⟨_, rfl, Nat.le_of_ble_eq_true rfl, Nat.le_of_ble_eq_true rfl, rfl, rfl⟩ ?_
        refine ca_math (by decide) (r := some (.int (mmin ((mem o 3) + 1) 99))) rfl ?_
        refine ev_r1 ?_
        refine ev_goto dX0_strengthIn_68 (t := 75) rfl ?_
        cases h
        exact ev_ireturn dX0_strengthIn_75 rfl q
    · replace h := it_f c2 h
      by_cases c4 : (mem o 0) = 4
      · replace h := it_t c4 h
        refine ev_tableIn dX0_strengthIn_4 c4 (by decide) rfl (t := 51) rfl ?_
        refine ev_iload_n dX0_strengthIn_51 (pc' := 52) rfl rfl ?_
        refine ev_iconst dX0_strengthIn_52 (pc' := 53) (v := 5) rfl (by decide) ?_
        refine ev_irem dX0_strengthIn_53 (pc' := 54) rfl (by decide) ?_
        refine ev_if_ne dX0_strengthIn_54 (pc' := 57) rfl (t := 71) rfl (fun c5 => ?_) (fun c5 => ?_)
        · replace h := it_f c5 h
          refine ev_aload_n dX0_strengthIn_71 (pc' := 72) rfl rfl ?_
          refine ev_get dX0_strengthIn_72 (pc' := 75) rfl fq_0_21 h_o rfl ?_
          cases h
          exact ev_ireturn dX0_strengthIn_75 rfl q
        · replace h := it_t c5 h
          refine ev_aload_n dX0_strengthIn_57 (pc' := 58) rfl rfl ?_
          refine ev_get dX0_strengthIn_58 (pc' := 61) rfl fq_0_21 h_o rfl ?_
          refine ev_iconst dX0_strengthIn_61 (pc' := 62) (v := 1) rfl (by decide) ?_
          refine ev_iadd dX0_strengthIn_62 (pc' := 63) rfl ?_
          refine ev_bipush dX0_strengthIn_63 (pc' := 65) (v := 99) rfl (by decide) ?_
          refine ev_invS dX0_strengthIn_65 (pc' := 68) rfl sq_0_30 mt_J9_min_7cf53 rfl ⟨_, rfl, Nat.le_of_ble_eq_true rfl, Nat.le_of_ble_eq_true rfl, rfl, rfl⟩ ?_
          refine ca_math (by decide) (r := some (.int (mmin ((mem o 3) + 1) 99))) rfl ?_
          refine ev_r1 ?_
          refine ev_goto dX0_strengthIn_68 (t := 75) rfl ?_
          cases h
          exact ev_ireturn dX0_strengthIn_75 rfl q
      · replace h := it_f c4 h
        by_cases c6 : (mem o 0) = 5
        · replace h := it_t c6 h
          refine ev_tableIn dX0_strengthIn_4 c6 (by decide) rfl (t := 76) rfl ?_
          refine ev_aload_n dX0_strengthIn_76 (pc' := 77) rfl rfl ?_
          refine ev_get dX0_strengthIn_77 (pc' := 80) rfl fq_0_21 h_o rfl ?_
          refine ev_iconst dX0_strengthIn_80 (pc' := 81) (v := 1) rfl (by decide) ?_
          refine ev_iadd dX0_strengthIn_81 (pc' := 82) rfl ?_
          refine ev_bipush dX0_strengthIn_82 (pc' := 84) (v := 99) rfl (by decide) ?_
          refine ev_invS dX0_strengthIn_84 (pc' := 87) rfl sq_0_30 mt_J9_min_7cf53 rfl ⟨_, rfl, Nat.le_of_ble_eq_true rfl, Nat.le_of_ble_eq_true rfl, rfl, rfl⟩ ?_
          refine ca_math (by decide) (r := some (.int (mmin ((mem o 3) + 1) 99))) rfl ?_
          refine ev_r1 ?_
          cases h
          exact ev_ireturn dX0_strengthIn_87 rfl q
        · replace h := it_f c6 h
          refine ev_tableDef dX0_strengthIn_4 [1, 2, 4, 5] (by decide) (List.forall_mem_cons.mpr ⟨c1, List.forall_mem_cons.mpr ⟨c2, List.forall_mem_cons.mpr ⟨c4, List.forall_mem_cons.mpr ⟨c6, fun _ h => absurd h List.not_mem_nil⟩⟩⟩⟩) (t := 88) rfl ?_
          refine ev_aload_n dX0_strengthIn_88 (pc' := 89) rfl rfl ?_
          refine ev_get dX0_strengthIn_89 (pc' := 92) rfl fq_0_21 h_o rfl ?_
          cases h
          exact ev_ireturn dX0_strengthIn_92 rfl q
def X0_sentBackIn (o : Nat) (a1 : Int32) (mem : Mm) : Int32 := if (airem a1 7) = 0 then (if (mem o 0) = 1 then (0) else (if (mem o 0) = 2 then (if (mem o 5) < (mem o 4) then (0) else ((mem o 4))) else (if (mem o 0) = 3 then (0) else (if (mem o 0) = 4 then (((mem o 5) / 3)) else (if (mem o 0) = 5 then (0) else (((mem o 5) / 2))))))) else (0)
set_option maxRecDepth 100000 in
set_option maxHeartbeats 8000000 in
theorem X0_sentBackIn_ca {S : Sc} {d : Nat} {o : Nat} {a1 : Int32} {mem : Mm} {rr : Int32} {Q : Po} (h_o : kdp o 0) (h : X0_sentBackIn o a1 mem = rr) (q : Q (some (.int rr)) mem) : Ca S (d + 1) 19 [.ref o, .int a1] mem Q := by
  unfold X0_sentBackIn at h
  refine ca_in (by decide) mt_X0_sentBackIn (Nat.le_of_ble_eq_true rfl) ?_
  show Ev S (d + 0) 0 cX0_sentBackIn (some .int) 0 [some (.ref o), some (.int a1)] [] mem Q
  refine ev_iload_n dX0_sentBackIn_0 (pc' := 1) rfl rfl ?_
  refine ev_bipush dX0_sentBackIn_1 (pc' := 3) (v := 7) rfl (by decide) ?_
  refine ev_irem dX0_sentBackIn_3 (pc' := 4) rfl (by decide) ?_
  refine ev_if_eq dX0_sentBackIn_4 (pc' := 7) rfl (t := 9) rfl (fun c1 => ?_) (fun c1 => ?_)
  · replace h := it_t c1 h
    refine ev_aload_n dX0_sentBackIn_9 (pc' := 10) rfl rfl ?_
    refine ev_get dX0_sentBackIn_10 (pc' := 13) rfl fq_0_9 h_o rfl ?_
    by_cases c2 : (mem o 0) = 1
    · replace h := it_t c2 h
      refine ev_tableIn dX0_sentBackIn_13 c2 (by decide) rfl (t := 75) rfl ?_
      refine ev_iconst dX0_sentBackIn_75 (pc' := 76) (v := 0) rfl (by decide) ?_
      cases h
      exact ev_ireturn dX0_sentBackIn_76 rfl q
    · replace h := it_f c2 h
      by_cases c3 : (mem o 0) = 2
      · replace h := it_t c3 h
        refine ev_tableIn dX0_sentBackIn_13 c3 (by decide) rfl (t := 48) rfl ?_
        refine ev_aload_n dX0_sentBackIn_48 (pc' := 49) rfl rfl ?_
        refine ev_get dX0_sentBackIn_49 (pc' := 52) rfl fq_0_27 h_o rfl ?_
        refine ev_aload_n dX0_sentBackIn_52 (pc' := 53) rfl rfl ?_
        refine ev_get dX0_sentBackIn_53 (pc' := 56) rfl fq_0_24 h_o rfl ?_
        refine ev_icmp_lt dX0_sentBackIn_56 (pc' := 59) rfl (t := 66) rfl (fun c4 => ?_) (fun c4 => ?_)
        · replace h := it_t c4 h
          refine ev_iconst dX0_sentBackIn_66 (pc' := 67) (v := 0) rfl (by decide) ?_
          cases h
          exact ev_ireturn dX0_sentBackIn_67 rfl q
        · replace h := it_f c4 h
          refine ev_aload_n dX0_sentBackIn_59 (pc' := 60) rfl rfl ?_
          refine ev_get dX0_sentBackIn_60 (pc' := 63) rfl fq_0_24 h_o rfl ?_
          refine ev_goto dX0_sentBackIn_63 (t := 67) rfl ?_
          cases h
          exact ev_ireturn dX0_sentBackIn_67 rfl q
      · replace h := it_f c3 h
        by_cases c5 : (mem o 0) = 3
        · replace h := it_t c5 h
          refine ev_tableIn dX0_sentBackIn_13 c5 (by decide) rfl (t := 75) rfl ?_
          refine ev_iconst dX0_sentBackIn_75 (pc' := 76) (v := 0) rfl (by decide) ?_
          cases h
          exact ev_ireturn dX0_sentBackIn_76 rfl q
        · replace h := it_f c5 h
          by_cases c6 : (mem o 0) = 4
          · replace h := it_t c6 h
            refine ev_tableIn dX0_sentBackIn_13 c6 (by decide) rfl (t := 68) rfl ?_
            refine ev_aload_n dX0_sentBackIn_68 (pc' := 69) rfl rfl ?_
            refine ev_get dX0_sentBackIn_69 (pc' := 72) rfl fq_0_27 h_o rfl ?_
            refine ev_iconst dX0_sentBackIn_72 (pc' := 73) (v := 3) rfl (by decide) ?_
            refine ev_idiv dX0_sentBackIn_73 (pc' := 74) rfl (by decide) ?_
            cases h
            exact ev_ireturn dX0_sentBackIn_74 rfl q
          · replace h := it_f c6 h
            by_cases c7 : (mem o 0) = 5
            · replace h := it_t c7 h
              refine ev_tableIn dX0_sentBackIn_13 c7 (by decide) rfl (t := 75) rfl ?_
              refine ev_iconst dX0_sentBackIn_75 (pc' := 76) (v := 0) rfl (by decide) ?_
              cases h
              exact ev_ireturn dX0_sentBackIn_76 rfl q
            · replace h := it_f c7 h
              refine ev_tableDef dX0_sentBackIn_13 [1, 2, 3, 4, 5] (by decide) (List.forall_mem_cons.mpr ⟨c2, List.forall_mem_cons.mpr ⟨c3, List.forall_mem_cons.mpr ⟨c5, List.forall_mem_cons.mpr ⟨c6, List.forall_mem_cons.mpr ⟨c7, fun _ h => absurd h List.not_mem_nil⟩⟩⟩⟩⟩) (t := 77) rfl ?_
              refine ev_aload_n dX0_sentBackIn_77 (pc' := 78) rfl rfl ?_
              refine ev_get dX0_sentBackIn_78 (pc' := 81) rfl fq_0_27 h_o rfl ?_
              refine ev_iconst dX0_sentBackIn_81 (pc' := 82) (v := 2) rfl (by decide) ?_
              refine ev_idiv dX0_sentBackIn_82 (pc' := 83) rfl (by decide) ?_
              cases h
              exact ev_ireturn dX0_sentBackIn_83 rfl q
  · replace h := it_f c1 h
    refine ev_iconst dX0_sentBackIn_7 (pc' := 8) (v := 0) rfl (by decide) ?_
    cases h
    exact ev_ireturn dX0_sentBackIn_8 rfl q
def X0_goOn (o : Nat) (a1 : Int32) (a2 : Int32) (mem : Mm) : Mm := nm (X0_angelsPart o (mem o 2) a1 mem) (fun v1 => nm (mset mem o 5 ((mem o 5) + v1)) (fun m2 => nm (mset m2 o 2 ((m2 o 2) - v1)) (fun m3 => nm (mset m3 o 3 (X0_strengthIn o a2 m3)) (fun m4 => nm (mmin (X0_sentBackIn o a2 m4) ((m4 o 1) - (m4 o 2))) (fun v5 => nm (mset m4 o 5 ((m4 o 5) - v5)) (fun m6 => nm (mset m6 o 2 ((m6 o 2) + v5)) (fun m7 => m7)))))))
set_option maxRecDepth 100000 in
set_option maxHeartbeats 8000000 in
theorem X0_goOn_ca {S : Sc} {d : Nat} {o : Nat} {a1 : Int32} {a2 : Int32} {mem : Mm} {mr : Mm} {Q : Po} (h_o : kdp o 0) (h : X0_goOn o a1 a2 mem = mr) (q : Q none mr) : Ca S (d + 3) 20 [.ref o, .int a1, .int a2] mem Q := by
  unfold X0_goOn at h
  refine ca_in (by decide) mt_X0_goOn (Nat.le_of_ble_eq_true rfl) ?_
  show Ev S (d + 2) 0 cX0_goOn none 0 [some (.ref o), some (.int a1), some (.int a2), none, none] [] mem Q
  refine ev_aload_n dX0_goOn_0 (pc' := 1) rfl rfl ?_
  refine ev_aload_n dX0_goOn_1 (pc' := 2) rfl rfl ?_
  refine ev_get dX0_goOn_2 (pc' := 5) rfl fq_0_18 h_o rfl ?_
  refine ev_iload_n dX0_goOn_5 (pc' := 6) rfl rfl ?_
  refine ev_invV dX0_goOn_6 (pc' := 9) rfl sq_0_39 mt_X0_angelsPart rfl (arecv_ob (x := o) rfl rfl (by decide) h_o) ⟨_, rfl, Nat.le_of_ble_eq_true rfl, Nat.le_of_ble_eq_true rfl, rfl, rfl⟩ ?_
  refine X0_angelsPart_ca h_o rfl ?_
  refine ev_r1 ?_
  refine ev_topi (fun v1 e_v1 => ?_)
  replace h := nm_at e_v1 h
  refine ev_istore_n dX0_goOn_9 (pc' := 10) (ls' := [some (.ref o), some (.int a1), some (.int a2), some (.int v1), none]) rfl (Nat.le_of_ble_eq_true rfl) rfl ?_
  refine ev_aload_n dX0_goOn_10 (pc' := 11) rfl rfl ?_
  refine ev_dup dX0_goOn_11 (pc' := 12) rfl rfl ?_
  refine ev_get dX0_goOn_12 (pc' := 15) rfl fq_0_27 h_o rfl ?_
  refine ev_iload_n dX0_goOn_15 (pc' := 16) rfl rfl ?_
  refine ev_iadd dX0_goOn_16 (pc' := 17) rfl ?_
  refine ev_put dX0_goOn_17 (pc' := 20) rfl fq_0_27 h_o rfl (Or.inl (by decide)) ?_
  refine ev_topm (fun m2 e_m2 => ?_)
  replace h := nm_at e_m2 h
  refine ev_aload_n dX0_goOn_20 (pc' := 21) rfl rfl ?_
  refine ev_dup dX0_goOn_21 (pc' := 22) rfl rfl ?_
  refine ev_get dX0_goOn_22 (pc' := 25) rfl fq_0_18 h_o rfl ?_
  refine ev_iload_n dX0_goOn_25 (pc' := 26) rfl rfl ?_
  refine ev_isub dX0_goOn_26 (pc' := 27) rfl ?_
  refine ev_put dX0_goOn_27 (pc' := 30) rfl fq_0_18 h_o rfl (Or.inl (by decide)) ?_
  refine ev_topm (fun m3 e_m3 => ?_)
  replace h := nm_at e_m3 h
  refine ev_aload_n dX0_goOn_30 (pc' := 31) rfl rfl ?_
  refine ev_aload_n dX0_goOn_31 (pc' := 32) rfl rfl ?_
  refine ev_iload_n dX0_goOn_32 (pc' := 33) rfl rfl ?_
  refine ev_invV dX0_goOn_33 (pc' := 36) rfl sq_0_42 mt_X0_strengthIn rfl (arecv_ob (x := o) rfl rfl (by decide) h_o) ⟨_, rfl, Nat.le_of_ble_eq_true rfl, Nat.le_of_ble_eq_true rfl, rfl, rfl⟩ ?_
  refine X0_strengthIn_ca h_o rfl ?_
  refine ev_r1 ?_
  refine ev_put dX0_goOn_36 (pc' := 39) rfl fq_0_21 h_o rfl (Or.inl (by decide)) ?_
  refine ev_topm (fun m4 e_m4 => ?_)
  replace h := nm_at e_m4 h
  refine ev_aload_n dX0_goOn_39 (pc' := 40) rfl rfl ?_
  refine ev_iload_n dX0_goOn_40 (pc' := 41) rfl rfl ?_
  refine ev_invV dX0_goOn_41 (pc' := 44) rfl sq_0_46 mt_X0_sentBackIn rfl (arecv_ob (x := o) rfl rfl (by decide) h_o) ⟨_, rfl, Nat.le_of_ble_eq_true rfl, Nat.le_of_ble_eq_true rfl, rfl, rfl⟩ ?_
  refine X0_sentBackIn_ca h_o rfl ?_
  refine ev_r1 ?_
  refine ev_aload_n dX0_goOn_44 (pc' := 45) rfl rfl ?_
  refine ev_get dX0_goOn_45 (pc' := 48) rfl fq_0_15 h_o rfl ?_
  refine ev_aload_n dX0_goOn_48 (pc' := 49) rfl rfl ?_
  refine ev_get dX0_goOn_49 (pc' := 52) rfl fq_0_18 h_o rfl ?_
  refine ev_isub dX0_goOn_52 (pc' := 53) rfl ?_
  refine ev_invS dX0_goOn_53 (pc' := 56) rfl sq_0_30 mt_J9_min_7cf53 rfl ⟨_, rfl, Nat.le_of_ble_eq_true rfl, Nat.le_of_ble_eq_true rfl, rfl, rfl⟩ ?_
  refine ca_math (by decide) (r := some (.int (mmin (X0_sentBackIn o a2 m4) ((m4 o 1) - (m4 o 2))))) rfl ?_
  refine ev_r1 ?_
  refine ev_topi (fun v5 e_v5 => ?_)
  replace h := nm_at e_v5 h
  refine ev_istore dX0_goOn_56 (pc' := 58) (ls' := [some (.ref o), some (.int a1), some (.int a2), some (.int v1), some (.int v5)]) rfl (Nat.le_of_ble_eq_true rfl) rfl ?_
  refine ev_aload_n dX0_goOn_58 (pc' := 59) rfl rfl ?_
  refine ev_dup dX0_goOn_59 (pc' := 60) rfl rfl ?_
  refine ev_get dX0_goOn_60 (pc' := 63) rfl fq_0_27 h_o rfl ?_
  refine ev_iload dX0_goOn_63 (pc' := 65) rfl rfl ?_
  refine ev_isub dX0_goOn_65 (pc' := 66) rfl ?_
  refine ev_put dX0_goOn_66 (pc' := 69) rfl fq_0_27 h_o rfl (Or.inl (by decide)) ?_
  refine ev_topm (fun m6 e_m6 => ?_)
  replace h := nm_at e_m6 h
  refine ev_aload_n dX0_goOn_69 (pc' := 70) rfl rfl ?_
  refine ev_dup dX0_goOn_70 (pc' := 71) rfl rfl ?_
  refine ev_get dX0_goOn_71 (pc' := 74) rfl fq_0_18 h_o rfl ?_
  refine ev_iload dX0_goOn_74 (pc' := 76) rfl rfl ?_
  refine ev_iadd dX0_goOn_76 (pc' := 77) rfl ?_
  refine ev_put dX0_goOn_77 (pc' := 80) rfl fq_0_18 h_o rfl (Or.inl (by decide)) ?_
  refine ev_topm (fun m7 e_m7 => ?_)
  replace h := nm_at e_m7 h
  cases h
  exact ev_return dX0_goOn_80 rfl q
def X0_isHalfTheirs (o : Nat) (mem : Mm) : Int32 := if (mem o 5) ≤ 0 then (0) else (if (mem o 5) < (mem o 2) then (0) else (1))
theorem X0_isHalfTheirs_b (o : Nat) (mem : Mm) : X0_isHalfTheirs o mem = 0 ∨ X0_isHalfTheirs o mem = 1 := by
  unfold X0_isHalfTheirs
  first | exact X4_isIn_b _ _ _ | (repeat' split) <;> first | exact Or.inl rfl | exact Or.inr rfl
set_option maxRecDepth 100000 in
set_option maxHeartbeats 8000000 in
theorem X0_isHalfTheirs_ca {S : Sc} {d : Nat} {o : Nat} {mem : Mm} {rr : Int32} {Q : Po} (h_o : kdp o 0) (h : X0_isHalfTheirs o mem = rr) (q : Q (some (.int rr)) mem) : Ca S (d + 1) 21 [.ref o] mem Q := by
  unfold X0_isHalfTheirs at h
  refine ca_in (by decide) mt_X0_isHalfTheirs (Nat.le_of_ble_eq_true rfl) ?_
  show Ev S (d + 0) 0 cX0_isHalfTheirs (some .boolean) 0 [some (.ref o)] [] mem Q
  refine ev_aload_n dX0_isHalfTheirs_0 (pc' := 1) rfl rfl ?_
  refine ev_get dX0_isHalfTheirs_1 (pc' := 4) rfl fq_0_27 h_o rfl ?_
  refine ev_if_le dX0_isHalfTheirs_4 (pc' := 7) rfl (t := 22) rfl (fun c1 => ?_) (fun c1 => ?_)
  · replace h := it_t c1 h
    refine ev_iconst dX0_isHalfTheirs_22 (pc' := 23) (v := 0) rfl (by decide) ?_
    cases h
    exact ev_ireturn dX0_isHalfTheirs_23 (aret_z (by decide)) q
  · replace h := it_f c1 h
    refine ev_aload_n dX0_isHalfTheirs_7 (pc' := 8) rfl rfl ?_
    refine ev_get dX0_isHalfTheirs_8 (pc' := 11) rfl fq_0_27 h_o rfl ?_
    refine ev_aload_n dX0_isHalfTheirs_11 (pc' := 12) rfl rfl ?_
    refine ev_get dX0_isHalfTheirs_12 (pc' := 15) rfl fq_0_18 h_o rfl ?_
    refine ev_icmp_lt dX0_isHalfTheirs_15 (pc' := 18) rfl (t := 22) rfl (fun c2 => ?_) (fun c2 => ?_)
    · replace h := it_t c2 h
      refine ev_iconst dX0_isHalfTheirs_22 (pc' := 23) (v := 0) rfl (by decide) ?_
      cases h
      exact ev_ireturn dX0_isHalfTheirs_23 (aret_z (by decide)) q
    · replace h := it_f c2 h
      refine ev_iconst dX0_isHalfTheirs_18 (pc' := 19) (v := 1) rfl (by decide) ?_
      refine ev_goto dX0_isHalfTheirs_19 (t := 23) rfl ?_
      cases h
      exact ev_ireturn dX0_isHalfTheirs_23 (aret_z (by decide)) q
def X0_worth (o : Nat) (mem : Mm) : Int32 := ((mem o 2) * (mem o 3))
set_option maxRecDepth 100000 in
set_option maxHeartbeats 8000000 in
theorem X0_worth_ca {S : Sc} {d : Nat} {o : Nat} {mem : Mm} {rr : Int32} {Q : Po} (h_o : kdp o 0) (h : X0_worth o mem = rr) (q : Q (some (.int rr)) mem) : Ca S (d + 1) 22 [.ref o] mem Q := by
  unfold X0_worth at h
  refine ca_in (by decide) mt_X0_worth (Nat.le_of_ble_eq_true rfl) ?_
  show Ev S (d + 0) 0 cX0_worth (some .int) 0 [some (.ref o)] [] mem Q
  refine ev_aload_n dX0_worth_0 (pc' := 1) rfl rfl ?_
  refine ev_get dX0_worth_1 (pc' := 4) rfl fq_0_18 h_o rfl ?_
  refine ev_aload_n dX0_worth_4 (pc' := 5) rfl rfl ?_
  refine ev_get dX0_worth_5 (pc' := 8) rfl fq_0_21 h_o rfl ?_
  refine ev_imul dX0_worth_8 (pc' := 9) rfl ?_
  cases h
  exact ev_ireturn dX0_worth_9 rfl q
def X1_isFull (o : Nat) (mem : Mm) : Int32 := if (mem o 1) < 96 then (0) else (1)
theorem X1_isFull_b (o : Nat) (mem : Mm) : X1_isFull o mem = 0 ∨ X1_isFull o mem = 1 := by
  unfold X1_isFull
  first | exact X4_isIn_b _ _ _ | (repeat' split) <;> first | exact Or.inl rfl | exact Or.inr rfl
set_option maxRecDepth 100000 in
set_option maxHeartbeats 8000000 in
theorem X1_isFull_ca {S : Sc} {d : Nat} {o : Nat} {mem : Mm} {rr : Int32} {Q : Po} (h_o : kdp o 1) (h : X1_isFull o mem = rr) (q : Q (some (.int rr)) mem) : Ca S (d + 1) 23 [.ref o] mem Q := by
  unfold X1_isFull at h
  refine ca_in (by decide) mt_X1_isFull (Nat.le_of_ble_eq_true rfl) ?_
  show Ev S (d + 0) 1 cX1_isFull (some .boolean) 0 [some (.ref o)] [] mem Q
  refine ev_aload_n dX1_isFull_0 (pc' := 1) rfl rfl ?_
  refine ev_get dX1_isFull_1 (pc' := 4) rfl fq_1_15 h_o rfl ?_
  refine ev_bipush dX1_isFull_4 (pc' := 6) (v := 96) rfl (by decide) ?_
  refine ev_icmp_lt dX1_isFull_6 (pc' := 9) rfl (t := 13) rfl (fun c1 => ?_) (fun c1 => ?_)
  · replace h := it_t c1 h
    refine ev_iconst dX1_isFull_13 (pc' := 14) (v := 0) rfl (by decide) ?_
    cases h
    exact ev_ireturn dX1_isFull_14 (aret_z (by decide)) q
  · replace h := it_f c1 h
    refine ev_iconst dX1_isFull_9 (pc' := 10) (v := 1) rfl (by decide) ?_
    refine ev_goto dX1_isFull_10 (t := 14) rfl ?_
    cases h
    exact ev_ireturn dX1_isFull_14 (aret_z (by decide)) q
def X1_add (o : Nat) (a1 : Int32) (mem : Mm) : Option (Int32 × Mm) := if (mem o 1) < 0 then (some ((mem o 1), mem)) else (if 96 ≤ (mem o 1) then (some ((mem o 1), mem)) else (gd (vin (mem o 1) 96) (nm (mset mem (o + 1) ((mem o 1)).toNatClampNeg a1) (fun m4 => nm (mset m4 o 1 ((m4 o 1) + 1)) (fun m5 => some ((m5 o 1), m5))))))
set_option maxRecDepth 100000 in
set_option maxHeartbeats 8000000 in
theorem X1_add_ca {S : Sc} {d : Nat} {o : Nat} {a1 : Int32} {mem : Mm} {rr : Int32} {mr : Mm} {Q : Po} (h_o : kdp o 1) (h : X1_add o a1 mem = some (rr, mr)) (q : Q (some (.int rr)) mr) : Ca S (d + 1) 24 [.ref o, .int a1] mem Q := by
  unfold X1_add at h
  refine ca_in (by decide) mt_X1_add (Nat.le_of_ble_eq_true rfl) ?_
  show Ev S (d + 0) 1 cX1_add (some .int) 0 [some (.ref o), some (.int a1)] [] mem Q
  refine ev_aload_n dX1_add_0 (pc' := 1) rfl rfl ?_
  refine ev_get dX1_add_1 (pc' := 4) rfl fq_1_15 h_o rfl ?_
  refine ev_if_lt dX1_add_4 (pc' := 7) rfl (t := 39) rfl (fun c1 => ?_) (fun c1 => ?_)
  · replace h := it_t c1 h
    refine ev_aload_n dX1_add_39 (pc' := 40) rfl rfl ?_
    refine ev_get dX1_add_40 (pc' := 43) rfl fq_1_15 h_o rfl ?_
    cases h
    exact ev_ireturn dX1_add_43 rfl q
  · replace h := it_f c1 h
    refine ev_aload_n dX1_add_7 (pc' := 8) rfl rfl ?_
    refine ev_get dX1_add_8 (pc' := 11) rfl fq_1_15 h_o rfl ?_
    refine ev_aload_n dX1_add_11 (pc' := 12) rfl rfl ?_
    refine ev_getR (y := (o + 1)) dX1_add_12 (pc' := 15) rfl fq_1_9 h_o rfl ?_
    refine ev_alen (n := 96) dX1_add_15 (pc' := 16) rfl (kd_lett h_o).1 (by rw [(kd_lett h_o).2]; rfl) ?_
    refine ev_icmp_ge dX1_add_16 (pc' := 19) rfl (t := 39) rfl (fun c2 => ?_) (fun c2 => ?_)
    · replace h := it_t c2 h
      refine ev_aload_n dX1_add_39 (pc' := 40) rfl rfl ?_
      refine ev_get dX1_add_40 (pc' := 43) rfl fq_1_15 h_o rfl ?_
      cases h
      exact ev_ireturn dX1_add_43 rfl q
    · replace h := it_f c2 h
      refine ev_aload_n dX1_add_19 (pc' := 20) rfl rfl ?_
      refine ev_getR (y := (o + 1)) dX1_add_20 (pc' := 23) rfl fq_1_9 h_o rfl ?_
      refine ev_aload_n dX1_add_23 (pc' := 24) rfl rfl ?_
      refine ev_get dX1_add_24 (pc' := 27) rfl fq_1_15 h_o rfl ?_
      refine ev_iload_n dX1_add_27 (pc' := 28) rfl rfl ?_
      obtain ⟨g3, h⟩ := gd_of h
      refine ev_iastK (k0 := ((mem o 1)).toNatClampNeg) dX1_add_28 (pc' := 29) rfl (kd_lett h_o).1 (by rw [(kd_lett h_o).2]; exact g3) rfl ?_
      refine ev_topm (fun m4 e_m4 => ?_)
      replace h := nm_at e_m4 h
      refine ev_aload_n dX1_add_29 (pc' := 30) rfl rfl ?_
      refine ev_dup dX1_add_30 (pc' := 31) rfl rfl ?_
      refine ev_get dX1_add_31 (pc' := 34) rfl fq_1_15 h_o rfl ?_
      refine ev_iconst dX1_add_34 (pc' := 35) (v := 1) rfl (by decide) ?_
      refine ev_iadd dX1_add_35 (pc' := 36) rfl ?_
      refine ev_put dX1_add_36 (pc' := 39) rfl fq_1_15 h_o rfl (Or.inl (by decide)) ?_
      refine ev_topm (fun m5 e_m5 => ?_)
      replace h := nm_at e_m5 h
      refine ev_aload_n dX1_add_39 (pc' := 40) rfl rfl ?_
      refine ev_get dX1_add_40 (pc' := 43) rfl fq_1_15 h_o rfl ?_
      cases h
      exact ev_ireturn dX1_add_43 rfl q
def X1_forget (o : Nat) (mem : Mm) : Mm := nm (mset mem o 1 0) (fun m1 => m1)
set_option maxRecDepth 100000 in
set_option maxHeartbeats 8000000 in
theorem X1_forget_ca {S : Sc} {d : Nat} {o : Nat} {mem : Mm} {mr : Mm} {Q : Po} (h_o : kdp o 1) (h : X1_forget o mem = mr) (q : Q none mr) : Ca S (d + 1) 25 [.ref o] mem Q := by
  unfold X1_forget at h
  refine ca_in (by decide) mt_X1_forget (Nat.le_of_ble_eq_true rfl) ?_
  show Ev S (d + 0) 1 cX1_forget none 0 [some (.ref o)] [] mem Q
  refine ev_aload_n dX1_forget_0 (pc' := 1) rfl rfl ?_
  refine ev_iconst dX1_forget_1 (pc' := 2) (v := 0) rfl (by decide) ?_
  refine ev_put dX1_forget_2 (pc' := 5) rfl fq_1_15 h_o rfl (Or.inl (by decide)) ?_
  refine ev_topm (fun m1 e_m1 => ?_)
  replace h := nm_at e_m1 h
  cases h
  exact ev_return dX1_forget_5 rfl q
def X1_at (o : Nat) (a1 : Int32) (mem : Mm) : Option Int32 := if a1 < 0 then (some (-1)) else (if (mem o 1) ≤ a1 then (some (-1)) else (if 96 ≤ a1 then (some (-1)) else (gd (vin a1 96) (some (mem (o + 1) (a1).toNatClampNeg)))))
set_option maxRecDepth 100000 in
set_option maxHeartbeats 8000000 in
theorem X1_at_ca {S : Sc} {d : Nat} {o : Nat} {a1 : Int32} {mem : Mm} {rr : Int32} {Q : Po} (h_o : kdp o 1) (h : X1_at o a1 mem = some rr) (q : Q (some (.int rr)) mem) : Ca S (d + 1) 26 [.ref o, .int a1] mem Q := by
  unfold X1_at at h
  refine ca_in (by decide) mt_X1_at (Nat.le_of_ble_eq_true rfl) ?_
  show Ev S (d + 0) 1 cX1_at (some .int) 0 [some (.ref o), some (.int a1)] [] mem Q
  refine ev_iload_n dX1_at_0 (pc' := 1) rfl rfl ?_
  refine ev_if_lt dX1_at_1 (pc' := 4) rfl (t := 30) rfl (fun c1 => ?_) (fun c1 => ?_)
  · replace h := it_t c1 h
    refine ev_iconst dX1_at_30 (pc' := 31) (v := (-1)) rfl (by decide) ?_
    cases h
    exact ev_ireturn dX1_at_31 rfl q
  · replace h := it_f c1 h
    refine ev_iload_n dX1_at_4 (pc' := 5) rfl rfl ?_
    refine ev_aload_n dX1_at_5 (pc' := 6) rfl rfl ?_
    refine ev_get dX1_at_6 (pc' := 9) rfl fq_1_15 h_o rfl ?_
    refine ev_icmp_ge dX1_at_9 (pc' := 12) rfl (t := 30) rfl (fun c2 => ?_) (fun c2 => ?_)
    · replace h := it_t c2 h
      refine ev_iconst dX1_at_30 (pc' := 31) (v := (-1)) rfl (by decide) ?_
      cases h
      exact ev_ireturn dX1_at_31 rfl q
    · replace h := it_f c2 h
      refine ev_iload_n dX1_at_12 (pc' := 13) rfl rfl ?_
      refine ev_aload_n dX1_at_13 (pc' := 14) rfl rfl ?_
      refine ev_getR (y := (o + 1)) dX1_at_14 (pc' := 17) rfl fq_1_9 h_o rfl ?_
      refine ev_alen (n := 96) dX1_at_17 (pc' := 18) rfl (kd_lett h_o).1 (by rw [(kd_lett h_o).2]; rfl) ?_
      refine ev_icmp_ge dX1_at_18 (pc' := 21) rfl (t := 30) rfl (fun c3 => ?_) (fun c3 => ?_)
      · replace h := it_t c3 h
        refine ev_iconst dX1_at_30 (pc' := 31) (v := (-1)) rfl (by decide) ?_
        cases h
        exact ev_ireturn dX1_at_31 rfl q
      · replace h := it_f c3 h
        refine ev_aload_n dX1_at_21 (pc' := 22) rfl rfl ?_
        refine ev_getR (y := (o + 1)) dX1_at_22 (pc' := 25) rfl fq_1_9 h_o rfl ?_
        refine ev_iload_n dX1_at_25 (pc' := 26) rfl rfl ?_
        obtain ⟨g4, h⟩ := gd_of h
        refine ev_ialdK (k0 := (a1).toNatClampNeg) dX1_at_26 (pc' := 27) rfl (kd_lett h_o).1 (by rw [(kd_lett h_o).2]; exact g4) rfl ?_
        refine ev_goto dX1_at_27 (t := 31) rfl ?_
        cases h
        exact ev_ireturn dX1_at_31 rfl q
def X1_kind (o : Nat) (a1 : Int32) (mem : Mm) : Option Int32 := ob (X1_at o a1 mem) (fun y1 => if 0 ≤ y1 then (ob (J0_indexOf_0f7a4 50 ((y1).toUInt32 % 65536).toInt32) (fun y3 => some y3)) else (some (-1)))
set_option maxRecDepth 100000 in
set_option maxHeartbeats 8000000 in
theorem X1_kind_ca {S : Sc} {d : Nat} {o : Nat} {a1 : Int32} {mem : Mm} {rr : Int32} {Q : Po} (h_o : kdp o 1) (h : X1_kind o a1 mem = some rr) (q : Q (some (.int rr)) mem) : Ca S (d + 5) 27 [.ref o, .int a1] mem Q := by
  unfold X1_kind at h
  refine ca_in (by decide) mt_X1_kind (Nat.le_of_ble_eq_true rfl) ?_
  show Ev S (d + 4) 1 cX1_kind (some .int) 0 [some (.ref o), some (.int a1), none] [] mem Q
  refine ev_aload_n dX1_kind_0 (pc' := 1) rfl rfl ?_
  refine ev_iload_n dX1_kind_1 (pc' := 2) rfl rfl ?_
  obtain ⟨y1, x_y1, h⟩ := ob_of h
  refine ev_invV dX1_kind_2 (pc' := 5) rfl sq_1_19 mt_X1_at rfl (arecv_ob (x := o) rfl rfl (by decide) h_o) ⟨_, rfl, Nat.le_of_ble_eq_true rfl, Nat.le_of_ble_eq_true rfl, rfl, rfl⟩ ?_
  refine X1_at_ca h_o x_y1 ?_
  refine ev_r1 ?_
  refine ev_istore_n dX1_kind_5 (pc' := 6) (ls' := [some (.ref o), some (.int a1), some (.int y1)]) rfl (Nat.le_of_ble_eq_true rfl) rfl ?_
  refine ev_iload_n dX1_kind_6 (pc' := 7) rfl rfl ?_
  refine ev_if_ge dX1_kind_7 (pc' := 10) rfl (t := 14) rfl (fun c2 => ?_) (fun c2 => ?_)
  · replace h := it_t c2 h
    refine ev_ldcS dX1_kind_14 (pc' := 16) rfl (by decide +kernel) xq_1_23 ?_
    refine ev_iload_n dX1_kind_16 (pc' := 17) rfl rfl ?_
    refine ev_i2c dX1_kind_17 (pc' := 18) rfl ?_
    obtain ⟨y3, x_y3, h⟩ := ob_of h
    refine ev_invV dX1_kind_18 (pc' := 21) rfl sq_1_25 mt_J0_indexOf_0f7a4 rfl (arecv_tx (x := 50) rfl rfl (by decide)) ⟨_, rfl, Nat.le_of_ble_eq_true rfl, Nat.le_of_ble_eq_true rfl, rfl, rfl⟩ ?_
    refine J0_indexOf_0f7a4_ca (by decide) x_y3 ?_
    refine ev_r1 ?_
    cases h
    exact ev_ireturn dX1_kind_21 rfl q
  · replace h := it_f c2 h
    refine ev_iconst dX1_kind_10 (pc' := 11) (v := (-1)) rfl (by decide) ?_
    refine ev_goto dX1_kind_11 (t := 21) rfl ?_
    cases h
    exact ev_ireturn dX1_kind_21 rfl q
def X1_number_L5 (o : Nat) (a1 : Int32) (a2 : Int32) (m5 : Mm) : Nat → Int32 → Int32 → Option Int32
  | 0, _, _ => none
  | n + 1, w3, w4 => if a2 ≤ w4 then (some w3) else (ob (X1_at o (a1 + w4) m5) (fun y7 => nm (((10 * w3) + y7) - 48) (fun v8 => nm (w4 + 1) (fun v9 => X1_number_L5 o a1 a2 m5 n v8 v9))))
def X1_number (o : Nat) (a1 : Int32) (a2 : Int32) (mem : Mm) : Option Int32 := X1_number_L5 o a1 a2 mem LF 0 0
set_option maxRecDepth 100000 in
set_option maxHeartbeats 8000000 in
theorem X1_number_L5_ev {S : Sc} {d : Nat} {o : Nat} {a1 : Int32} {a2 : Int32} {m5 : Mm} {rr : Int32} {Q : Po} (h_o : kdp o 1) (q : Q (some (.int rr)) m5) : ∀ (n : Nat) (w3 : Int32) (w4 : Int32), X1_number_L5 o a1 a2 m5 n w3 w4 = some rr → Ev S (d + 1) 1 cX1_number (some .int) 5 [some (.ref o), some (.int a1), some (.int a2), some (.int w3), some (.int w4)] [] m5 Q := by
  intro n
  induction n with
  | zero => intro w3 w4 h; cases h
  | succ n ih =>
    intro w3 w4 h
    unfold X1_number_L5 at h
    refine ev_iload dX1_number_5 (pc' := 7) rfl rfl ?_
    refine ev_iload_n dX1_number_7 (pc' := 8) rfl rfl ?_
    refine ev_icmp_ge dX1_number_8 (pc' := 11) rfl (t := 34) rfl (fun c6 => ?_) (fun c6 => ?_)
    · replace h := it_t c6 h
      refine ev_iload_n dX1_number_34 (pc' := 35) rfl rfl ?_
      cases h
      exact ev_ireturn dX1_number_35 rfl q
    · replace h := it_f c6 h
      refine ev_bipush dX1_number_11 (pc' := 13) (v := 10) rfl (by decide) ?_
      refine ev_iload_n dX1_number_13 (pc' := 14) rfl rfl ?_
      refine ev_imul dX1_number_14 (pc' := 15) rfl ?_
      refine ev_aload_n dX1_number_15 (pc' := 16) rfl rfl ?_
      refine ev_iload_n dX1_number_16 (pc' := 17) rfl rfl ?_
      refine ev_iload dX1_number_17 (pc' := 19) rfl rfl ?_
      refine ev_iadd dX1_number_19 (pc' := 20) rfl ?_
      obtain ⟨y7, x_y7, h⟩ := ob_of h
      refine ev_invV dX1_number_20 (pc' := 23) rfl sq_1_19 mt_X1_at rfl (arecv_ob (x := o) rfl rfl (by decide) h_o) ⟨_, rfl, Nat.le_of_ble_eq_true rfl, Nat.le_of_ble_eq_true rfl, rfl, rfl⟩ ?_
      refine X1_at_ca h_o x_y7 ?_
      refine ev_r1 ?_
      refine ev_iadd dX1_number_23 (pc' := 24) rfl ?_
      refine ev_bipush dX1_number_24 (pc' := 26) (v := 48) rfl (by decide) ?_
      refine ev_isub dX1_number_26 (pc' := 27) rfl ?_
      refine ev_topi (fun v8 e_v8 => ?_)
      replace h := nm_at e_v8 h
      refine ev_istore_n dX1_number_27 (pc' := 28) (ls' := [some (.ref o), some (.int a1), some (.int a2), some (.int v8), some (.int w4)]) rfl (Nat.le_of_ble_eq_true rfl) rfl ?_
      obtain ⟨v9, e_v9⟩ : ∃ y : Int32, y = (w4 + 1) := ⟨_, rfl⟩
      replace h := nm_at e_v9 h
      refine ev_iinc dX1_number_28 (pc' := 31) (v := v9) (ls' := [some (.ref o), some (.int a1), some (.int a2), some (.int v8), some (.int v9)]) rfl rfl (by rw [e_v9]; rfl) (Nat.le_of_ble_eq_true rfl) rfl ?_
      refine ev_goto dX1_number_31 (t := 5) rfl ?_
      exact ev_sub (lsub_c (lsub_c (lsub_c (lsub_c (lsub_c lsub_nil))))) (ih v8 v9 h)
set_option maxRecDepth 100000 in
set_option maxHeartbeats 8000000 in
theorem X1_number_ca {S : Sc} {d : Nat} {o : Nat} {a1 : Int32} {a2 : Int32} {mem : Mm} {rr : Int32} {Q : Po} (h_o : kdp o 1) (h : X1_number o a1 a2 mem = some rr) (q : Q (some (.int rr)) mem) : Ca S (d + 2) 28 [.ref o, .int a1, .int a2] mem Q := by
  unfold X1_number at h
  refine ca_in (by decide) mt_X1_number (Nat.le_of_ble_eq_true rfl) ?_
  show Ev S (d + 1) 1 cX1_number (some .int) 0 [some (.ref o), some (.int a1), some (.int a2), none, none] [] mem Q
  refine ev_iconst dX1_number_0 (pc' := 1) (v := 0) rfl (by decide) ?_
  refine ev_istore_n dX1_number_1 (pc' := 2) (ls' := [some (.ref o), some (.int a1), some (.int a2), some (.int 0), none]) rfl (Nat.le_of_ble_eq_true rfl) rfl ?_
  refine ev_iconst dX1_number_2 (pc' := 3) (v := 0) rfl (by decide) ?_
  refine ev_istore dX1_number_3 (pc' := 5) (ls' := [some (.ref o), some (.int a1), some (.int a2), some (.int 0), some (.int 0)]) rfl (Nat.le_of_ble_eq_true rfl) rfl ?_
  exact ev_sub (lsub_c (lsub_c (lsub_c (lsub_c (lsub_c lsub_nil))))) (X1_number_L5_ev h_o q LF 0 0 h)
def X1_shapeOf (a1 : Int32) : Nat := if a1 = 99 then (52) else (if a1 = 101 then (55) else (if a1 = 108 then (54) else (if a1 = 112 then (56) else (if a1 = 114 then (53) else (if a1 = 121 then (57) else (51))))))
set_option maxRecDepth 100000 in
set_option maxHeartbeats 8000000 in
theorem X1_shapeOf_ca {S : Sc} {d : Nat} {a1 : Int32} {mem : Mm} {rr : Nat} {Q : Po}  (h : X1_shapeOf a1 = rr) (q : Q (some (.ref rr)) mem) : Ca S (d + 1) 31 [.int a1] mem Q := by
  unfold X1_shapeOf at h
  refine ca_in (by decide) mt_X1_shapeOf (Nat.le_of_ble_eq_true rfl) ?_
  show Ev S (d + 0) 1 cX1_shapeOf (some (.object "java/lang/String")) 0 [some (.int a1)] [] mem Q
  refine ev_iload_n dX1_shapeOf_0 (pc' := 1) rfl rfl ?_
  by_cases c1 : a1 = 99
  · replace h := it_t c1 h
    refine ev_lookupIn dX1_shapeOf_1 rfl c1 rfl (t := 60) rfl ?_
    refine ev_ldcS dX1_shapeOf_60 (pc' := 62) rfl (by decide +kernel) xq_1_50 ?_
    cases h
    exact ev_areturn dX1_shapeOf_62 rfl (by decide) q
  · replace h := it_f c1 h
    by_cases c2 : a1 = 101
    · replace h := it_t c2 h
      refine ev_lookupIn dX1_shapeOf_1 rfl c2 rfl (t := 69) rfl ?_
      refine ev_ldcS dX1_shapeOf_69 (pc' := 71) rfl (by decide +kernel) xq_1_56 ?_
      cases h
      exact ev_areturn dX1_shapeOf_71 rfl (by decide) q
    · replace h := it_f c2 h
      by_cases c3 : a1 = 108
      · replace h := it_t c3 h
        refine ev_lookupIn dX1_shapeOf_1 rfl c3 rfl (t := 66) rfl ?_
        refine ev_ldcS dX1_shapeOf_66 (pc' := 68) rfl (by decide +kernel) xq_1_54 ?_
        cases h
        exact ev_areturn dX1_shapeOf_68 rfl (by decide) q
      · replace h := it_f c3 h
        by_cases c4 : a1 = 112
        · replace h := it_t c4 h
          refine ev_lookupIn dX1_shapeOf_1 rfl c4 rfl (t := 72) rfl ?_
          refine ev_ldcS dX1_shapeOf_72 (pc' := 74) rfl (by decide +kernel) xq_1_58 ?_
          cases h
          exact ev_areturn dX1_shapeOf_74 rfl (by decide) q
        · replace h := it_f c4 h
          by_cases c5 : a1 = 114
          · replace h := it_t c5 h
            refine ev_lookupIn dX1_shapeOf_1 rfl c5 rfl (t := 63) rfl ?_
            refine ev_ldcS dX1_shapeOf_63 (pc' := 65) rfl (by decide +kernel) xq_1_52 ?_
            cases h
            exact ev_areturn dX1_shapeOf_65 rfl (by decide) q
          · replace h := it_f c5 h
            by_cases c6 : a1 = 121
            · replace h := it_t c6 h
              refine ev_lookupIn dX1_shapeOf_1 rfl c6 rfl (t := 75) rfl ?_
              refine ev_ldcS dX1_shapeOf_75 (pc' := 77) rfl (by decide +kernel) xq_1_60 ?_
              cases h
              exact ev_areturn dX1_shapeOf_77 rfl (by decide) q
            · replace h := it_f c6 h
              refine ev_lookupDef dX1_shapeOf_1 rfl [99, 101, 108, 112, 114, 121] (by decide) (List.forall_mem_cons.mpr ⟨c1, List.forall_mem_cons.mpr ⟨c2, List.forall_mem_cons.mpr ⟨c3, List.forall_mem_cons.mpr ⟨c4, List.forall_mem_cons.mpr ⟨c5, List.forall_mem_cons.mpr ⟨c6, fun _ h => absurd h List.not_mem_nil⟩⟩⟩⟩⟩⟩) (t := 78) rfl ?_
              refine ev_ldcS dX1_shapeOf_78 (pc' := 80) rfl (by decide +kernel) xq_1_30 ?_
              cases h
              exact ev_areturn dX1_shapeOf_80 rfl (by decide) q
theorem X1_shapeOf_kd (a1 : Int32) : kd (X1_shapeOf a1) = 7 := by
  unfold X1_shapeOf
  (repeat' split) <;> rfl
end
