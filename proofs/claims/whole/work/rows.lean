section
-- ===== PART A: goes FIRST, ahead of the names: the tables' words, and 'selects' of the private methods out of them =====
/-- a private method of a class that the tables say can be made, by its rows of tables_1 -/
def lw_okq (q : MethodName × Nat) : Prop := (q.1.cls ≠ "java/lang/invoke/MethodHandle" ∧ q.1.cls ≠ "java/lang/invoke/VarHandle") ∧ Cond.instantiable q.1.cls q.2 ∈ tables_1 ∧ Cond.privateMethod q.1 ∈ tables_1 ∧ Cond.instanceMethod q.1 ∈ tables_1
theorem lw_p0 : lw_okq (⟨"TheAngelsWantMore", "refuse", "(I)I"⟩, 8) := ⟨⟨by decide +kernel, by decide +kernel⟩, List.mem_of_getElem? (i := 14) (by decide +kernel), List.mem_of_getElem? (i := 148) (by decide +kernel), List.mem_of_getElem? (i := 149) (by decide +kernel)⟩
theorem lw_p1 : lw_okq (⟨"TheAngelsWantMore", "readLetters", "()I"⟩, 8) := ⟨⟨by decide +kernel, by decide +kernel⟩, List.mem_of_getElem? (i := 14) (by decide +kernel), List.mem_of_getElem? (i := 156) (by decide +kernel), List.mem_of_getElem? (i := 157) (by decide +kernel)⟩
theorem lw_p2 : lw_okq (⟨"TheAngelsWantMore$Letters", "fits", "(IC)Z"⟩, 2) := ⟨⟨by decide +kernel, by decide +kernel⟩, List.mem_of_getElem? (i := 93) (by decide +kernel), List.mem_of_getElem? (i := 226) (by decide +kernel), List.mem_of_getElem? (i := 227) (by decide +kernel)⟩
theorem lw_p3 : lw_okq (⟨"TheAngelsWantMore", "statementFault", "(I)I"⟩, 8) := ⟨⟨by decide +kernel, by decide +kernel⟩, List.mem_of_getElem? (i := 14) (by decide +kernel), List.mem_of_getElem? (i := 307) (by decide +kernel), List.mem_of_getElem? (i := 308) (by decide +kernel)⟩
theorem lw_p4 : lw_okq (⟨"TheAngelsWantMore", "caskComes", "(I)I"⟩, 8) := ⟨⟨by decide +kernel, by decide +kernel⟩, List.mem_of_getElem? (i := 14) (by decide +kernel), List.mem_of_getElem? (i := 311) (by decide +kernel), List.mem_of_getElem? (i := 312) (by decide +kernel)⟩
theorem lw_p5 : lw_okq (⟨"TheAngelsWantMore", "pourComes", "(I)I"⟩, 8) := ⟨⟨by decide +kernel, by decide +kernel⟩, List.mem_of_getElem? (i := 14) (by decide +kernel), List.mem_of_getElem? (i := 341) (by decide +kernel), List.mem_of_getElem? (i := 342) (by decide +kernel)⟩
theorem lw_p6 : lw_okq (⟨"TheAngelsWantMore", "thinkOn", "(I)V"⟩, 8) := ⟨⟨by decide +kernel, by decide +kernel⟩, List.mem_of_getElem? (i := 14) (by decide +kernel), List.mem_of_getElem? (i := 437) (by decide +kernel), List.mem_of_getElem? (i := 438) (by decide +kernel)⟩
theorem lw_p7 : lw_okq (⟨"TheAngelsWantMore", "caskOrAllFault", "(I)I"⟩, 8) := ⟨⟨by decide +kernel, by decide +kernel⟩, List.mem_of_getElem? (i := 14) (by decide +kernel), List.mem_of_getElem? (i := 462) (by decide +kernel), List.mem_of_getElem? (i := 463) (by decide +kernel)⟩
theorem lw_p8 : lw_okq (⟨"TheAngelsWantMore", "refuseLong", "(I)J"⟩, 8) := ⟨⟨by decide +kernel, by decide +kernel⟩, List.mem_of_getElem? (i := 14) (by decide +kernel), List.mem_of_getElem? (i := 466) (by decide +kernel), List.mem_of_getElem? (i := 467) (by decide +kernel)⟩
theorem lw_p9 : lw_okq (⟨"TheAngelsWantMore", "keepsLess", "(II)Z"⟩, 8) := ⟨⟨by decide +kernel, by decide +kernel⟩, List.mem_of_getElem? (i := 14) (by decide +kernel), List.mem_of_getElem? (i := 546) (by decide +kernel), List.mem_of_getElem? (i := 547) (by decide +kernel)⟩
theorem lw_p10 : lw_okq (⟨"TheAngelsWantMore", "bothKeep", "(III)Z"⟩, 8) := ⟨⟨by decide +kernel, by decide +kernel⟩, List.mem_of_getElem? (i := 14) (by decide +kernel), List.mem_of_getElem? (i := 554) (by decide +kernel), List.mem_of_getElem? (i := 555) (by decide +kernel)⟩
theorem lw_p11 : lw_okq (⟨"TheAngelsWantMore", "thinkTreaty", "(III)V"⟩, 8) := ⟨⟨by decide +kernel, by decide +kernel⟩, List.mem_of_getElem? (i := 14) (by decide +kernel), List.mem_of_getElem? (i := 558) (by decide +kernel), List.mem_of_getElem? (i := 559) (by decide +kernel)⟩
theorem lw_p12 : lw_okq (⟨"TheAngelsWantMore", "kindsByRow", "(I)I"⟩, 8) := ⟨⟨by decide +kernel, by decide +kernel⟩, List.mem_of_getElem? (i := 14) (by decide +kernel), List.mem_of_getElem? (i := 580) (by decide +kernel), List.mem_of_getElem? (i := 581) (by decide +kernel)⟩
theorem lw_p13 : lw_okq (⟨"TheAngelsWantMore", "firstNotSo", "(I)I"⟩, 8) := ⟨⟨by decide +kernel, by decide +kernel⟩, List.mem_of_getElem? (i := 14) (by decide +kernel), List.mem_of_getElem? (i := 584) (by decide +kernel), List.mem_of_getElem? (i := 585) (by decide +kernel)⟩
theorem lw_p14 : lw_okq (⟨"TheAngelsWantMore", "ratesByRow", "(I)I"⟩, 8) := ⟨⟨by decide +kernel, by decide +kernel⟩, List.mem_of_getElem? (i := 14) (by decide +kernel), List.mem_of_getElem? (i := 588) (by decide +kernel), List.mem_of_getElem? (i := 589) (by decide +kernel)⟩
theorem lw_p15 : lw_okq (⟨"TheAngelsWantMore", "amountByLents", "(III)I"⟩, 8) := ⟨⟨by decide +kernel, by decide +kernel⟩, List.mem_of_getElem? (i := 14) (by decide +kernel), List.mem_of_getElem? (i := 603) (by decide +kernel), List.mem_of_getElem? (i := 604) (by decide +kernel)⟩
def lw_privs_1 : List (MethodName × Nat) := [(⟨"TheAngelsWantMore", "refuse", "(I)I"⟩, 8), (⟨"TheAngelsWantMore", "readLetters", "()I"⟩, 8), (⟨"TheAngelsWantMore$Letters", "fits", "(IC)Z"⟩, 2), (⟨"TheAngelsWantMore", "statementFault", "(I)I"⟩, 8), (⟨"TheAngelsWantMore", "caskComes", "(I)I"⟩, 8), (⟨"TheAngelsWantMore", "pourComes", "(I)I"⟩, 8), (⟨"TheAngelsWantMore", "thinkOn", "(I)V"⟩, 8), (⟨"TheAngelsWantMore", "caskOrAllFault", "(I)I"⟩, 8), (⟨"TheAngelsWantMore", "refuseLong", "(I)J"⟩, 8), (⟨"TheAngelsWantMore", "keepsLess", "(II)Z"⟩, 8), (⟨"TheAngelsWantMore", "bothKeep", "(III)Z"⟩, 8), (⟨"TheAngelsWantMore", "thinkTreaty", "(III)V"⟩, 8), (⟨"TheAngelsWantMore", "kindsByRow", "(I)I"⟩, 8), (⟨"TheAngelsWantMore", "firstNotSo", "(I)I"⟩, 8), (⟨"TheAngelsWantMore", "ratesByRow", "(I)I"⟩, 8), (⟨"TheAngelsWantMore", "amountByLents", "(III)I"⟩, 8)]
theorem lw_r1 : ∀ q ∈ lw_privs_1, lw_okq q := List.forall_mem_cons.mpr ⟨lw_p0, List.forall_mem_cons.mpr ⟨lw_p1, List.forall_mem_cons.mpr ⟨lw_p2, List.forall_mem_cons.mpr ⟨lw_p3, List.forall_mem_cons.mpr ⟨lw_p4, List.forall_mem_cons.mpr ⟨lw_p5, List.forall_mem_cons.mpr ⟨lw_p6, List.forall_mem_cons.mpr ⟨lw_p7, List.forall_mem_cons.mpr ⟨lw_p8, List.forall_mem_cons.mpr ⟨lw_p9, List.forall_mem_cons.mpr ⟨lw_p10, List.forall_mem_cons.mpr ⟨lw_p11, List.forall_mem_cons.mpr ⟨lw_p12, List.forall_mem_cons.mpr ⟨lw_p13, List.forall_mem_cons.mpr ⟨lw_p14, List.forall_mem_cons.mpr ⟨lw_p15, fun _ h => absurd h List.not_mem_nil⟩⟩⟩⟩⟩⟩⟩⟩⟩⟩⟩⟩⟩⟩⟩⟩
theorem lw_p16 : lw_okq (⟨"TheAngelsWantMore", "refused", "(I)I"⟩, 8) := ⟨⟨by decide +kernel, by decide +kernel⟩, List.mem_of_getElem? (i := 14) (by decide +kernel), List.mem_of_getElem? (i := 644) (by decide +kernel), List.mem_of_getElem? (i := 645) (by decide +kernel)⟩
theorem lw_p17 : lw_okq (⟨"TheAngelsWantMoreModel", "no", "(I)I"⟩, 15) := ⟨⟨by decide +kernel, by decide +kernel⟩, List.mem_of_getElem? (i := 648) (by decide +kernel), List.mem_of_getElem? (i := 704) (by decide +kernel), List.mem_of_getElem? (i := 705) (by decide +kernel)⟩
theorem lw_p18 : lw_okq (⟨"TheAngelsWantMoreModel", "readsStatement", "()Z"⟩, 15) := ⟨⟨by decide +kernel, by decide +kernel⟩, List.mem_of_getElem? (i := 648) (by decide +kernel), List.mem_of_getElem? (i := 712) (by decide +kernel), List.mem_of_getElem? (i := 713) (by decide +kernel)⟩
theorem lw_p19 : lw_okq (⟨"TheAngelsWantMoreModel", "here", "()I"⟩, 15) := ⟨⟨by decide +kernel, by decide +kernel⟩, List.mem_of_getElem? (i := 648) (by decide +kernel), List.mem_of_getElem? (i := 716) (by decide +kernel), List.mem_of_getElem? (i := 717) (by decide +kernel)⟩
theorem lw_p20 : lw_okq (⟨"TheAngelsWantMoreModel", "readsKind", "()Z"⟩, 15) := ⟨⟨by decide +kernel, by decide +kernel⟩, List.mem_of_getElem? (i := 648) (by decide +kernel), List.mem_of_getElem? (i := 720) (by decide +kernel), List.mem_of_getElem? (i := 721) (by decide +kernel)⟩
theorem lw_p21 : lw_okq (⟨"TheAngelsWantMoreModel", "readsNumber", "(II)Z"⟩, 15) := ⟨⟨by decide +kernel, by decide +kernel⟩, List.mem_of_getElem? (i := 648) (by decide +kernel), List.mem_of_getElem? (i := 727) (by decide +kernel), List.mem_of_getElem? (i := 728) (by decide +kernel)⟩
theorem lw_p22 : lw_okq (⟨"TheAngelsWantMoreModel", "isDone", "(I)Z"⟩, 15) := ⟨⟨by decide +kernel, by decide +kernel⟩, List.mem_of_getElem? (i := 648) (by decide +kernel), List.mem_of_getElem? (i := 737) (by decide +kernel), List.mem_of_getElem? (i := 738) (by decide +kernel)⟩
theorem lw_p23 : lw_okq (⟨"TheAngelsWantMoreModel", "isCask", "(I)Z"⟩, 15) := ⟨⟨by decide +kernel, by decide +kernel⟩, List.mem_of_getElem? (i := 648) (by decide +kernel), List.mem_of_getElem? (i := 744) (by decide +kernel), List.mem_of_getElem? (i := 745) (by decide +kernel)⟩
theorem lw_p24 : lw_okq (⟨"TheAngelsWantMoreModel", "canPour", "(III)Z"⟩, 15) := ⟨⟨by decide +kernel, by decide +kernel⟩, List.mem_of_getElem? (i := 648) (by decide +kernel), List.mem_of_getElem? (i := 748) (by decide +kernel), List.mem_of_getElem? (i := 749) (by decide +kernel)⟩
theorem lw_p25 : lw_okq (⟨"TheAngelsWantMoreModel", "pours", "(III)V"⟩, 15) := ⟨⟨by decide +kernel, by decide +kernel⟩, List.mem_of_getElem? (i := 648) (by decide +kernel), List.mem_of_getElem? (i := 752) (by decide +kernel), List.mem_of_getElem? (i := 753) (by decide +kernel)⟩
theorem lw_p26 : lw_okq (⟨"TheAngelsWantMoreModel", "mixed", "(III)I"⟩, 15) := ⟨⟨by decide +kernel, by decide +kernel⟩, List.mem_of_getElem? (i := 648) (by decide +kernel), List.mem_of_getElem? (i := 756) (by decide +kernel), List.mem_of_getElem? (i := 757) (by decide +kernel)⟩
theorem lw_p27 : lw_okq (⟨"TheAngelsWantMoreModel", "yearsOn", "([II)V"⟩, 15) := ⟨⟨by decide +kernel, by decide +kernel⟩, List.mem_of_getElem? (i := 648) (by decide +kernel), List.mem_of_getElem? (i := 760) (by decide +kernel), List.mem_of_getElem? (i := 761) (by decide +kernel)⟩
theorem lw_p28 : lw_okq (⟨"TheAngelsWantMoreModel", "year", "([I)V"⟩, 15) := ⟨⟨by decide +kernel, by decide +kernel⟩, List.mem_of_getElem? (i := 648) (by decide +kernel), List.mem_of_getElem? (i := 764) (by decide +kernel), List.mem_of_getElem? (i := 765) (by decide +kernel)⟩
theorem lw_p29 : lw_okq (⟨"TheAngelsWantMoreModel", "yearBy", "([IZ)V"⟩, 15) := ⟨⟨by decide +kernel, by decide +kernel⟩, List.mem_of_getElem? (i := 648) (by decide +kernel), List.mem_of_getElem? (i := 768) (by decide +kernel), List.mem_of_getElem? (i := 769) (by decide +kernel)⟩
theorem lw_p30 : lw_okq (⟨"TheAngelsWantMoreModel", "inMind", "(I)V"⟩, 15) := ⟨⟨by decide +kernel, by decide +kernel⟩, List.mem_of_getElem? (i := 648) (by decide +kernel), List.mem_of_getElem? (i := 815) (by decide +kernel), List.mem_of_getElem? (i := 816) (by decide +kernel)⟩
theorem lw_p31 : lw_okq (⟨"TheAngelsWantMoreModel", "noWide", "(I)J"⟩, 15) := ⟨⟨by decide +kernel, by decide +kernel⟩, List.mem_of_getElem? (i := 648) (by decide +kernel), List.mem_of_getElem? (i := 830) (by decide +kernel), List.mem_of_getElem? (i := 831) (by decide +kernel)⟩
def lw_privs_2 : List (MethodName × Nat) := [(⟨"TheAngelsWantMore", "refused", "(I)I"⟩, 8), (⟨"TheAngelsWantMoreModel", "no", "(I)I"⟩, 15), (⟨"TheAngelsWantMoreModel", "readsStatement", "()Z"⟩, 15), (⟨"TheAngelsWantMoreModel", "here", "()I"⟩, 15), (⟨"TheAngelsWantMoreModel", "readsKind", "()Z"⟩, 15), (⟨"TheAngelsWantMoreModel", "readsNumber", "(II)Z"⟩, 15), (⟨"TheAngelsWantMoreModel", "isDone", "(I)Z"⟩, 15), (⟨"TheAngelsWantMoreModel", "isCask", "(I)Z"⟩, 15), (⟨"TheAngelsWantMoreModel", "canPour", "(III)Z"⟩, 15), (⟨"TheAngelsWantMoreModel", "pours", "(III)V"⟩, 15), (⟨"TheAngelsWantMoreModel", "mixed", "(III)I"⟩, 15), (⟨"TheAngelsWantMoreModel", "yearsOn", "([II)V"⟩, 15), (⟨"TheAngelsWantMoreModel", "year", "([I)V"⟩, 15), (⟨"TheAngelsWantMoreModel", "yearBy", "([IZ)V"⟩, 15), (⟨"TheAngelsWantMoreModel", "inMind", "(I)V"⟩, 15), (⟨"TheAngelsWantMoreModel", "noWide", "(I)J"⟩, 15)]
theorem lw_r2 : ∀ q ∈ lw_privs_2, lw_okq q := List.forall_mem_cons.mpr ⟨lw_p16, List.forall_mem_cons.mpr ⟨lw_p17, List.forall_mem_cons.mpr ⟨lw_p18, List.forall_mem_cons.mpr ⟨lw_p19, List.forall_mem_cons.mpr ⟨lw_p20, List.forall_mem_cons.mpr ⟨lw_p21, List.forall_mem_cons.mpr ⟨lw_p22, List.forall_mem_cons.mpr ⟨lw_p23, List.forall_mem_cons.mpr ⟨lw_p24, List.forall_mem_cons.mpr ⟨lw_p25, List.forall_mem_cons.mpr ⟨lw_p26, List.forall_mem_cons.mpr ⟨lw_p27, List.forall_mem_cons.mpr ⟨lw_p28, List.forall_mem_cons.mpr ⟨lw_p29, List.forall_mem_cons.mpr ⟨lw_p30, List.forall_mem_cons.mpr ⟨lw_p31, fun _ h => absurd h List.not_mem_nil⟩⟩⟩⟩⟩⟩⟩⟩⟩⟩⟩⟩⟩⟩⟩⟩
theorem lw_p32 : lw_okq (⟨"TheAngelsWantMoreModel", "byTreaty", "(IIII)I"⟩, 15) := ⟨⟨by decide +kernel, by decide +kernel⟩, List.mem_of_getElem? (i := 648) (by decide +kernel), List.mem_of_getElem? (i := 898) (by decide +kernel), List.mem_of_getElem? (i := 899) (by decide +kernel)⟩
theorem lw_p33 : lw_okq (⟨"TheAngelsWantMoreModel", "firstWrong", "(II)I"⟩, 15) := ⟨⟨by decide +kernel, by decide +kernel⟩, List.mem_of_getElem? (i := 648) (by decide +kernel), List.mem_of_getElem? (i := 919) (by decide +kernel), List.mem_of_getElem? (i := 920) (by decide +kernel)⟩
theorem lw_p34 : lw_okq (⟨"TheAngelsWantMoreModel", "drawn", "(I)I"⟩, 15) := ⟨⟨by decide +kernel, by decide +kernel⟩, List.mem_of_getElem? (i := 648) (by decide +kernel), List.mem_of_getElem? (i := 935) (by decide +kernel), List.mem_of_getElem? (i := 936) (by decide +kernel)⟩
def lw_privs_3 : List (MethodName × Nat) := [(⟨"TheAngelsWantMoreModel", "byTreaty", "(IIII)I"⟩, 15), (⟨"TheAngelsWantMoreModel", "firstWrong", "(II)I"⟩, 15), (⟨"TheAngelsWantMoreModel", "drawn", "(I)I"⟩, 15)]
theorem lw_r3 : ∀ q ∈ lw_privs_3, lw_okq q := List.forall_mem_cons.mpr ⟨lw_p32, List.forall_mem_cons.mpr ⟨lw_p33, List.forall_mem_cons.mpr ⟨lw_p34, fun _ h => absurd h List.not_mem_nil⟩⟩⟩
def lw_privs : List (MethodName × Nat) := lw_privs_1 ++ (lw_privs_2 ++ (lw_privs_3))
def lw_tbl : List Cond := k2_sels lw_privs ++ tables_1
theorem lw_privs_ok : ∀ q ∈ lw_privs, lw_okq q := by
  show ∀ q ∈ lw_privs_1 ++ (lw_privs_2 ++ (lw_privs_3)), lw_okq q
  exact List.forall_mem_append.mpr ⟨lw_r1, List.forall_mem_append.mpr ⟨lw_r2, lw_r3⟩⟩

def RX0 : String := "TheAngelsWantMore$Cask"
def TX0 : u_T := fun k => match k with
  | 0 => ("TheAngelsWantMore$Cask", "kind", "I", false)
  | 1 => ("TheAngelsWantMore$Cask", "size", "I", false)
  | 2 => ("TheAngelsWantMore$Cask", "amount", "I", false)
  | 3 => ("TheAngelsWantMore$Cask", "strength", "I", false)
  | 4 => ("TheAngelsWantMore$Cask", "figure", "I", false)
  | _ => ("TheAngelsWantMore$Cask", "taken", "I", false)
def tyX0 : Nat → FieldType := fun k => match k with
  | 0 => .int
  | 1 => .int
  | 2 => .int
  | 3 => .int
  | 4 => .int
  | _ => .int
theorem nmX0 : ∀ a, a < 6 → ∀ b, b < 6 → a ≠ b → (TX0 a).2.1 ≠ (TX0 b).2.1 := by decide +kernel
theorem tyX0_ok : ∀ k, k < 6 → parseFieldDescriptor (TX0 k).2.2.1 = some (tyX0 k) := by decide +kernel
abbrev cX0_init : ByteArray := prog_2_method_1_code
def yX0_init : MethodName := ⟨RX0, "<init>", "()V"⟩
abbrev cX0_become : ByteArray := prog_2_method_2_code
def yX0_become : MethodName := ⟨RX0, "become", "(LTheAngelsWantMore$Cask;)V"⟩
abbrev cX0_angelsPart : ByteArray := prog_2_method_3_code
def yX0_angelsPart : MethodName := ⟨RX0, "angelsPart", "(II)I"⟩
abbrev cX0_strengthIn : ByteArray := prog_2_method_4_code
def yX0_strengthIn : MethodName := ⟨RX0, "strengthIn", "(I)I"⟩
abbrev cX0_sentBackIn : ByteArray := prog_2_method_5_code
def yX0_sentBackIn : MethodName := ⟨RX0, "sentBackIn", "(I)I"⟩
abbrev cX0_goOn : ByteArray := prog_2_method_6_code
def yX0_goOn : MethodName := ⟨RX0, "goOn", "(II)V"⟩
abbrev cX0_isHalfTheirs : ByteArray := prog_2_method_7_code
def yX0_isHalfTheirs : MethodName := ⟨RX0, "isHalfTheirs", "()Z"⟩
abbrev cX0_worth : ByteArray := prog_2_method_8_code
def yX0_worth : MethodName := ⟨RX0, "worth", "()I"⟩
def RX1 : String := "TheAngelsWantMore$Letters"
def TX1 : u_T := fun k => match k with
  | 0 => ("TheAngelsWantMore$Letters", "signs", "[I", true)
  | _ => ("TheAngelsWantMore$Letters", "length", "I", false)
def tyX1 : Nat → FieldType := fun k => match k with
  | 0 => .array .int
  | _ => .int
theorem nmX1 : ∀ a, a < 2 → ∀ b, b < 2 → a ≠ b → (TX1 a).2.1 ≠ (TX1 b).2.1 := by decide +kernel
theorem tyX1_ok : ∀ k, k < 2 → parseFieldDescriptor (TX1 k).2.2.1 = some (tyX1 k) := by decide +kernel
abbrev cX1_init : ByteArray := prog_3_method_1_code
def yX1_init : MethodName := ⟨RX1, "<init>", "()V"⟩
abbrev cX1_isFull : ByteArray := prog_3_method_2_code
def yX1_isFull : MethodName := ⟨RX1, "isFull", "()Z"⟩
abbrev cX1_add : ByteArray := prog_3_method_3_code
def yX1_add : MethodName := ⟨RX1, "add", "(I)I"⟩
abbrev cX1_forget : ByteArray := prog_3_method_4_code
def yX1_forget : MethodName := ⟨RX1, "forget", "()V"⟩
abbrev cX1_at : ByteArray := prog_3_method_5_code
def yX1_at : MethodName := ⟨RX1, "at", "(I)I"⟩
abbrev cX1_kind : ByteArray := prog_3_method_6_code
def yX1_kind : MethodName := ⟨RX1, "kind", "(I)I"⟩
abbrev cX1_number : ByteArray := prog_3_method_7_code
def yX1_number : MethodName := ⟨RX1, "number", "(II)I"⟩
abbrev cX1_firstWrong : ByteArray := prog_3_method_8_code
def yX1_firstWrong : MethodName := ⟨RX1, "firstWrong", "()I"⟩
abbrev cX1_fits : ByteArray := prog_3_method_9_code
def yX1_fits : MethodName := ⟨RX1, "fits", "(IC)Z"⟩
abbrev cX1_shapeOf : ByteArray := prog_3_method_10_code
def yX1_shapeOf : MethodName := ⟨RX1, "shapeOf", "(I)Ljava/lang/String;"⟩
def RX2 : String := "TheAngelsWantMore$Town"
def TX2 : u_T := fun k => match k with
  | 0 => ("TheAngelsWantMore$Town", "casks", "[LTheAngelsWantMore$Cask;", true)
  | 1 => ("TheAngelsWantMore$Town", "nobody", "LTheAngelsWantMore$Cask;", true)
  | 2 => ("TheAngelsWantMore$Town", "count", "I", false)
  | 3 => ("TheAngelsWantMore$Town", "rate", "I", false)
  | 4 => ("TheAngelsWantMore$Town", "lent", "I", false)
  | 5 => ("TheAngelsWantMore$Town", "excise", "I", false)
  | _ => ("TheAngelsWantMore$Town", "year", "I", false)
def tyX2 : Nat → FieldType := fun k => match k with
  | 0 => .array (.object "TheAngelsWantMore$Cask")
  | 1 => .object "TheAngelsWantMore$Cask"
  | 2 => .int
  | 3 => .int
  | 4 => .int
  | 5 => .int
  | _ => .int
theorem nmX2 : ∀ a, a < 7 → ∀ b, b < 7 → a ≠ b → (TX2 a).2.1 ≠ (TX2 b).2.1 := by decide +kernel
theorem tyX2_ok : ∀ k, k < 7 → parseFieldDescriptor (TX2 k).2.2.1 = some (tyX2 k) := by decide +kernel
abbrev cX2_init : ByteArray := prog_4_method_1_code
def yX2_init : MethodName := ⟨RX2, "<init>", "()V"⟩
abbrev cX2_at : ByteArray := prog_4_method_2_code
def yX2_at : MethodName := ⟨RX2, "at", "(I)LTheAngelsWantMore$Cask;"⟩
abbrev cX2_become : ByteArray := prog_4_method_3_code
def yX2_become : MethodName := ⟨RX2, "become", "(LTheAngelsWantMore$Town;)V"⟩
abbrev cX2_caskFault : ByteArray := prog_4_method_4_code
def yX2_caskFault : MethodName := ⟨RX2, "caskFault", "(I)I"⟩
abbrev cX2_addCask : ByteArray := prog_4_method_5_code
def yX2_addCask : MethodName := ⟨RX2, "addCask", "(IIIII)I"⟩
abbrev cX2_chosen : ByteArray := prog_4_method_6_code
def yX2_chosen : MethodName := ⟨RX2, "chosen", "(I)I"⟩
abbrev cX2_choose : ByteArray := prog_4_method_7_code
def yX2_choose : MethodName := ⟨RX2, "choose", "(II)I"⟩
abbrev cX2_pourFault : ByteArray := prog_4_method_8_code
def yX2_pourFault : MethodName := ⟨RX2, "pourFault", "(III)I"⟩
abbrev cX2_pouredStrength : ByteArray := prog_4_method_9_code
def yX2_pouredStrength : MethodName := ⟨RX2, "pouredStrength", "(III)I"⟩
abbrev cX2_pourOver : ByteArray := prog_4_method_10_code
def yX2_pourOver : MethodName := ⟨RX2, "pourOver", "(III)I"⟩
abbrev cX2_blended : ByteArray := prog_4_method_11_code
def yX2_blended : MethodName := ⟨RX2, "blended", "(II)I"⟩
abbrev cX2_rateBy : ByteArray := prog_4_method_12_code
def yX2_rateBy : MethodName := ⟨RX2, "rateBy", "(Z)I"⟩
abbrev cX2_goOn : ByteArray := prog_4_method_13_code
def yX2_goOn : MethodName := ⟨RX2, "goOn", "(I)V"⟩
abbrev cX2_liveOn : ByteArray := prog_4_method_14_code
def yX2_liveOn : MethodName := ⟨RX2, "liveOn", "(I)I"⟩
abbrev cX2_allAmounts : ByteArray := prog_4_method_15_code
def yX2_allAmounts : MethodName := ⟨RX2, "allAmounts", "()I"⟩
abbrev cX2_allTaken : ByteArray := prog_4_method_16_code
def yX2_allTaken : MethodName := ⟨RX2, "allTaken", "()I"⟩
abbrev cX2_fullest : ByteArray := prog_4_method_17_code
def yX2_fullest : MethodName := ⟨RX2, "fullest", "()I"⟩
abbrev cX2_dutyOf : ByteArray := prog_4_method_18_code
def yX2_dutyOf : MethodName := ⟨RX2, "dutyOf", "(I)I"⟩
abbrev cX2_dutyOfAll : ByteArray := prog_4_method_19_code
def yX2_dutyOfAll : MethodName := ⟨RX2, "dutyOfAll", "()I"⟩
def RX3 : String := "TheAngelsWantMore"
def TX3 : u_T := fun k => match k with
  | 0 => ("TheAngelsWantMore", "now", "LTheAngelsWantMore$Town;", true)
  | 1 => ("TheAngelsWantMore", "mind", "LTheAngelsWantMore$Town;", true)
  | 2 => ("TheAngelsWantMore", "kept", "LTheAngelsWantMore$Town;", true)
  | 3 => ("TheAngelsWantMore", "imaged", "Z", false)
  | 4 => ("TheAngelsWantMore", "letters", "LTheAngelsWantMore$Letters;", true)
  | 5 => ("TheAngelsWantMore", "told", "[I", true)
  | 6 => ("TheAngelsWantMore", "toldCount", "I", false)
  | _ => ("TheAngelsWantMore", "refusals", "[I", true)
def tyX3 : Nat → FieldType := fun k => match k with
  | 0 => .object "TheAngelsWantMore$Town"
  | 1 => .object "TheAngelsWantMore$Town"
  | 2 => .object "TheAngelsWantMore$Town"
  | 3 => .boolean
  | 4 => .object "TheAngelsWantMore$Letters"
  | 5 => .array .int
  | 6 => .int
  | _ => .array .int
theorem nmX3 : ∀ a, a < 8 → ∀ b, b < 8 → a ≠ b → (TX3 a).2.1 ≠ (TX3 b).2.1 := by decide +kernel
theorem tyX3_ok : ∀ k, k < 8 → parseFieldDescriptor (TX3 k).2.2.1 = some (tyX3 k) := by decide +kernel
abbrev cX3_init : ByteArray := prog_1_method_1_code
def yX3_init : MethodName := ⟨RX3, "<init>", "()V"⟩
abbrev cX3_letter : ByteArray := prog_1_method_2_code
def yX3_letter : MethodName := ⟨RX3, "letter", "(I)I"⟩
abbrev cX3_town : ByteArray := prog_1_method_3_code
def yX3_town : MethodName := ⟨RX3, "town", "()I"⟩
abbrev cX3_cask : ByteArray := prog_1_method_4_code
def yX3_cask : MethodName := ⟨RX3, "cask", "(II)I"⟩
abbrev cX3_set : ByteArray := prog_1_method_5_code
def yX3_set : MethodName := ⟨RX3, "set", "(II)I"⟩
abbrev cX3_fill : ByteArray := prog_1_method_6_code
def yX3_fill : MethodName := ⟨RX3, "fill", "(II)I"⟩
abbrev cX3_takes : ByteArray := prog_1_method_7_code
def yX3_takes : MethodName := ⟨RX3, "takes", "(III)I"⟩
abbrev cX3_pour : ByteArray := prog_1_method_8_code
def yX3_pour : MethodName := ⟨RX3, "pour", "(III)I"⟩
abbrev cX3_years : ByteArray := prog_1_method_9_code
def yX3_years : MethodName := ⟨RX3, "years", "(I)I"⟩
abbrev cX3_behind : ByteArray := prog_1_method_10_code
def yX3_behind : MethodName := ⟨RX3, "behind", "(III)I"⟩
abbrev cX3_allBehind : ByteArray := prog_1_method_11_code
def yX3_allBehind : MethodName := ⟨RX3, "allBehind", "(II)I"⟩
abbrev cX3_theirs : ByteArray := prog_1_method_12_code
def yX3_theirs : MethodName := ⟨RX3, "theirs", "(III)J"⟩
abbrev cX3_excise : ByteArray := prog_1_method_13_code
def yX3_excise : MethodName := ⟨RX3, "excise", "(I)I"⟩
abbrev cX3_exciseIn : ByteArray := prog_1_method_14_code
def yX3_exciseIn : MethodName := ⟨RX3, "exciseIn", "(I)I"⟩
abbrev cX3_low : ByteArray := prog_1_method_15_code
def yX3_low : MethodName := ⟨RX3, "low", "(II)I"⟩
abbrev cX3_turns : ByteArray := prog_1_method_16_code
def yX3_turns : MethodName := ⟨RX3, "turns", "()I"⟩
abbrev cX3_hum : ByteArray := prog_1_method_17_code
def yX3_hum : MethodName := ⟨RX3, "hum", "(I)I"⟩
abbrev cX3_pourFor : ByteArray := prog_1_method_18_code
def yX3_pourFor : MethodName := ⟨RX3, "pourFor", "(II)I"⟩
abbrev cX3_blend : ByteArray := prog_1_method_19_code
def yX3_blend : MethodName := ⟨RX3, "blend", "(I)I"⟩
abbrev cX3_spread : ByteArray := prog_1_method_20_code
def yX3_spread : MethodName := ⟨RX3, "spread", "()I"⟩
abbrev cX3_layDown : ByteArray := prog_1_method_21_code
def yX3_layDown : MethodName := ⟨RX3, "layDown", "(I)I"⟩
abbrev cX3_sell : ByteArray := prog_1_method_22_code
def yX3_sell : MethodName := ⟨RX3, "sell", "(I)I"⟩
abbrev cX3_treaty : ByteArray := prog_1_method_23_code
def yX3_treaty : MethodName := ⟨RX3, "treaty", "(I)I"⟩
abbrev cX3_bestSet : ByteArray := prog_1_method_24_code
def yX3_bestSet : MethodName := ⟨RX3, "bestSet", "(II)I"⟩
abbrev cX3_iron : ByteArray := prog_1_method_25_code
def yX3_iron : MethodName := ⟨RX3, "iron", "(I)I"⟩
abbrev cX3_row : ByteArray := prog_1_method_26_code
def yX3_row : MethodName := ⟨RX3, "row", "(I)I"⟩
abbrev cX3_which : ByteArray := prog_1_method_27_code
def yX3_which : MethodName := ⟨RX3, "which", "(II)I"⟩
abbrev cX3_judge : ByteArray := prog_1_method_28_code
def yX3_judge : MethodName := ⟨RX3, "judge", "(I)I"⟩
abbrev cX3_chance : ByteArray := prog_1_method_29_code
def yX3_chance : MethodName := ⟨RX3, "chance", "(IIIII)J"⟩
abbrev cX3_lots : ByteArray := prog_1_method_30_code
def yX3_lots : MethodName := ⟨RX3, "lots", "(III)I"⟩
abbrev cX3_image : ByteArray := prog_1_method_31_code
def yX3_image : MethodName := ⟨RX3, "image", "()I"⟩
abbrev cX3_on : ByteArray := prog_1_method_32_code
def yX3_on : MethodName := ⟨RX3, "on", "()I"⟩
abbrev cX3_count : ByteArray := prog_1_method_33_code
def yX3_count : MethodName := ⟨RX3, "count", "(I)I"⟩
abbrev cX3_refuse : ByteArray := prog_1_method_34_code
def yX3_refuse : MethodName := ⟨RX3, "refuse", "(I)I"⟩
abbrev cX3_refuseLong : ByteArray := prog_1_method_35_code
def yX3_refuseLong : MethodName := ⟨RX3, "refuseLong", "(I)J"⟩
abbrev cX3_refused : ByteArray := prog_1_method_36_code
def yX3_refused : MethodName := ⟨RX3, "refused", "(I)I"⟩
abbrev cX3_firstOf : ByteArray := prog_1_method_37_code
def yX3_firstOf : MethodName := ⟨RX3, "firstOf", "(III)I"⟩
abbrev cX3_rangeFault : ByteArray := prog_1_method_38_code
def yX3_rangeFault : MethodName := ⟨RX3, "rangeFault", "(III)I"⟩
abbrev cX3_whatFault : ByteArray := prog_1_method_39_code
def yX3_whatFault : MethodName := ⟨RX3, "whatFault", "(II)I"⟩
abbrev cX3_yearsFault : ByteArray := prog_1_method_40_code
def yX3_yearsFault : MethodName := ⟨RX3, "yearsFault", "(I)I"⟩
abbrev cX3_caskOrAllFault : ByteArray := prog_1_method_41_code
def yX3_caskOrAllFault : MethodName := ⟨RX3, "caskOrAllFault", "(I)I"⟩
abbrev cX3_chanceFault : ByteArray := prog_1_method_42_code
def yX3_chanceFault : MethodName := ⟨RX3, "chanceFault", "(III)I"⟩
abbrev cX3_leastChoice : ByteArray := prog_1_method_43_code
def yX3_leastChoice : MethodName := ⟨RX3, "leastChoice", "(I)I"⟩
abbrev cX3_mostChoice : ByteArray := prog_1_method_44_code
def yX3_mostChoice : MethodName := ⟨RX3, "mostChoice", "(I)I"⟩
abbrev cX3_readLetters : ByteArray := prog_1_method_45_code
def yX3_readLetters : MethodName := ⟨RX3, "readLetters", "()I"⟩
abbrev cX3_statementFault : ByteArray := prog_1_method_46_code
def yX3_statementFault : MethodName := ⟨RX3, "statementFault", "(I)I"⟩
abbrev cX3_caskComes : ByteArray := prog_1_method_47_code
def yX3_caskComes : MethodName := ⟨RX3, "caskComes", "(I)I"⟩
abbrev cX3_pourComes : ByteArray := prog_1_method_48_code
def yX3_pourComes : MethodName := ⟨RX3, "pourComes", "(I)I"⟩
abbrev cX3_thinkOn : ByteArray := prog_1_method_49_code
def yX3_thinkOn : MethodName := ⟨RX3, "thinkOn", "(I)V"⟩
abbrev cX3_keepsLess : ByteArray := prog_1_method_50_code
def yX3_keepsLess : MethodName := ⟨RX3, "keepsLess", "(II)Z"⟩
abbrev cX3_thinkTreaty : ByteArray := prog_1_method_51_code
def yX3_thinkTreaty : MethodName := ⟨RX3, "thinkTreaty", "(III)V"⟩
abbrev cX3_bothKeep : ByteArray := prog_1_method_52_code
def yX3_bothKeep : MethodName := ⟨RX3, "bothKeep", "(III)Z"⟩
abbrev cX3_firstNotSo : ByteArray := prog_1_method_53_code
def yX3_firstNotSo : MethodName := ⟨RX3, "firstNotSo", "(I)I"⟩
abbrev cX3_kindsByRow : ByteArray := prog_1_method_54_code
def yX3_kindsByRow : MethodName := ⟨RX3, "kindsByRow", "(I)I"⟩
abbrev cX3_ratesByRow : ByteArray := prog_1_method_55_code
def yX3_ratesByRow : MethodName := ⟨RX3, "ratesByRow", "(I)I"⟩
abbrev cX3_amountByLents : ByteArray := prog_1_method_56_code
def yX3_amountByLents : MethodName := ⟨RX3, "amountByLents", "(III)I"⟩
abbrev cX3_nextSeed : ByteArray := prog_1_method_57_code
def yX3_nextSeed : MethodName := ⟨RX3, "nextSeed", "(I)I"⟩
abbrev cX3_drawn : ByteArray := prog_1_method_58_code
def yX3_drawn : MethodName := ⟨RX3, "drawn", "(II)I"⟩
abbrev cX3_power : ByteArray := prog_1_method_59_code
def yX3_power : MethodName := ⟨RX3, "power", "(JI)J"⟩
abbrev cX3_partOf : ByteArray := prog_1_method_60_code
def yX3_partOf : MethodName := ⟨RX3, "partOf", "(JJI)J"⟩
abbrev cX3_commonDivisor : ByteArray := prog_1_method_61_code
def yX3_commonDivisor : MethodName := ⟨RX3, "commonDivisor", "(JJ)J"⟩
def RX4 : String := "TheAngelsWantMoreModel"
def TX4 : u_T := fun k => match k with
  | 0 => ("TheAngelsWantMoreModel", "s", "[I", true)
  | 1 => ("TheAngelsWantMoreModel", "m", "[I", true)
  | 2 => ("TheAngelsWantMoreModel", "image", "[I", true)
  | 3 => ("TheAngelsWantMoreModel", "was", "[I", true)
  | 4 => ("TheAngelsWantMoreModel", "hasImage", "Z", false)
  | 5 => ("TheAngelsWantMoreModel", "letters", "[I", true)
  | 6 => ("TheAngelsWantMoreModel", "row", "[I", true)
  | 7 => ("TheAngelsWantMoreModel", "refused", "[I", true)
  | 8 => ("TheAngelsWantMoreModel", "letterMany", "I", false)
  | 9 => ("TheAngelsWantMoreModel", "rowMany", "I", false)
  | 10 => ("TheAngelsWantMoreModel", "takenThen", "I", false)
  | 11 => ("TheAngelsWantMoreModel", "backThen", "I", false)
  | 12 => ("TheAngelsWantMoreModel", "place", "I", false)
  | 13 => ("TheAngelsWantMoreModel", "numbers", "[I", true)
  | _ => ("TheAngelsWantMoreModel", "seed", "I", false)
def tyX4 : Nat → FieldType := fun k => match k with
  | 0 => .array .int
  | 1 => .array .int
  | 2 => .array .int
  | 3 => .array .int
  | 4 => .boolean
  | 5 => .array .int
  | 6 => .array .int
  | 7 => .array .int
  | 8 => .int
  | 9 => .int
  | 10 => .int
  | 11 => .int
  | 12 => .int
  | 13 => .array .int
  | _ => .int
theorem nmX4 : ∀ a, a < 15 → ∀ b, b < 15 → a ≠ b → (TX4 a).2.1 ≠ (TX4 b).2.1 := by decide +kernel
theorem tyX4_ok : ∀ k, k < 15 → parseFieldDescriptor (TX4 k).2.2.1 = some (tyX4 k) := by decide +kernel
abbrev cX4_init : ByteArray := prog_6_method_1_code
def yX4_init : MethodName := ⟨RX4, "<init>", "()V"⟩
abbrev cX4_isIn : ByteArray := prog_6_method_2_code
def yX4_isIn : MethodName := ⟨RX4, "isIn", "(III)Z"⟩
abbrev cX4_least : ByteArray := prog_6_method_3_code
def yX4_least : MethodName := ⟨RX4, "least", "(II)I"⟩
abbrev cX4_size : ByteArray := prog_6_method_4_code
def yX4_size : MethodName := ⟨RX4, "size", "(I)I"⟩
abbrev cX4_lays : ByteArray := prog_6_method_5_code
def yX4_lays : MethodName := ⟨RX4, "lays", "([I[I)V"⟩
abbrev cX4_no : ByteArray := prog_6_method_6_code
def yX4_no : MethodName := ⟨RX4, "no", "(I)I"⟩
abbrev cX4_noWide : ByteArray := prog_6_method_7_code
def yX4_noWide : MethodName := ⟨RX4, "noWide", "(I)J"⟩
abbrev cX4_isCask : ByteArray := prog_6_method_8_code
def yX4_isCask : MethodName := ⟨RX4, "isCask", "(I)Z"⟩
abbrev cX4_at : ByteArray := prog_6_method_9_code
def yX4_at : MethodName := ⟨RX4, "at", "(II)I"⟩
abbrev cX4_takesOf : ByteArray := prog_6_method_10_code
def yX4_takesOf : MethodName := ⟨RX4, "takesOf", "([IIII)I"⟩
abbrev cX4_strengthOf : ByteArray := prog_6_method_11_code
def yX4_strengthOf : MethodName := ⟨RX4, "strengthOf", "([III)I"⟩
abbrev cX4_backOf : ByteArray := prog_6_method_12_code
def yX4_backOf : MethodName := ⟨RX4, "backOf", "([II)I"⟩
abbrev cX4_yearBy : ByteArray := prog_6_method_13_code
def yX4_yearBy : MethodName := ⟨RX4, "yearBy", "([IZ)V"⟩
abbrev cX4_year : ByteArray := prog_6_method_14_code
def yX4_year : MethodName := ⟨RX4, "year", "([I)V"⟩
abbrev cX4_yearsOn : ByteArray := prog_6_method_15_code
def yX4_yearsOn : MethodName := ⟨RX4, "yearsOn", "([II)V"⟩
abbrev cX4_inMind : ByteArray := prog_6_method_16_code
def yX4_inMind : MethodName := ⟨RX4, "inMind", "(I)V"⟩
abbrev cX4_sumOf : ByteArray := prog_6_method_17_code
def yX4_sumOf : MethodName := ⟨RX4, "sumOf", "([II)I"⟩
abbrev cX4_letter : ByteArray := prog_6_method_18_code
def yX4_letter : MethodName := ⟨RX4, "letter", "(I)I"⟩
abbrev cX4_here : ByteArray := prog_6_method_19_code
def yX4_here : MethodName := ⟨RX4, "here", "()I"⟩
abbrev cX4_readsNumber : ByteArray := prog_6_method_20_code
def yX4_readsNumber : MethodName := ⟨RX4, "readsNumber", "(II)Z"⟩
abbrev cX4_kindOf : ByteArray := prog_6_method_21_code
def yX4_kindOf : MethodName := ⟨RX4, "kindOf", "(I)I"⟩
abbrev cX4_readsKind : ByteArray := prog_6_method_22_code
def yX4_readsKind : MethodName := ⟨RX4, "readsKind", "()Z"⟩
abbrev cX4_readsStatement : ByteArray := prog_6_method_23_code
def yX4_readsStatement : MethodName := ⟨RX4, "readsStatement", "()Z"⟩
abbrev cX4_canPour : ByteArray := prog_6_method_24_code
def yX4_canPour : MethodName := ⟨RX4, "canPour", "(III)Z"⟩
abbrev cX4_mixed : ByteArray := prog_6_method_25_code
def yX4_mixed : MethodName := ⟨RX4, "mixed", "(III)I"⟩
abbrev cX4_pours : ByteArray := prog_6_method_26_code
def yX4_pours : MethodName := ⟨RX4, "pours", "(III)V"⟩
abbrev cX4_isDone : ByteArray := prog_6_method_27_code
def yX4_isDone : MethodName := ⟨RX4, "isDone", "(I)Z"⟩
abbrev cX4_town : ByteArray := prog_6_method_28_code
def yX4_town : MethodName := ⟨RX4, "town", "()I"⟩
abbrev cX4_cask : ByteArray := prog_6_method_29_code
def yX4_cask : MethodName := ⟨RX4, "cask", "(II)I"⟩
abbrev cX4_set : ByteArray := prog_6_method_30_code
def yX4_set : MethodName := ⟨RX4, "set", "(II)I"⟩
abbrev cX4_fill : ByteArray := prog_6_method_31_code
def yX4_fill : MethodName := ⟨RX4, "fill", "(II)I"⟩
abbrev cX4_takes : ByteArray := prog_6_method_32_code
def yX4_takes : MethodName := ⟨RX4, "takes", "(III)I"⟩
abbrev cX4_pour : ByteArray := prog_6_method_33_code
def yX4_pour : MethodName := ⟨RX4, "pour", "(III)I"⟩
abbrev cX4_years : ByteArray := prog_6_method_34_code
def yX4_years : MethodName := ⟨RX4, "years", "(I)I"⟩
abbrev cX4_wrongYears : ByteArray := prog_6_method_35_code
def yX4_wrongYears : MethodName := ⟨RX4, "wrongYears", "(I)I"⟩
abbrev cX4_behind : ByteArray := prog_6_method_36_code
def yX4_behind : MethodName := ⟨RX4, "behind", "(III)I"⟩
abbrev cX4_allBehind : ByteArray := prog_6_method_37_code
def yX4_allBehind : MethodName := ⟨RX4, "allBehind", "(II)I"⟩
abbrev cX4_gcd : ByteArray := prog_6_method_38_code
def yX4_gcd : MethodName := ⟨RX4, "gcd", "(JJ)J"⟩
abbrev cX4_partOf : ByteArray := prog_6_method_39_code
def yX4_partOf : MethodName := ⟨RX4, "partOf", "(JJI)J"⟩
abbrev cX4_theirs : ByteArray := prog_6_method_40_code
def yX4_theirs : MethodName := ⟨RX4, "theirs", "(III)J"⟩
abbrev cX4_exciseOf : ByteArray := prog_6_method_41_code
def yX4_exciseOf : MethodName := ⟨RX4, "exciseOf", "([II)I"⟩
abbrev cX4_exciseAll : ByteArray := prog_6_method_42_code
def yX4_exciseAll : MethodName := ⟨RX4, "exciseAll", "([I)I"⟩
abbrev cX4_excise : ByteArray := prog_6_method_43_code
def yX4_excise : MethodName := ⟨RX4, "excise", "(I)I"⟩
abbrev cX4_exciseIn : ByteArray := prog_6_method_44_code
def yX4_exciseIn : MethodName := ⟨RX4, "exciseIn", "(I)I"⟩
abbrev cX4_low : ByteArray := prog_6_method_45_code
def yX4_low : MethodName := ⟨RX4, "low", "(II)I"⟩
abbrev cX4_turns : ByteArray := prog_6_method_46_code
def yX4_turns : MethodName := ⟨RX4, "turns", "()I"⟩
abbrev cX4_hum : ByteArray := prog_6_method_47_code
def yX4_hum : MethodName := ⟨RX4, "hum", "(I)I"⟩
abbrev cX4_pourFor : ByteArray := prog_6_method_48_code
def yX4_pourFor : MethodName := ⟨RX4, "pourFor", "(II)I"⟩
abbrev cX4_blend : ByteArray := prog_6_method_49_code
def yX4_blend : MethodName := ⟨RX4, "blend", "(I)I"⟩
abbrev cX4_spread : ByteArray := prog_6_method_50_code
def yX4_spread : MethodName := ⟨RX4, "spread", "()I"⟩
abbrev cX4_worthOf : ByteArray := prog_6_method_51_code
def yX4_worthOf : MethodName := ⟨RX4, "worthOf", "([II)I"⟩
abbrev cX4_layDown : ByteArray := prog_6_method_52_code
def yX4_layDown : MethodName := ⟨RX4, "layDown", "(I)I"⟩
abbrev cX4_sell : ByteArray := prog_6_method_53_code
def yX4_sell : MethodName := ⟨RX4, "sell", "(I)I"⟩
abbrev cX4_byTreaty : ByteArray := prog_6_method_54_code
def yX4_byTreaty : MethodName := ⟨RX4, "byTreaty", "(IIII)I"⟩
abbrev cX4_treaty : ByteArray := prog_6_method_55_code
def yX4_treaty : MethodName := ⟨RX4, "treaty", "(I)I"⟩
abbrev cX4_bestSet : ByteArray := prog_6_method_56_code
def yX4_bestSet : MethodName := ⟨RX4, "bestSet", "(II)I"⟩
abbrev cX4_iron : ByteArray := prog_6_method_57_code
def yX4_iron : MethodName := ⟨RX4, "iron", "(I)I"⟩
abbrev cX4_row : ByteArray := prog_6_method_58_code
def yX4_row : MethodName := ⟨RX4, "row", "(I)I"⟩
abbrev cX4_firstWrong : ByteArray := prog_6_method_59_code
def yX4_firstWrong : MethodName := ⟨RX4, "firstWrong", "(II)I"⟩
abbrev cX4_which : ByteArray := prog_6_method_60_code
def yX4_which : MethodName := ⟨RX4, "which", "(II)I"⟩
abbrev cX4_judge : ByteArray := prog_6_method_61_code
def yX4_judge : MethodName := ⟨RX4, "judge", "(I)I"⟩
abbrev cX4_chance : ByteArray := prog_6_method_62_code
def yX4_chance : MethodName := ⟨RX4, "chance", "(IIIII)J"⟩
abbrev cX4_drawn : ByteArray := prog_6_method_63_code
def yX4_drawn : MethodName := ⟨RX4, "drawn", "(I)I"⟩
abbrev cX4_lots : ByteArray := prog_6_method_64_code
def yX4_lots : MethodName := ⟨RX4, "lots", "(III)I"⟩
abbrev cX4_image : ByteArray := prog_6_method_65_code
def yX4_image : MethodName := ⟨RX4, "image", "()I"⟩
abbrev cX4_on : ByteArray := prog_6_method_66_code
def yX4_on : MethodName := ⟨RX4, "on", "()I"⟩
abbrev cX4_count : ByteArray := prog_6_method_67_code
def yX4_count : MethodName := ⟨RX4, "count", "(I)I"⟩
def RJ11 : String := "java/lang/Character"
abbrev cJ11_isValidCodePoint_9a6ad : ByteArray := prog_7_method_11_code
def yJ11_isValidCodePoint_9a6ad : MethodName := ⟨RJ11, "isValidCodePoint", "(I)Z"⟩
abbrev cJ11_highSurrogate_5068e : ByteArray := prog_7_method_28_code
def yJ11_highSurrogate_5068e : MethodName := ⟨RJ11, "highSurrogate", "(I)C"⟩
abbrev cJ11_lowSurrogate_5068e : ByteArray := prog_7_method_29_code
def yJ11_lowSurrogate_5068e : MethodName := ⟨RJ11, "lowSurrogate", "(I)C"⟩
def RJ6 : String := "java/lang/Integer"
abbrev cJ6_bitCount_0f7a4 : ByteArray := prog_8_method_49_code
def yJ6_bitCount_0f7a4 : MethodName := ⟨RJ6, "bitCount", "(I)I"⟩
def RJ9 : String := "java/lang/Math"
abbrev cJ9_abs_0f7a4 : ByteArray := prog_9_method_59_code
def yJ9_abs_0f7a4 : MethodName := ⟨RJ9, "abs", "(I)I"⟩
abbrev cJ9_max_7cf53 : ByteArray := prog_9_method_65_code
def yJ9_max_7cf53 : MethodName := ⟨RJ9, "max", "(II)I"⟩
abbrev cJ9_min_7cf53 : ByteArray := prog_9_method_69_code
def yJ9_min_7cf53 : MethodName := ⟨RJ9, "min", "(II)I"⟩
def RJ0 : String := "java/lang/String"
abbrev cJ0_length_8abf5 : ByteArray := prog_10_method_54_code
def yJ0_length_8abf5 : MethodName := ⟨RJ0, "length", "()I"⟩
abbrev cJ0_charAt_5068e : ByteArray := prog_10_method_56_code
def yJ0_charAt_5068e : MethodName := ⟨RJ0, "charAt", "(I)C"⟩
abbrev cJ0_indexOf_0f7a4 : ByteArray := prog_10_method_79_code
def yJ0_indexOf_0f7a4 : MethodName := ⟨RJ0, "indexOf", "(I)I"⟩
abbrev cJ0_indexOf_7cf53 : ByteArray := prog_10_method_80_code
def yJ0_indexOf_7cf53 : MethodName := ⟨RJ0, "indexOf", "(II)I"⟩
abbrev cJ0_coder_7d493 : ByteArray := prog_10_method_152_code
def yJ0_coder_7d493 : MethodName := ⟨RJ0, "coder", "()B"⟩
abbrev cJ0_isLatin1_aae02 : ByteArray := prog_10_method_154_code
def yJ0_isLatin1_aae02 : MethodName := ⟨RJ0, "isLatin1", "()Z"⟩
abbrev cJ0_checkIndex_df160 : ByteArray := prog_10_method_155_code
def yJ0_checkIndex_df160 : MethodName := ⟨RJ0, "checkIndex", "(II)V"⟩
abbrev cJ0_checkBoundsBeginEnd_23922 : ByteArray := prog_10_method_158_code
def yJ0_checkBoundsBeginEnd_23922 : MethodName := ⟨RJ0, "checkBoundsBeginEnd", "(III)V"⟩
def RJ1 : String := "java/lang/StringLatin1"
abbrev cJ1_charAt_3b067 : ByteArray := prog_11_method_2_code
def yJ1_charAt_3b067 : MethodName := ⟨RJ1, "charAt", "([BI)C"⟩
abbrev cJ1_canEncode_9a6ad : ByteArray := prog_11_method_4_code
def yJ1_canEncode_9a6ad : MethodName := ⟨RJ1, "canEncode", "(I)Z"⟩
abbrev cJ1_indexOf_4cfef : ByteArray := prog_11_method_22_code
def yJ1_indexOf_4cfef : MethodName := ⟨RJ1, "indexOf", "([BIII)I"⟩
abbrev cJ1_indexOfChar_4cfef : ByteArray := prog_11_method_23_code
def yJ1_indexOfChar_4cfef : MethodName := ⟨RJ1, "indexOfChar", "([BIII)I"⟩
def RJ2 : String := "java/lang/StringUTF16"
abbrev cJ2_getChar_3b067 : ByteArray := prog_12_method_5_code
def yJ2_getChar_3b067 : MethodName := ⟨RJ2, "getChar", "([BI)C"⟩
abbrev cJ2_length_9d52b : ByteArray := prog_12_method_6_code
def yJ2_length_9d52b : MethodName := ⟨RJ2, "length", "([B)I"⟩
abbrev cJ2_indexOf_4cfef : ByteArray := prog_12_method_40_code
def yJ2_indexOf_4cfef : MethodName := ⟨RJ2, "indexOf", "([BIII)I"⟩
abbrev cJ2_indexOfChar_4cfef : ByteArray := prog_12_method_47_code
def yJ2_indexOfChar_4cfef : MethodName := ⟨RJ2, "indexOfChar", "([BIII)I"⟩
abbrev cJ2_indexOfCharUnsafe_4cfef : ByteArray := prog_12_method_48_code
def yJ2_indexOfCharUnsafe_4cfef : MethodName := ⟨RJ2, "indexOfCharUnsafe", "([BIII)I"⟩
abbrev cJ2_indexOfSupplementary_4cfef : ByteArray := prog_12_method_49_code
def yJ2_indexOfSupplementary_4cfef : MethodName := ⟨RJ2, "indexOfSupplementary", "([BIII)I"⟩
abbrev cJ2_charAt_3b067 : ByteArray := prog_12_method_83_code
def yJ2_charAt_3b067 : MethodName := ⟨RJ2, "charAt", "([BI)C"⟩
abbrev cJ2_checkIndex_2214a : ByteArray := prog_12_method_91_code
def yJ2_checkIndex_2214a : MethodName := ⟨RJ2, "checkIndex", "(I[B)V"⟩
abbrev cJ2_checkBoundsBeginEnd_d044e : ByteArray := prog_12_method_93_code
def yJ2_checkBoundsBeginEnd_d044e : MethodName := ⟨RJ2, "checkBoundsBeginEnd", "(II[B)V"⟩
def RJ3 : String := "jdk/internal/util/Preconditions"
abbrev cJ3_checkIndex_8e157 : ByteArray := prog_13_method_11_code
def yJ3_checkIndex_8e157 : MethodName := ⟨RJ3, "checkIndex", "(IILjava/util/function/BiFunction;)I"⟩
abbrev cJ3_checkFromToIndex_8c36e : ByteArray := prog_13_method_12_code
def yJ3_checkFromToIndex_8c36e : MethodName := ⟨RJ3, "checkFromToIndex", "(IIILjava/util/function/BiFunction;)I"⟩
def RL : String := "TheAngelsWantMoreLaw"
abbrev cL_law : ByteArray := code
def yL_law : MethodName := ⟨RL, "law", "([I)Z"⟩
abbrev vwCl : List vw_C := [(RX0, TX0, 6), (RX1, TX1, 2), (RX2, TX2, 7), (RX3, TX3, 8), (RX4, TX4, 15)]
theorem ti1 : ∀ w ∈ tables_1_1, w ∈ lw_tbl := fun w h => List.mem_append_right _ (show w ∈ tables_1_1 ++ (tables_1_2 ++ (tables_1_3 ++ tables_1_4)) from List.mem_append_left _ h)
theorem tm1 (k : Nat) {w : Jvm.Cond} (h : tables_1_1[k]? = some w) : w ∈ lw_tbl := ti1 _ (List.mem_of_getElem? h)
theorem ti2 : ∀ w ∈ tables_1_2, w ∈ lw_tbl := fun w h => List.mem_append_right _ (show w ∈ tables_1_1 ++ (tables_1_2 ++ (tables_1_3 ++ tables_1_4)) from List.mem_append_right _ (List.mem_append_left _ h))
theorem tm2 (k : Nat) {w : Jvm.Cond} (h : tables_1_2[k]? = some w) : w ∈ lw_tbl := ti2 _ (List.mem_of_getElem? h)
theorem ti3 : ∀ w ∈ tables_1_3, w ∈ lw_tbl := fun w h => List.mem_append_right _ (show w ∈ tables_1_1 ++ (tables_1_2 ++ (tables_1_3 ++ tables_1_4)) from List.mem_append_right _ (List.mem_append_right _ (List.mem_append_left _ h)))
theorem tm3 (k : Nat) {w : Jvm.Cond} (h : tables_1_3[k]? = some w) : w ∈ lw_tbl := ti3 _ (List.mem_of_getElem? h)
theorem ti4 : ∀ w ∈ tables_1_4, w ∈ lw_tbl := fun w h => List.mem_append_right _ (show w ∈ tables_1_1 ++ (tables_1_2 ++ (tables_1_3 ++ tables_1_4)) from List.mem_append_right _ (List.mem_append_right _ (List.mem_append_right _ h)))
theorem tm4 (k : Nat) {w : Jvm.Cond} (h : tables_1_4[k]? = some w) : w ∈ lw_tbl := ti4 _ (List.mem_of_getElem? h)
theorem ps1 (k : Nat) {q : MethodName × Nat} (h : lw_privs_1[k]? = some q) : Jvm.Cond.selects q.1.cls q.1 q.1 ∈ lw_tbl := List.mem_append_left _ (List.mem_map.mpr ⟨q, (show q ∈ lw_privs_1 ++ (lw_privs_2 ++ (lw_privs_3)) from (fun (h : q ∈ lw_privs_1) => List.mem_append_left _ h) (List.mem_of_getElem? h)), rfl⟩)
theorem ps2 (k : Nat) {q : MethodName × Nat} (h : lw_privs_2[k]? = some q) : Jvm.Cond.selects q.1.cls q.1 q.1 ∈ lw_tbl := List.mem_append_left _ (List.mem_map.mpr ⟨q, (show q ∈ lw_privs_1 ++ (lw_privs_2 ++ (lw_privs_3)) from (fun (h : q ∈ lw_privs_2) => List.mem_append_right _ (List.mem_append_left _ h)) (List.mem_of_getElem? h)), rfl⟩)
theorem ps3 (k : Nat) {q : MethodName × Nat} (h : lw_privs_3[k]? = some q) : Jvm.Cond.selects q.1.cls q.1 q.1 ∈ lw_tbl := List.mem_append_left _ (List.mem_map.mpr ⟨q, (show q ∈ lw_privs_1 ++ (lw_privs_2 ++ (lw_privs_3)) from (fun (h : q ∈ lw_privs_3) => List.mem_append_right _ (List.mem_append_right _ (h))) (List.mem_of_getElem? h)), rfl⟩)
set_option maxRecDepth 100000 in
theorem inX0 : ∀ w ∈ u_ws RX0 TX0 6, w ∈ lw_tbl := (show ∀ w ∈ [u_lay RX0 TX0 0, u_lay RX0 TX0 1, u_lay RX0 TX0 2, u_lay RX0 TX0 3, u_lay RX0 TX0 4, u_lay RX0 TX0 5], w ∈ lw_tbl from List.forall_mem_cons.mpr ⟨(tm1 52 rfl), List.forall_mem_cons.mpr ⟨(tm1 54 rfl), List.forall_mem_cons.mpr ⟨(tm1 56 rfl), List.forall_mem_cons.mpr ⟨(tm1 58 rfl), List.forall_mem_cons.mpr ⟨(tm1 60 rfl), List.forall_mem_cons.mpr ⟨(tm1 62 rfl), fun _ h => absurd h List.not_mem_nil⟩⟩⟩⟩⟩⟩)
set_option maxRecDepth 100000 in
theorem inX1 : ∀ w ∈ u_ws RX1 TX1 2, w ∈ lw_tbl := (show ∀ w ∈ [u_lay RX1 TX1 0, u_lay RX1 TX1 1], w ∈ lw_tbl from List.forall_mem_cons.mpr ⟨(tm1 101 rfl), List.forall_mem_cons.mpr ⟨(tm1 103 rfl), fun _ h => absurd h List.not_mem_nil⟩⟩)
set_option maxRecDepth 100000 in
theorem inX2 : ∀ w ∈ u_ws RX2 TX2 7, w ∈ lw_tbl := (show ∀ w ∈ [u_lay RX2 TX2 0, u_lay RX2 TX2 1, u_lay RX2 TX2 2, u_lay RX2 TX2 3, u_lay RX2 TX2 4, u_lay RX2 TX2 5, u_lay RX2 TX2 6], w ∈ lw_tbl from List.forall_mem_cons.mpr ⟨(tm1 77 rfl), List.forall_mem_cons.mpr ⟨(tm1 79 rfl), List.forall_mem_cons.mpr ⟨(tm1 81 rfl), List.forall_mem_cons.mpr ⟨(tm1 83 rfl), List.forall_mem_cons.mpr ⟨(tm1 85 rfl), List.forall_mem_cons.mpr ⟨(tm1 87 rfl), List.forall_mem_cons.mpr ⟨(tm1 89 rfl), fun _ h => absurd h List.not_mem_nil⟩⟩⟩⟩⟩⟩⟩)
set_option maxRecDepth 100000 in
theorem inX3 : ∀ w ∈ u_ws RX3 TX3 8, w ∈ lw_tbl := (show ∀ w ∈ [u_lay RX3 TX3 0, u_lay RX3 TX3 1, u_lay RX3 TX3 2, u_lay RX3 TX3 3, u_lay RX3 TX3 4, u_lay RX3 TX3 5, u_lay RX3 TX3 6, u_lay RX3 TX3 7], w ∈ lw_tbl from List.forall_mem_cons.mpr ⟨(tm1 115 rfl), List.forall_mem_cons.mpr ⟨(tm1 117 rfl), List.forall_mem_cons.mpr ⟨(tm1 119 rfl), List.forall_mem_cons.mpr ⟨(tm1 121 rfl), List.forall_mem_cons.mpr ⟨(tm1 123 rfl), List.forall_mem_cons.mpr ⟨(tm1 125 rfl), List.forall_mem_cons.mpr ⟨(tm1 127 rfl), List.forall_mem_cons.mpr ⟨(tm1 129 rfl), fun _ h => absurd h List.not_mem_nil⟩⟩⟩⟩⟩⟩⟩⟩)
set_option maxRecDepth 100000 in
theorem inX4 : ∀ w ∈ u_ws RX4 TX4 15, w ∈ lw_tbl := (show ∀ w ∈ [u_lay RX4 TX4 0, u_lay RX4 TX4 1, u_lay RX4 TX4 2, u_lay RX4 TX4 3, u_lay RX4 TX4 4, u_lay RX4 TX4 5, u_lay RX4 TX4 6, u_lay RX4 TX4 7, u_lay RX4 TX4 8, u_lay RX4 TX4 9, u_lay RX4 TX4 10, u_lay RX4 TX4 11, u_lay RX4 TX4 12, u_lay RX4 TX4 13, u_lay RX4 TX4 14], w ∈ lw_tbl from List.forall_mem_cons.mpr ⟨(tm3 188 rfl), List.forall_mem_cons.mpr ⟨(tm3 190 rfl), List.forall_mem_cons.mpr ⟨(tm3 192 rfl), List.forall_mem_cons.mpr ⟨(tm3 194 rfl), List.forall_mem_cons.mpr ⟨(tm3 196 rfl), List.forall_mem_cons.mpr ⟨(tm3 198 rfl), List.forall_mem_cons.mpr ⟨(tm3 200 rfl), List.forall_mem_cons.mpr ⟨(tm3 202 rfl), List.forall_mem_cons.mpr ⟨(tm3 204 rfl), List.forall_mem_cons.mpr ⟨(tm3 206 rfl), List.forall_mem_cons.mpr ⟨(tm3 208 rfl), List.forall_mem_cons.mpr ⟨(tm3 210 rfl), List.forall_mem_cons.mpr ⟨(tm3 212 rfl), List.forall_mem_cons.mpr ⟨(tm3 214 rfl), List.forall_mem_cons.mpr ⟨(tm3 216 rfl), fun _ h => absurd h List.not_mem_nil⟩⟩⟩⟩⟩⟩⟩⟩⟩⟩⟩⟩⟩⟩⟩)
/-- the words that every method carries -/
def BW : List Jvm.Cond := lw_tbl.filter goodWord
theorem bw {w : Jvm.Cond} (h : w ∈ lw_tbl) (g : goodWord w = true) : w ∈ BW := List.mem_filter.mpr ⟨h, g⟩
end
section
/-! THE SMALL MACHINE: objects by numbers, their ints in one table; what a method's code does there (ab_step, ab_loop, ab_run). Part 11 shows that the machine of the Statement does the same. -/
abbrev Mm : Type := Nat → Nat → Int32
abbrev Lo : Type := List (Option Value)
abbrev Rz : Type := Option Value × Mm
abbrev S5 : Type := Nat × Lo × List Value × Mm
abbrev Cf : Type := Nat → List Value → Mm → Option Rz
def mset (mem : Mm) (o k : Nat) (v : Int32) : Mm := fun i j => if i = o then (if j = k then v else mem i j) else mem i j
/-- kinds of the objects: 0 Cask, 1 Letters, 2 Town, 3 the class, 4 the reference, 5 an int array, 6 a Town's array of Casks, 7 a String constant, 8 its bytes, 9 the script -/
def kdL : List Nat := [3, 2, 6, 0, 0, 0, 0, 0, 0, 0, 0, 2, 6, 0, 0, 0, 0, 0, 0, 0, 0, 2, 6, 0, 0, 0, 0, 0, 0, 0, 0, 1, 5, 5, 5, 4, 5, 5, 5, 5, 5, 5, 5, 5]
def kd (o : Nat) : Nat := if o < 44 then kdL.getD o 99 else if o < 50 then 99 else if o < 58 then 7 else if o < 60 then 99 else if o < 68 then 8 else if o = 90 then 9 else 99
def lnL : List Nat := [0, 0, 0, 0, 0, 0, 0, 0, 0, 0, 0, 0, 0, 0, 0, 0, 0, 0, 0, 0, 0, 0, 0, 0, 0, 0, 0, 0, 0, 0, 0, 0, 96, 12, 7, 0, 47, 47, 47, 47, 96, 12, 7, 5]
def ln (o : Nat) : Nat := lnL.getD o 0
/-- fields that hold an object, never written behind the constructors -/
def rfT : Nat → Nat → Nat → Option Nat
  | 1, 0, o => some (o + 1)
  | 2, 0, o => some (o + 1)
  | 2, 1, o => some (o + 9)
  | 3, 0, _ => some 1
  | 3, 1, _ => some 11
  | 3, 2, _ => some 21
  | 3, 4, _ => some 31
  | 3, 5, _ => some 33
  | 3, 7, _ => some 34
  | 4, 0, _ => some 36
  | 4, 1, _ => some 37
  | 4, 2, _ => some 38
  | 4, 3, _ => some 39
  | 4, 5, _ => some 40
  | 4, 6, _ => some 41
  | 4, 7, _ => some 42
  | 4, 13, _ => some 43
  | _, _, _ => none
def fv (ci k o : Nat) (mem : Mm) : Value := match rfT ci k o with
  | some j => .ref j
  | none => .int (mem o k)
def nfT : Nat → Nat
  | 0 => 6
  | 1 => 2
  | 2 => 7
  | 3 => 8
  | 4 => 15
  | _ => 0
def is2 : Option Value → Bool
  | some v => v.category == 2
  | none => false
def aset : Lo → Nat → Value → Lo
  | [], _, _ => []
  | _ :: t, 0, v => some v :: (if v.category = 2 then (match t with | [] => [] | _ :: t2 => none :: t2) else t)
  | a :: t, i + 1, v => (if i = 0 ∧ is2 a = true then none else a) :: aset t i v
def aget (ls : Lo) (i : Nat) : Option Value := match ls[i]? with
  | some (some v) => some v
  | _ => none
/-- the locals with which a method begins -/
def aent : Nat → List Value → Lo
  | n, [] => List.replicate n none
  | n, v :: vs => if v.category = 2 then some v :: none :: aent (n - 2) vs else some v :: aent (n - 1) vs
def awd (vs : List Value) : Nat := (vs.map fun v => v.category).sum
abbrev MD : Type := MethodName × ByteArray × Nat × Option FieldType × Nat × Nat × Bool
abbrev MD.y (d : MD) : MethodName := d.1
abbrev MD.c (d : MD) : ByteArray := d.2.1
abbrev MD.ml (d : MD) : Nat := d.2.2.1
abbrev MD.rt (d : MD) : Option FieldType := d.2.2.2.1
abbrev MD.own (d : MD) : Nat := d.2.2.2.2.1
abbrev MD.na (d : MD) : Nat := d.2.2.2.2.2.1
abbrev MD.st (d : MD) : Bool := d.2.2.2.2.2.2
def lk2 {α : Type} (t : List (Nat × Nat × α)) (a b : Nat) : Option α := match t.find? (fun e => e.1 == a && e.2.1 == b) with
  | some e => some e.2.2
  | none => none
theorem lk2_mem {α : Type} {t : List (Nat × Nat × α)} {a b : Nat} {x : α} (h : lk2 t a b = some x) : (a, b, x) ∈ t := by
  unfold lk2 at h
  split at h
  next e he =>
    have h1 := List.mem_of_find?_eq_some he
    have h2 := List.find?_some he
    simp only [Bool.and_eq_true, beq_iff_eq] at h2
    cases h
    obtain ⟨h3, h4⟩ := h2
    subst h3; subst h4
    exact h1
  next => cases h
/-- how many bytes an instruction must take (as the rows say) -/
def wlen : Instr → Nat → Nat
  | .bipush _, _ => 2
  | .sipush _, _ => 3
  | .iload _, _ => 2
  | .lload _, _ => 2
  | .aload _, _ => 2
  | .istore _, _ => 2
  | .lstore _, _ => 2
  | .astore _, _ => 2
  | .iinc _ _, _ => 3
  | .ifCond _ _, _ => 3
  | .if_icmp _ _, _ => 3
  | .ifnonnull _, _ => 3
  | .goto _, _ => 3
  | .getfield _, _ => 3
  | .putfield _, _ => 3
  | .getstatic _, _ => 3
  | .invokevirtual _, _ => 3
  | .invokestatic _, _ => 3
  | .ldc _, _ => 2
  | .ldc_w _, _ => 3
  | .ldc2_w _, _ => 3
  | .lookupswitch _ _, n => n
  | .tableswitch _ _ _ _, n => n
  | _, _ => 1
def acnd : ClassFile.Cond → Int32 → Int32 → Bool
  | .eq, x, y => decide (x = y)
  | .ne, x, y => decide (¬ x = y)
  | .lt, x, y => decide (x < y)
  | .ge, x, y => decide (y ≤ x)
  | .gt, x, y => decide (y < x)
  | .le, x, y => decide (x ≤ y)
def aret : Option FieldType → List Value → Option (Option Value)
  | some .int, [.int v] => some (some (.int v))
  | some .boolean, [.int v] => if v = 0 ∨ v = 1 then some (some (.int v)) else none
  | some .byte, [.int v] => if v.toInt8.toInt32 = v then some (some (.int v)) else none
  | some .char, [.int v] => if v.toUInt32.toUInt16.toUInt32.toInt32 = v then some (some (.int v)) else none
  | _, _ => none
/-- where a jump goes -/
def ajmp (pc : Nat) (off : Int) : Option Nat := if 0 ≤ (pc : Int) + off then some ((pc : Int) + off).toNat else none
abbrev anx (pc : Nat) (ls : Lo) (st : List Value) (mem : Mm) : Option (Rz ⊕ S5) := some (.inr (pc, ls, st, mem))
abbrev ajm (pc : Nat) (off : Int) (ls : Lo) (st : List Value) (mem : Mm) : Option (Rz ⊕ S5) := match ajmp pc off with
  | some t => anx t ls st mem
  | none => none
/-- index i within n -/
abbrev vin (i : Int32) (n : Nat) : Prop := ¬ (i < 0 ∨ n ≤ i.toNatClampNeg)
end
section
def md_J9_abs_0f7a4 : MD := (yJ9_abs_0f7a4, cJ9_abs_0f7a4, 1, (some .int), 19, 1, true)
def md_J9_max_7cf53 : MD := (yJ9_max_7cf53, cJ9_max_7cf53, 2, (some .int), 19, 2, true)
def md_J9_min_7cf53 : MD := (yJ9_min_7cf53, cJ9_min_7cf53, 2, (some .int), 19, 2, true)
def md_J6_bitCount_0f7a4 : MD := (yJ6_bitCount_0f7a4, cJ6_bitCount_0f7a4, 1, (some .int), 16, 1, true)
def md_J0_length_8abf5 : MD := (yJ0_length_8abf5, cJ0_length_8abf5, 1, (some .int), 10, 0, false)
def md_J0_charAt_5068e : MD := (yJ0_charAt_5068e, cJ0_charAt_5068e, 2, (some .char), 10, 1, false)
def md_J0_indexOf_0f7a4 : MD := (yJ0_indexOf_0f7a4, cJ0_indexOf_0f7a4, 2, (some .int), 10, 1, false)
def md_J0_indexOf_7cf53 : MD := (yJ0_indexOf_7cf53, cJ0_indexOf_7cf53, 3, (some .int), 10, 2, false)
def md_J0_coder_7d493 : MD := (yJ0_coder_7d493, cJ0_coder_7d493, 1, (some .byte), 10, 0, false)
def md_J0_isLatin1_aae02 : MD := (yJ0_isLatin1_aae02, cJ0_isLatin1_aae02, 1, (some .boolean), 10, 0, false)
def md_J0_checkIndex_df160 : MD := (yJ0_checkIndex_df160, cJ0_checkIndex_df160, 2, none, 10, 2, true)
def md_J1_charAt_3b067 : MD := (yJ1_charAt_3b067, cJ1_charAt_3b067, 2, (some .char), 11, 2, true)
def md_J1_canEncode_9a6ad : MD := (yJ1_canEncode_9a6ad, cJ1_canEncode_9a6ad, 1, (some .boolean), 11, 1, true)
def md_J1_indexOf_4cfef : MD := (yJ1_indexOf_4cfef, cJ1_indexOf_4cfef, 4, (some .int), 11, 4, true)
def md_J1_indexOfChar_4cfef : MD := (yJ1_indexOfChar_4cfef, cJ1_indexOfChar_4cfef, 6, (some .int), 11, 4, true)
def md_J3_checkIndex_8e157 : MD := (yJ3_checkIndex_8e157, cJ3_checkIndex_8e157, 3, (some .int), 13, 3, true)
def md_X0_become : MD := (yX0_become, cX0_become, 2, none, 0, 1, false)
def md_X0_angelsPart : MD := (yX0_angelsPart, cX0_angelsPart, 4, (some .int), 0, 2, false)
def md_X0_strengthIn : MD := (yX0_strengthIn, cX0_strengthIn, 2, (some .int), 0, 1, false)
def md_X0_sentBackIn : MD := (yX0_sentBackIn, cX0_sentBackIn, 2, (some .int), 0, 1, false)
def md_X0_goOn : MD := (yX0_goOn, cX0_goOn, 5, none, 0, 2, false)
def md_X0_isHalfTheirs : MD := (yX0_isHalfTheirs, cX0_isHalfTheirs, 1, (some .boolean), 0, 0, false)
def md_X0_worth : MD := (yX0_worth, cX0_worth, 1, (some .int), 0, 0, false)
def md_X1_isFull : MD := (yX1_isFull, cX1_isFull, 1, (some .boolean), 1, 0, false)
def md_X1_add : MD := (yX1_add, cX1_add, 2, (some .int), 1, 1, false)
def md_X1_forget : MD := (yX1_forget, cX1_forget, 1, none, 1, 0, false)
def md_X1_at : MD := (yX1_at, cX1_at, 2, (some .int), 1, 1, false)
def md_X1_kind : MD := (yX1_kind, cX1_kind, 3, (some .int), 1, 1, false)
def md_X1_number : MD := (yX1_number, cX1_number, 5, (some .int), 1, 2, false)
def md_X1_firstWrong : MD := (yX1_firstWrong, cX1_firstWrong, 4, (some .int), 1, 0, false)
def md_X1_fits : MD := (yX1_fits, cX1_fits, 4, (some .boolean), 1, 2, false)
def md_X1_shapeOf : MD := (yX1_shapeOf, cX1_shapeOf, 1, (some (.object "java/lang/String")), 1, 1, true)
def md_X2_at : MD := (yX2_at, cX2_at, 3, (some (.object "TheAngelsWantMore$Cask")), 2, 1, false)
def md_X2_become : MD := (yX2_become, cX2_become, 3, none, 2, 1, false)
def md_X2_caskFault : MD := (yX2_caskFault, cX2_caskFault, 2, (some .int), 2, 1, false)
def md_X2_addCask : MD := (yX2_addCask, cX2_addCask, 8, (some .int), 2, 5, false)
def md_X2_chosen : MD := (yX2_chosen, cX2_chosen, 2, (some .int), 2, 1, false)
def md_X2_choose : MD := (yX2_choose, cX2_choose, 4, (some .int), 2, 2, false)
def md_X2_pourFault : MD := (yX2_pourFault, cX2_pourFault, 6, (some .int), 2, 3, false)
def md_X2_pouredStrength : MD := (yX2_pouredStrength, cX2_pouredStrength, 6, (some .int), 2, 3, false)
def md_X2_pourOver : MD := (yX2_pourOver, cX2_pourOver, 5, (some .int), 2, 3, false)
def md_X2_blended : MD := (yX2_blended, cX2_blended, 4, (some .int), 2, 2, false)
def md_X2_rateBy : MD := (yX2_rateBy, cX2_rateBy, 2, (some .int), 2, 1, false)
def md_X2_goOn : MD := (yX2_goOn, cX2_goOn, 5, none, 2, 1, false)
def md_X2_liveOn : MD := (yX2_liveOn, cX2_liveOn, 3, (some .int), 2, 1, false)
def md_X2_allAmounts : MD := (yX2_allAmounts, cX2_allAmounts, 3, (some .int), 2, 0, false)
def md_X2_allTaken : MD := (yX2_allTaken, cX2_allTaken, 3, (some .int), 2, 0, false)
def md_X2_fullest : MD := (yX2_fullest, cX2_fullest, 3, (some .int), 2, 0, false)
def md_X2_dutyOf : MD := (yX2_dutyOf, cX2_dutyOf, 2, (some .int), 2, 1, false)
def md_X2_dutyOfAll : MD := (yX2_dutyOfAll, cX2_dutyOfAll, 3, (some .int), 2, 0, false)
def md_X3_letter : MD := (yX3_letter, cX3_letter, 3, (some .int), 3, 1, false)
def md_X3_town : MD := (yX3_town, cX3_town, 2, (some .int), 3, 0, false)
def md_X3_cask : MD := (yX3_cask, cX3_cask, 5, (some .int), 3, 2, false)
def md_X3_set : MD := (yX3_set, cX3_set, 5, (some .int), 3, 2, false)
def md_X3_fill : MD := (yX3_fill, cX3_fill, 6, (some .int), 3, 2, false)
def md_X3_takes : MD := (yX3_takes, cX3_takes, 5, (some .int), 3, 3, false)
def md_X3_pour : MD := (yX3_pour, cX3_pour, 5, (some .int), 3, 3, false)
def md_X3_years : MD := (yX3_years, cX3_years, 3, (some .int), 3, 1, false)
def md_X3_behind : MD := (yX3_behind, cX3_behind, 6, (some .int), 3, 3, false)
def md_X3_allBehind : MD := (yX3_allBehind, cX3_allBehind, 4, (some .int), 3, 2, false)
def md_X3_theirs : MD := (yX3_theirs, cX3_theirs, 9, (some .long), 3, 3, false)
def md_X3_excise : MD := (yX3_excise, cX3_excise, 3, (some .int), 3, 1, false)
def md_X3_exciseIn : MD := (yX3_exciseIn, cX3_exciseIn, 5, (some .int), 3, 1, false)
def md_X3_low : MD := (yX3_low, cX3_low, 5, (some .int), 3, 2, false)
def md_X3_turns : MD := (yX3_turns, cX3_turns, 3, (some .int), 3, 0, false)
def md_X3_hum : MD := (yX3_hum, cX3_hum, 4, (some .int), 3, 1, false)
def md_X3_pourFor : MD := (yX3_pourFor, cX3_pourFor, 6, (some .int), 3, 2, false)
def md_X3_blend : MD := (yX3_blend, cX3_blend, 8, (some .int), 3, 1, false)
def md_X3_spread : MD := (yX3_spread, cX3_spread, 5, (some .int), 3, 0, false)
def md_X3_layDown : MD := (yX3_layDown, cX3_layDown, 6, (some .int), 3, 1, false)
def md_X3_sell : MD := (yX3_sell, cX3_sell, 5, (some .int), 3, 1, false)
def md_X3_treaty : MD := (yX3_treaty, cX3_treaty, 5, (some .int), 3, 1, false)
def md_X3_bestSet : MD := (yX3_bestSet, cX3_bestSet, 7, (some .int), 3, 2, false)
def md_X3_iron : MD := (yX3_iron, cX3_iron, 6, (some .int), 3, 1, false)
def md_X3_row : MD := (yX3_row, cX3_row, 3, (some .int), 3, 1, false)
def md_X3_which : MD := (yX3_which, cX3_which, 4, (some .int), 3, 2, false)
def md_X3_judge : MD := (yX3_judge, cX3_judge, 4, (some .int), 3, 1, false)
def md_X3_chance : MD := (yX3_chance, cX3_chance, 10, (some .long), 3, 5, false)
def md_X3_lots : MD := (yX3_lots, cX3_lots, 8, (some .int), 3, 3, false)
def md_X3_image : MD := (yX3_image, cX3_image, 1, (some .int), 3, 0, false)
def md_X3_on : MD := (yX3_on, cX3_on, 1, (some .int), 3, 0, false)
def md_X3_count : MD := (yX3_count, cX3_count, 2, (some .int), 3, 1, false)
def md_X3_refuse : MD := (yX3_refuse, cX3_refuse, 3, (some .int), 3, 1, false)
def md_X3_refuseLong : MD := (yX3_refuseLong, cX3_refuseLong, 2, (some .long), 3, 1, false)
def md_X3_refused : MD := (yX3_refused, cX3_refused, 2, (some .int), 3, 1, false)
def md_X3_firstOf : MD := (yX3_firstOf, cX3_firstOf, 3, (some .int), 3, 3, true)
def md_X3_rangeFault : MD := (yX3_rangeFault, cX3_rangeFault, 3, (some .int), 3, 3, true)
def md_X3_whatFault : MD := (yX3_whatFault, cX3_whatFault, 2, (some .int), 3, 2, true)
def md_X3_yearsFault : MD := (yX3_yearsFault, cX3_yearsFault, 1, (some .int), 3, 1, true)
def md_X3_caskOrAllFault : MD := (yX3_caskOrAllFault, cX3_caskOrAllFault, 2, (some .int), 3, 1, false)
def md_X3_chanceFault : MD := (yX3_chanceFault, cX3_chanceFault, 3, (some .int), 3, 3, true)
def md_X3_leastChoice : MD := (yX3_leastChoice, cX3_leastChoice, 1, (some .int), 3, 1, true)
def md_X3_mostChoice : MD := (yX3_mostChoice, cX3_mostChoice, 1, (some .int), 3, 1, true)
def md_X3_readLetters : MD := (yX3_readLetters, cX3_readLetters, 5, (some .int), 3, 0, false)
def md_X3_statementFault : MD := (yX3_statementFault, cX3_statementFault, 3, (some .int), 3, 1, false)
def md_X3_caskComes : MD := (yX3_caskComes, cX3_caskComes, 2, (some .int), 3, 1, false)
def md_X3_pourComes : MD := (yX3_pourComes, cX3_pourComes, 2, (some .int), 3, 1, false)
def md_X3_thinkOn : MD := (yX3_thinkOn, cX3_thinkOn, 2, none, 3, 1, false)
def md_X3_keepsLess : MD := (yX3_keepsLess, cX3_keepsLess, 7, (some .boolean), 3, 2, false)
def md_X3_thinkTreaty : MD := (yX3_thinkTreaty, cX3_thinkTreaty, 4, none, 3, 3, false)
def md_X3_bothKeep : MD := (yX3_bothKeep, cX3_bothKeep, 6, (some .boolean), 3, 3, false)
def md_X3_firstNotSo : MD := (yX3_firstNotSo, cX3_firstNotSo, 3, (some .int), 3, 1, false)
def md_X3_kindsByRow : MD := (yX3_kindsByRow, cX3_kindsByRow, 4, (some .int), 3, 1, false)
def md_X3_ratesByRow : MD := (yX3_ratesByRow, cX3_ratesByRow, 4, (some .int), 3, 1, false)
def md_X3_amountByLents : MD := (yX3_amountByLents, cX3_amountByLents, 6, (some .int), 3, 3, false)
def md_X3_nextSeed : MD := (yX3_nextSeed, cX3_nextSeed, 1, (some .int), 3, 1, true)
def md_X3_drawn : MD := (yX3_drawn, cX3_drawn, 2, (some .int), 3, 2, true)
def md_X3_power : MD := (yX3_power, cX3_power, 6, (some .long), 3, 2, true)
def md_X3_partOf : MD := (yX3_partOf, cX3_partOf, 7, (some .long), 3, 3, true)
def md_X3_commonDivisor : MD := (yX3_commonDivisor, cX3_commonDivisor, 11, (some .long), 3, 2, true)
def md_X4_isIn : MD := (yX4_isIn, cX4_isIn, 3, (some .boolean), 4, 3, true)
def md_X4_least : MD := (yX4_least, cX4_least, 2, (some .int), 4, 2, true)
def md_X4_size : MD := (yX4_size, cX4_size, 1, (some .int), 4, 1, true)
def md_X4_lays : MD := (yX4_lays, cX4_lays, 3, none, 4, 2, true)
def md_X4_no : MD := (yX4_no, cX4_no, 2, (some .int), 4, 1, false)
def md_X4_noWide : MD := (yX4_noWide, cX4_noWide, 2, (some .long), 4, 1, false)
def md_X4_isCask : MD := (yX4_isCask, cX4_isCask, 2, (some .boolean), 4, 1, false)
def md_X4_at : MD := (yX4_at, cX4_at, 2, (some .int), 4, 2, true)
def md_X4_takesOf : MD := (yX4_takesOf, cX4_takesOf, 5, (some .int), 4, 4, true)
def md_X4_strengthOf : MD := (yX4_strengthOf, cX4_strengthOf, 4, (some .int), 4, 3, true)
def md_X4_backOf : MD := (yX4_backOf, cX4_backOf, 3, (some .int), 4, 2, true)
def md_X4_yearBy : MD := (yX4_yearBy, cX4_yearBy, 7, none, 4, 2, false)
def md_X4_year : MD := (yX4_year, cX4_year, 2, none, 4, 1, false)
def md_X4_yearsOn : MD := (yX4_yearsOn, cX4_yearsOn, 4, none, 4, 2, false)
def md_X4_inMind : MD := (yX4_inMind, cX4_inMind, 2, none, 4, 1, false)
def md_X4_sumOf : MD := (yX4_sumOf, cX4_sumOf, 4, (some .int), 4, 2, true)
def md_X4_letter : MD := (yX4_letter, cX4_letter, 2, (some .int), 4, 1, false)
def md_X4_here : MD := (yX4_here, cX4_here, 1, (some .int), 4, 0, false)
def md_X4_readsNumber : MD := (yX4_readsNumber, cX4_readsNumber, 4, (some .boolean), 4, 2, false)
def md_X4_kindOf : MD := (yX4_kindOf, cX4_kindOf, 1, (some .int), 4, 1, true)
def md_X4_readsKind : MD := (yX4_readsKind, cX4_readsKind, 1, (some .boolean), 4, 0, false)
def md_X4_readsStatement : MD := (yX4_readsStatement, cX4_readsStatement, 3, (some .boolean), 4, 0, false)
def md_X4_canPour : MD := (yX4_canPour, cX4_canPour, 4, (some .boolean), 4, 3, false)
def md_X4_mixed : MD := (yX4_mixed, cX4_mixed, 4, (some .int), 4, 3, false)
def md_X4_pours : MD := (yX4_pours, cX4_pours, 4, none, 4, 3, false)
def md_X4_isDone : MD := (yX4_isDone, cX4_isDone, 5, (some .boolean), 4, 1, false)
def md_X4_town : MD := (yX4_town, cX4_town, 6, (some .int), 4, 0, false)
def md_X4_cask : MD := (yX4_cask, cX4_cask, 3, (some .int), 4, 2, false)
def md_X4_set : MD := (yX4_set, cX4_set, 4, (some .int), 4, 2, false)
def md_X4_fill : MD := (yX4_fill, cX4_fill, 4, (some .int), 4, 2, false)
def md_X4_takes : MD := (yX4_takes, cX4_takes, 4, (some .int), 4, 3, false)
def md_X4_pour : MD := (yX4_pour, cX4_pour, 4, (some .int), 4, 3, false)
def md_X4_years : MD := (yX4_years, cX4_years, 2, (some .int), 4, 1, false)
def md_X4_wrongYears : MD := (yX4_wrongYears, cX4_wrongYears, 1, (some .int), 4, 1, true)
def md_X4_behind : MD := (yX4_behind, cX4_behind, 5, (some .int), 4, 3, false)
def md_X4_allBehind : MD := (yX4_allBehind, cX4_allBehind, 6, (some .int), 4, 2, false)
def md_X4_gcd : MD := (yX4_gcd, cX4_gcd, 10, (some .long), 4, 2, true)
def md_X4_partOf : MD := (yX4_partOf, cX4_partOf, 5, (some .long), 4, 3, true)
def md_X4_theirs : MD := (yX4_theirs, cX4_theirs, 7, (some .long), 4, 3, false)
def md_X4_exciseOf : MD := (yX4_exciseOf, cX4_exciseOf, 2, (some .int), 4, 2, true)
def md_X4_exciseAll : MD := (yX4_exciseAll, cX4_exciseAll, 3, (some .int), 4, 1, true)
def md_X4_excise : MD := (yX4_excise, cX4_excise, 2, (some .int), 4, 1, false)
def md_X4_exciseIn : MD := (yX4_exciseIn, cX4_exciseIn, 5, (some .int), 4, 1, false)
def md_X4_low : MD := (yX4_low, cX4_low, 4, (some .int), 4, 2, false)
def md_X4_turns : MD := (yX4_turns, cX4_turns, 2, (some .int), 4, 0, false)
def md_X4_hum : MD := (yX4_hum, cX4_hum, 3, (some .int), 4, 1, false)
def md_X4_pourFor : MD := (yX4_pourFor, cX4_pourFor, 5, (some .int), 4, 2, false)
def md_X4_blend : MD := (yX4_blend, cX4_blend, 8, (some .int), 4, 1, false)
def md_X4_spread : MD := (yX4_spread, cX4_spread, 5, (some .int), 4, 0, false)
def md_X4_worthOf : MD := (yX4_worthOf, cX4_worthOf, 2, (some .int), 4, 2, true)
def md_X4_layDown : MD := (yX4_layDown, cX4_layDown, 5, (some .int), 4, 1, false)
def md_X4_sell : MD := (yX4_sell, cX4_sell, 6, (some .int), 4, 1, false)
def md_X4_byTreaty : MD := (yX4_byTreaty, cX4_byTreaty, 5, (some .int), 4, 4, false)
def md_X4_treaty : MD := (yX4_treaty, cX4_treaty, 7, (some .int), 4, 1, false)
def md_X4_bestSet : MD := (yX4_bestSet, cX4_bestSet, 14, (some .int), 4, 2, false)
def md_X4_iron : MD := (yX4_iron, cX4_iron, 7, (some .int), 4, 1, false)
def md_X4_row : MD := (yX4_row, cX4_row, 2, (some .int), 4, 1, false)
def md_X4_firstWrong : MD := (yX4_firstWrong, cX4_firstWrong, 4, (some .int), 4, 2, false)
def md_X4_which : MD := (yX4_which, cX4_which, 5, (some .int), 4, 2, false)
def md_X4_judge : MD := (yX4_judge, cX4_judge, 3, (some .int), 4, 1, false)
def md_X4_chance : MD := (yX4_chance, cX4_chance, 15, (some .long), 4, 5, false)
def md_X4_drawn : MD := (yX4_drawn, cX4_drawn, 2, (some .int), 4, 1, false)
def md_X4_lots : MD := (yX4_lots, cX4_lots, 6, (some .int), 4, 3, false)
def md_X4_image : MD := (yX4_image, cX4_image, 1, (some .int), 4, 0, false)
def md_X4_on : MD := (yX4_on, cX4_on, 1, (some .int), 4, 0, false)
def md_X4_count : MD := (yX4_count, cX4_count, 2, (some .int), 4, 1, false)
def mTL_0 : List MD := [md_J9_abs_0f7a4, md_J9_max_7cf53, md_J9_min_7cf53, md_J6_bitCount_0f7a4, md_J0_length_8abf5, md_J0_charAt_5068e, md_J0_indexOf_0f7a4, md_J0_indexOf_7cf53, md_J0_coder_7d493, md_J0_isLatin1_aae02, md_J0_checkIndex_df160, md_J1_charAt_3b067, md_J1_canEncode_9a6ad, md_J1_indexOf_4cfef, md_J1_indexOfChar_4cfef, md_J3_checkIndex_8e157, md_X0_become, md_X0_angelsPart, md_X0_strengthIn, md_X0_sentBackIn, md_X0_goOn, md_X0_isHalfTheirs]
def mTL_1 : List MD := [md_X0_worth, md_X1_isFull, md_X1_add, md_X1_forget, md_X1_at, md_X1_kind, md_X1_number, md_X1_firstWrong, md_X1_fits, md_X1_shapeOf, md_X2_at, md_X2_become, md_X2_caskFault, md_X2_addCask, md_X2_chosen, md_X2_choose, md_X2_pourFault, md_X2_pouredStrength, md_X2_pourOver, md_X2_blended, md_X2_rateBy, md_X2_goOn]
def mTL_2 : List MD := [md_X2_liveOn, md_X2_allAmounts, md_X2_allTaken, md_X2_fullest, md_X2_dutyOf, md_X2_dutyOfAll, md_X3_letter, md_X3_town, md_X3_cask, md_X3_set, md_X3_fill, md_X3_takes, md_X3_pour, md_X3_years, md_X3_behind, md_X3_allBehind, md_X3_theirs, md_X3_excise, md_X3_exciseIn, md_X3_low, md_X3_turns, md_X3_hum]
def mTL_3 : List MD := [md_X3_pourFor, md_X3_blend, md_X3_spread, md_X3_layDown, md_X3_sell, md_X3_treaty, md_X3_bestSet, md_X3_iron, md_X3_row, md_X3_which, md_X3_judge, md_X3_chance, md_X3_lots, md_X3_image, md_X3_on, md_X3_count, md_X3_refuse, md_X3_refuseLong, md_X3_refused, md_X3_firstOf, md_X3_rangeFault, md_X3_whatFault]
def mTL_4 : List MD := [md_X3_yearsFault, md_X3_caskOrAllFault, md_X3_chanceFault, md_X3_leastChoice, md_X3_mostChoice, md_X3_readLetters, md_X3_statementFault, md_X3_caskComes, md_X3_pourComes, md_X3_thinkOn, md_X3_keepsLess, md_X3_thinkTreaty, md_X3_bothKeep, md_X3_firstNotSo, md_X3_kindsByRow, md_X3_ratesByRow, md_X3_amountByLents, md_X3_nextSeed, md_X3_drawn, md_X3_power, md_X3_partOf, md_X3_commonDivisor]
def mTL_5 : List MD := [md_X4_isIn, md_X4_least, md_X4_size, md_X4_lays, md_X4_no, md_X4_noWide, md_X4_isCask, md_X4_at, md_X4_takesOf, md_X4_strengthOf, md_X4_backOf, md_X4_yearBy, md_X4_year, md_X4_yearsOn, md_X4_inMind, md_X4_sumOf, md_X4_letter, md_X4_here, md_X4_readsNumber, md_X4_kindOf, md_X4_readsKind, md_X4_readsStatement]
def mTL_6 : List MD := [md_X4_canPour, md_X4_mixed, md_X4_pours, md_X4_isDone, md_X4_town, md_X4_cask, md_X4_set, md_X4_fill, md_X4_takes, md_X4_pour, md_X4_years, md_X4_wrongYears, md_X4_behind, md_X4_allBehind, md_X4_gcd, md_X4_partOf, md_X4_theirs, md_X4_exciseOf, md_X4_exciseAll, md_X4_excise, md_X4_exciseIn, md_X4_low]
def mTL_7 : List MD := [md_X4_turns, md_X4_hum, md_X4_pourFor, md_X4_blend, md_X4_spread, md_X4_worthOf, md_X4_layDown, md_X4_sell, md_X4_byTreaty, md_X4_treaty, md_X4_bestSet, md_X4_iron, md_X4_row, md_X4_firstWrong, md_X4_which, md_X4_judge, md_X4_chance, md_X4_drawn, md_X4_lots, md_X4_image, md_X4_on, md_X4_count]
def mTL : List MD := mTL_0 ++ (mTL_1 ++ (mTL_2 ++ (mTL_3 ++ (mTL_4 ++ (mTL_5 ++ (mTL_6 ++ (mTL_7)))))))
def cn : Nat → String
  | 0 => RX0
  | 1 => RX1
  | 2 => RX2
  | 3 => RX3
  | 4 => RX4
  | 5 => RL
  | 10 => RJ0
  | 11 => RJ1
  | 13 => RJ3
  | 16 => RJ6
  | 19 => RJ9
  | _ => ""
def TT : Nat → u_T
  | 0 => TX0
  | 1 => TX1
  | 2 => TX2
  | 3 => TX3
  | _ => TX4
def FdP (d : MD) : Prop := (Jvm.Cond.code d.y d.c d.ml d.rt ∈ lw_tbl ∧ Jvm.Cond.initialized d.y.cls ∈ lw_tbl) ∧ (d.y.cls = cn d.own ∧ (d.own = 19 ∨ plainName d.y.cls = true) ∧ (d.y.cls ≠ "java/lang/invoke/MethodHandle" ∧ d.y.cls ≠ "java/lang/invoke/VarHandle" ∧ (parseMethodDescriptor d.y.desc).map (fun x => x.parameters.length) = some d.na)) ∧ ((d.st = true ∧ Jvm.Cond.static d.y ∈ lw_tbl) ∨ (d.st = false ∧ Jvm.Cond.instanceMethod d.y ∈ lw_tbl ∧ Jvm.Cond.selects d.y.cls d.y d.y ∈ lw_tbl)) ∧ d.ml ≤ 15
set_option maxRecDepth 100000 in
theorem fd_J9_abs_0f7a4 : FdP md_J9_abs_0f7a4 := ⟨⟨(tm3 49 rfl), (tm1 10 rfl)⟩, ⟨rfl, Or.inl rfl, by decide +kernel, by decide +kernel, by decide +kernel⟩, Or.inl ⟨rfl, (tm3 48 rfl)⟩, by decide⟩
set_option maxRecDepth 100000 in
theorem fd_J9_max_7cf53 : FdP md_J9_max_7cf53 := ⟨⟨(tm2 11 rfl), (tm1 10 rfl)⟩, ⟨rfl, Or.inl rfl, by decide +kernel, by decide +kernel, by decide +kernel⟩, Or.inl ⟨rfl, (tm2 10 rfl)⟩, by decide⟩
set_option maxRecDepth 100000 in
theorem fd_J9_min_7cf53 : FdP md_J9_min_7cf53 := ⟨⟨(tm2 14 rfl), (tm1 10 rfl)⟩, ⟨rfl, Or.inl rfl, by decide +kernel, by decide +kernel, by decide +kernel⟩, Or.inl ⟨rfl, (tm2 13 rfl)⟩, by decide⟩
set_option maxRecDepth 100000 in
theorem fd_J6_bitCount_0f7a4 : FdP md_J6_bitCount_0f7a4 := ⟨⟨(tm3 131 rfl), (tm1 12 rfl)⟩, ⟨rfl, Or.inr (by decide +kernel), by decide +kernel, by decide +kernel, by decide +kernel⟩, Or.inl ⟨rfl, (tm3 130 rfl)⟩, by decide⟩
set_option maxRecDepth 100000 in
theorem fd_J0_length_8abf5 : FdP md_J0_length_8abf5 := ⟨⟨(tm1 167 rfl), (tm1 6 rfl)⟩, ⟨rfl, Or.inr (by decide +kernel), by decide +kernel, by decide +kernel, by decide +kernel⟩, Or.inr ⟨rfl, (tm1 165 rfl), (tm1 166 rfl)⟩, by decide⟩
set_option maxRecDepth 100000 in
theorem fd_J0_charAt_5068e : FdP md_J0_charAt_5068e := ⟨⟨(tm1 190 rfl), (tm1 6 rfl)⟩, ⟨rfl, Or.inr (by decide +kernel), by decide +kernel, by decide +kernel, by decide +kernel⟩, Or.inr ⟨rfl, (tm1 188 rfl), (tm1 189 rfl)⟩, by decide⟩
set_option maxRecDepth 100000 in
theorem fd_J0_indexOf_0f7a4 : FdP md_J0_indexOf_0f7a4 := ⟨⟨(tm1 237 rfl), (tm1 6 rfl)⟩, ⟨rfl, Or.inr (by decide +kernel), by decide +kernel, by decide +kernel, by decide +kernel⟩, Or.inr ⟨rfl, (tm1 235 rfl), (tm1 236 rfl)⟩, by decide⟩
set_option maxRecDepth 100000 in
theorem fd_J0_indexOf_7cf53 : FdP md_J0_indexOf_7cf53 := ⟨⟨(tm2 1 rfl), (tm1 6 rfl)⟩, ⟨rfl, Or.inr (by decide +kernel), by decide +kernel, by decide +kernel, by decide +kernel⟩, Or.inr ⟨rfl, (tm1 239 rfl), (tm2 0 rfl)⟩, by decide⟩
set_option maxRecDepth 100000 in
theorem fd_J0_coder_7d493 : FdP md_J0_coder_7d493 := ⟨⟨(tm1 171 rfl), (tm1 6 rfl)⟩, ⟨rfl, Or.inr (by decide +kernel), by decide +kernel, by decide +kernel, by decide +kernel⟩, Or.inr ⟨rfl, (tm1 169 rfl), (tm1 170 rfl)⟩, by decide⟩
set_option maxRecDepth 100000 in
theorem fd_J0_isLatin1_aae02 : FdP md_J0_isLatin1_aae02 := ⟨⟨(tm1 194 rfl), (tm1 6 rfl)⟩, ⟨rfl, Or.inr (by decide +kernel), by decide +kernel, by decide +kernel, by decide +kernel⟩, Or.inr ⟨rfl, (tm1 192 rfl), (tm1 193 rfl)⟩, by decide⟩
set_option maxRecDepth 100000 in
theorem fd_J0_checkIndex_df160 : FdP md_J0_checkIndex_df160 := ⟨⟨(tm1 200 rfl), (tm1 6 rfl)⟩, ⟨rfl, Or.inr (by decide +kernel), by decide +kernel, by decide +kernel, by decide +kernel⟩, Or.inl ⟨rfl, (tm1 199 rfl)⟩, by decide⟩
set_option maxRecDepth 100000 in
theorem fd_J1_charAt_3b067 : FdP md_J1_charAt_3b067 := ⟨⟨(tm1 197 rfl), (tm1 7 rfl)⟩, ⟨rfl, Or.inr (by decide +kernel), by decide +kernel, by decide +kernel, by decide +kernel⟩, Or.inl ⟨rfl, (tm1 196 rfl)⟩, by decide⟩
set_option maxRecDepth 100000 in
theorem fd_J1_canEncode_9a6ad : FdP md_J1_canEncode_9a6ad := ⟨⟨(tm2 8 rfl), (tm1 7 rfl)⟩, ⟨rfl, Or.inr (by decide +kernel), by decide +kernel, by decide +kernel, by decide +kernel⟩, Or.inl ⟨rfl, (tm2 7 rfl)⟩, by decide⟩
set_option maxRecDepth 100000 in
theorem fd_J1_indexOf_4cfef : FdP md_J1_indexOf_4cfef := ⟨⟨(tm2 5 rfl), (tm1 7 rfl)⟩, ⟨rfl, Or.inr (by decide +kernel), by decide +kernel, by decide +kernel, by decide +kernel⟩, Or.inl ⟨rfl, (tm2 4 rfl)⟩, by decide⟩
set_option maxRecDepth 100000 in
theorem fd_J1_indexOfChar_4cfef : FdP md_J1_indexOfChar_4cfef := ⟨⟨(tm2 17 rfl), (tm1 7 rfl)⟩, ⟨rfl, Or.inr (by decide +kernel), by decide +kernel, by decide +kernel, by decide +kernel⟩, Or.inl ⟨rfl, (tm2 16 rfl)⟩, by decide⟩
set_option maxRecDepth 100000 in
theorem fd_J3_checkIndex_8e157 : FdP md_J3_checkIndex_8e157 := ⟨⟨(tm1 205 rfl), (tm1 8 rfl)⟩, ⟨rfl, Or.inr (by decide +kernel), by decide +kernel, by decide +kernel, by decide +kernel⟩, Or.inl ⟨rfl, (tm1 204 rfl)⟩, by decide⟩
set_option maxRecDepth 100000 in
theorem fd_X0_become : FdP md_X0_become := ⟨⟨(tm2 64 rfl), (tm1 3 rfl)⟩, ⟨rfl, Or.inr (by decide +kernel), by decide +kernel, by decide +kernel, by decide +kernel⟩, Or.inr ⟨rfl, (tm2 62 rfl), (tm2 63 rfl)⟩, by decide⟩
set_option maxRecDepth 100000 in
theorem fd_X0_angelsPart : FdP md_X0_angelsPart := ⟨⟨(tm2 140 rfl), (tm1 3 rfl)⟩, ⟨rfl, Or.inr (by decide +kernel), by decide +kernel, by decide +kernel, by decide +kernel⟩, Or.inr ⟨rfl, (tm2 138 rfl), (tm2 139 rfl)⟩, by decide⟩
set_option maxRecDepth 100000 in
theorem fd_X0_strengthIn : FdP md_X0_strengthIn := ⟨⟨(tm2 145 rfl), (tm1 3 rfl)⟩, ⟨rfl, Or.inr (by decide +kernel), by decide +kernel, by decide +kernel, by decide +kernel⟩, Or.inr ⟨rfl, (tm2 143 rfl), (tm2 144 rfl)⟩, by decide⟩
set_option maxRecDepth 100000 in
theorem fd_X0_sentBackIn : FdP md_X0_sentBackIn := ⟨⟨(tm2 150 rfl), (tm1 3 rfl)⟩, ⟨rfl, Or.inr (by decide +kernel), by decide +kernel, by decide +kernel, by decide +kernel⟩, Or.inr ⟨rfl, (tm2 148 rfl), (tm2 149 rfl)⟩, by decide⟩
set_option maxRecDepth 100000 in
theorem fd_X0_goOn : FdP md_X0_goOn := ⟨⟨(tm2 136 rfl), (tm1 3 rfl)⟩, ⟨rfl, Or.inr (by decide +kernel), by decide +kernel, by decide +kernel, by decide +kernel⟩, Or.inr ⟨rfl, (tm2 134 rfl), (tm2 135 rfl)⟩, by decide⟩
set_option maxRecDepth 100000 in
theorem fd_X0_isHalfTheirs : FdP md_X0_isHalfTheirs := ⟨⟨(tm3 28 rfl), (tm1 3 rfl)⟩, ⟨rfl, Or.inr (by decide +kernel), by decide +kernel, by decide +kernel, by decide +kernel⟩, Or.inr ⟨rfl, (tm3 26 rfl), (tm3 27 rfl)⟩, by decide⟩
set_option maxRecDepth 100000 in
theorem fd_X0_worth : FdP md_X0_worth := ⟨⟨(tm3 46 rfl), (tm1 3 rfl)⟩, ⟨rfl, Or.inr (by decide +kernel), by decide +kernel, by decide +kernel, by decide +kernel⟩, Or.inr ⟨rfl, (tm3 44 rfl), (tm3 45 rfl)⟩, by decide⟩
set_option maxRecDepth 100000 in
theorem fd_X1_isFull : FdP md_X1_isFull := ⟨⟨(tm1 142 rfl), (tm1 4 rfl)⟩, ⟨rfl, Or.inr (by decide +kernel), by decide +kernel, by decide +kernel, by decide +kernel⟩, Or.inr ⟨rfl, (tm1 140 rfl), (tm1 141 rfl)⟩, by decide⟩
set_option maxRecDepth 100000 in
theorem fd_X1_add : FdP md_X1_add := ⟨⟨(tm1 146 rfl), (tm1 4 rfl)⟩, ⟨rfl, Or.inr (by decide +kernel), by decide +kernel, by decide +kernel, by decide +kernel⟩, Or.inr ⟨rfl, (tm1 144 rfl), (tm1 145 rfl)⟩, by decide⟩
set_option maxRecDepth 100000 in
theorem fd_X1_forget : FdP md_X1_forget := ⟨⟨(tm2 154 rfl), (tm1 4 rfl)⟩, ⟨rfl, Or.inr (by decide +kernel), by decide +kernel, by decide +kernel, by decide +kernel⟩, Or.inr ⟨rfl, (tm2 152 rfl), (tm2 153 rfl)⟩, by decide⟩
set_option maxRecDepth 100000 in
theorem fd_X1_at : FdP md_X1_at := ⟨⟨(tm1 177 rfl), (tm1 4 rfl)⟩, ⟨rfl, Or.inr (by decide +kernel), by decide +kernel, by decide +kernel, by decide +kernel⟩, Or.inr ⟨rfl, (tm1 175 rfl), (tm1 176 rfl)⟩, by decide⟩
set_option maxRecDepth 100000 in
theorem fd_X1_kind : FdP md_X1_kind := ⟨⟨(tm1 232 rfl), (tm1 4 rfl)⟩, ⟨rfl, Or.inr (by decide +kernel), by decide +kernel, by decide +kernel, by decide +kernel⟩, Or.inr ⟨rfl, (tm1 230 rfl), (tm1 231 rfl)⟩, by decide⟩
set_option maxRecDepth 100000 in
theorem fd_X1_number : FdP md_X1_number := ⟨⟨(tm2 78 rfl), (tm1 4 rfl)⟩, ⟨rfl, Or.inr (by decide +kernel), by decide +kernel, by decide +kernel, by decide +kernel⟩, Or.inr ⟨rfl, (tm2 76 rfl), (tm2 77 rfl)⟩, by decide⟩
set_option maxRecDepth 100000 in
theorem fd_X1_firstWrong : FdP md_X1_firstWrong := ⟨⟨(tm1 162 rfl), (tm1 4 rfl)⟩, ⟨rfl, Or.inr (by decide +kernel), by decide +kernel, by decide +kernel, by decide +kernel⟩, Or.inr ⟨rfl, (tm1 160 rfl), (tm1 161 rfl)⟩, by decide⟩
set_option maxRecDepth 100000 in
theorem fd_X1_fits : FdP md_X1_fits := ⟨⟨(tm1 228 rfl), (tm1 4 rfl)⟩, ⟨rfl, Or.inr (by decide +kernel), by decide +kernel, by decide +kernel, by decide +kernel⟩, Or.inr ⟨rfl, (tm1 227 rfl), (ps1 2 (q := (_, _)) rfl)⟩, by decide⟩
set_option maxRecDepth 100000 in
theorem fd_X1_shapeOf : FdP md_X1_shapeOf := ⟨⟨(tm1 180 rfl), (tm1 4 rfl)⟩, ⟨rfl, Or.inr (by decide +kernel), by decide +kernel, by decide +kernel, by decide +kernel⟩, Or.inl ⟨rfl, (tm1 179 rfl)⟩, by decide⟩
set_option maxRecDepth 100000 in
theorem fd_X2_at : FdP md_X2_at := ⟨⟨(tm2 60 rfl), (tm1 2 rfl)⟩, ⟨rfl, Or.inr (by decide +kernel), by decide +kernel, by decide +kernel, by decide +kernel⟩, Or.inr ⟨rfl, (tm2 58 rfl), (tm2 59 rfl)⟩, by decide⟩
set_option maxRecDepth 100000 in
theorem fd_X2_become : FdP md_X2_become := ⟨⟨(tm2 56 rfl), (tm1 2 rfl)⟩, ⟨rfl, Or.inr (by decide +kernel), by decide +kernel, by decide +kernel, by decide +kernel⟩, Or.inr ⟨rfl, (tm2 54 rfl), (tm2 55 rfl)⟩, by decide⟩
set_option maxRecDepth 100000 in
theorem fd_X2_caskFault : FdP md_X2_caskFault := ⟨⟨(tm2 115 rfl), (tm1 2 rfl)⟩, ⟨rfl, Or.inr (by decide +kernel), by decide +kernel, by decide +kernel, by decide +kernel⟩, Or.inr ⟨rfl, (tm2 113 rfl), (tm2 114 rfl)⟩, by decide⟩
set_option maxRecDepth 100000 in
theorem fd_X2_addCask : FdP md_X2_addCask := ⟨⟨(tm2 82 rfl), (tm1 2 rfl)⟩, ⟨rfl, Or.inr (by decide +kernel), by decide +kernel, by decide +kernel, by decide +kernel⟩, Or.inr ⟨rfl, (tm2 80 rfl), (tm2 81 rfl)⟩, by decide⟩
set_option maxRecDepth 100000 in
theorem fd_X2_chosen : FdP md_X2_chosen := ⟨⟨(tm2 171 rfl), (tm1 2 rfl)⟩, ⟨rfl, Or.inr (by decide +kernel), by decide +kernel, by decide +kernel, by decide +kernel⟩, Or.inr ⟨rfl, (tm2 169 rfl), (tm2 170 rfl)⟩, by decide⟩
set_option maxRecDepth 100000 in
theorem fd_X2_choose : FdP md_X2_choose := ⟨⟨(tm2 90 rfl), (tm1 2 rfl)⟩, ⟨rfl, Or.inr (by decide +kernel), by decide +kernel, by decide +kernel, by decide +kernel⟩, Or.inr ⟨rfl, (tm2 88 rfl), (tm2 89 rfl)⟩, by decide⟩
set_option maxRecDepth 100000 in
theorem fd_X2_pourFault : FdP md_X2_pourFault := ⟨⟨(tm2 111 rfl), (tm1 2 rfl)⟩, ⟨rfl, Or.inr (by decide +kernel), by decide +kernel, by decide +kernel, by decide +kernel⟩, Or.inr ⟨rfl, (tm2 109 rfl), (tm2 110 rfl)⟩, by decide⟩
set_option maxRecDepth 100000 in
theorem fd_X2_pouredStrength : FdP md_X2_pouredStrength := ⟨⟨(tm2 119 rfl), (tm1 2 rfl)⟩, ⟨rfl, Or.inr (by decide +kernel), by decide +kernel, by decide +kernel, by decide +kernel⟩, Or.inr ⟨rfl, (tm2 117 rfl), (tm2 118 rfl)⟩, by decide⟩
set_option maxRecDepth 100000 in
theorem fd_X2_pourOver : FdP md_X2_pourOver := ⟨⟨(tm2 107 rfl), (tm1 2 rfl)⟩, ⟨rfl, Or.inr (by decide +kernel), by decide +kernel, by decide +kernel, by decide +kernel⟩, Or.inr ⟨rfl, (tm2 105 rfl), (tm2 106 rfl)⟩, by decide⟩
set_option maxRecDepth 100000 in
theorem fd_X2_blended : FdP md_X2_blended := ⟨⟨(tm3 42 rfl), (tm1 2 rfl)⟩, ⟨rfl, Or.inr (by decide +kernel), by decide +kernel, by decide +kernel, by decide +kernel⟩, Or.inr ⟨rfl, (tm3 40 rfl), (tm3 41 rfl)⟩, by decide⟩
set_option maxRecDepth 100000 in
theorem fd_X2_rateBy : FdP md_X2_rateBy := ⟨⟨(tm2 131 rfl), (tm1 2 rfl)⟩, ⟨rfl, Or.inr (by decide +kernel), by decide +kernel, by decide +kernel, by decide +kernel⟩, Or.inr ⟨rfl, (tm2 129 rfl), (tm2 130 rfl)⟩, by decide⟩
set_option maxRecDepth 100000 in
theorem fd_X2_goOn : FdP md_X2_goOn := ⟨⟨(tm2 127 rfl), (tm1 2 rfl)⟩, ⟨rfl, Or.inr (by decide +kernel), by decide +kernel, by decide +kernel, by decide +kernel⟩, Or.inr ⟨rfl, (tm2 125 rfl), (tm2 126 rfl)⟩, by decide⟩
set_option maxRecDepth 100000 in
theorem fd_X2_liveOn : FdP md_X2_liveOn := ⟨⟨(tm2 123 rfl), (tm1 2 rfl)⟩, ⟨rfl, Or.inr (by decide +kernel), by decide +kernel, by decide +kernel, by decide +kernel⟩, Or.inr ⟨rfl, (tm2 121 rfl), (tm2 122 rfl)⟩, by decide⟩
set_option maxRecDepth 100000 in
theorem fd_X2_allAmounts : FdP md_X2_allAmounts := ⟨⟨(tm2 208 rfl), (tm1 2 rfl)⟩, ⟨rfl, Or.inr (by decide +kernel), by decide +kernel, by decide +kernel, by decide +kernel⟩, Or.inr ⟨rfl, (tm2 206 rfl), (tm2 207 rfl)⟩, by decide⟩
set_option maxRecDepth 100000 in
theorem fd_X2_allTaken : FdP md_X2_allTaken := ⟨⟨(tm2 212 rfl), (tm1 2 rfl)⟩, ⟨rfl, Or.inr (by decide +kernel), by decide +kernel, by decide +kernel, by decide +kernel⟩, Or.inr ⟨rfl, (tm2 210 rfl), (tm2 211 rfl)⟩, by decide⟩
set_option maxRecDepth 100000 in
theorem fd_X2_fullest : FdP md_X2_fullest := ⟨⟨(tm2 216 rfl), (tm1 2 rfl)⟩, ⟨rfl, Or.inr (by decide +kernel), by decide +kernel, by decide +kernel, by decide +kernel⟩, Or.inr ⟨rfl, (tm2 214 rfl), (tm2 215 rfl)⟩, by decide⟩
set_option maxRecDepth 100000 in
theorem fd_X2_dutyOf : FdP md_X2_dutyOf := ⟨⟨(tm3 7 rfl), (tm1 2 rfl)⟩, ⟨rfl, Or.inr (by decide +kernel), by decide +kernel, by decide +kernel, by decide +kernel⟩, Or.inr ⟨rfl, (tm3 5 rfl), (tm3 6 rfl)⟩, by decide⟩
set_option maxRecDepth 100000 in
theorem fd_X2_dutyOfAll : FdP md_X2_dutyOfAll := ⟨⟨(tm3 3 rfl), (tm1 2 rfl)⟩, ⟨rfl, Or.inr (by decide +kernel), by decide +kernel, by decide +kernel, by decide +kernel⟩, Or.inr ⟨rfl, (tm3 1 rfl), (tm3 2 rfl)⟩, by decide⟩
set_option maxRecDepth 100000 in
theorem fd_X3_letter : FdP md_X3_letter := ⟨⟨(tm1 135 rfl), (tm1 1 rfl)⟩, ⟨rfl, Or.inr (by decide +kernel), by decide +kernel, by decide +kernel, by decide +kernel⟩, Or.inr ⟨rfl, (tm1 133 rfl), (tm1 134 rfl)⟩, by decide⟩
set_option maxRecDepth 100000 in
theorem fd_X3_town : FdP md_X3_town := ⟨⟨(tm1 154 rfl), (tm1 1 rfl)⟩, ⟨rfl, Or.inr (by decide +kernel), by decide +kernel, by decide +kernel, by decide +kernel⟩, Or.inr ⟨rfl, (tm1 152 rfl), (tm1 153 rfl)⟩, by decide⟩
set_option maxRecDepth 100000 in
theorem fd_X3_cask : FdP md_X3_cask := ⟨⟨(tm2 159 rfl), (tm1 1 rfl)⟩, ⟨rfl, Or.inr (by decide +kernel), by decide +kernel, by decide +kernel, by decide +kernel⟩, Or.inr ⟨rfl, (tm2 157 rfl), (tm2 158 rfl)⟩, by decide⟩
set_option maxRecDepth 100000 in
theorem fd_X3_set : FdP md_X3_set := ⟨⟨(tm2 167 rfl), (tm1 1 rfl)⟩, ⟨rfl, Or.inr (by decide +kernel), by decide +kernel, by decide +kernel, by decide +kernel⟩, Or.inr ⟨rfl, (tm2 165 rfl), (tm2 166 rfl)⟩, by decide⟩
set_option maxRecDepth 100000 in
theorem fd_X3_fill : FdP md_X3_fill := ⟨⟨(tm2 175 rfl), (tm1 1 rfl)⟩, ⟨rfl, Or.inr (by decide +kernel), by decide +kernel, by decide +kernel, by decide +kernel⟩, Or.inr ⟨rfl, (tm2 173 rfl), (tm2 174 rfl)⟩, by decide⟩
set_option maxRecDepth 100000 in
theorem fd_X3_takes : FdP md_X3_takes := ⟨⟨(tm2 179 rfl), (tm1 1 rfl)⟩, ⟨rfl, Or.inr (by decide +kernel), by decide +kernel, by decide +kernel, by decide +kernel⟩, Or.inr ⟨rfl, (tm2 177 rfl), (tm2 178 rfl)⟩, by decide⟩
set_option maxRecDepth 100000 in
theorem fd_X3_pour : FdP md_X3_pour := ⟨⟨(tm2 184 rfl), (tm1 1 rfl)⟩, ⟨rfl, Or.inr (by decide +kernel), by decide +kernel, by decide +kernel, by decide +kernel⟩, Or.inr ⟨rfl, (tm2 182 rfl), (tm2 183 rfl)⟩, by decide⟩
set_option maxRecDepth 100000 in
theorem fd_X3_years : FdP md_X3_years := ⟨⟨(tm2 188 rfl), (tm1 1 rfl)⟩, ⟨rfl, Or.inr (by decide +kernel), by decide +kernel, by decide +kernel, by decide +kernel⟩, Or.inr ⟨rfl, (tm2 186 rfl), (tm2 187 rfl)⟩, by decide⟩
set_option maxRecDepth 100000 in
theorem fd_X3_behind : FdP md_X3_behind := ⟨⟨(tm2 192 rfl), (tm1 1 rfl)⟩, ⟨rfl, Or.inr (by decide +kernel), by decide +kernel, by decide +kernel, by decide +kernel⟩, Or.inr ⟨rfl, (tm2 190 rfl), (tm2 191 rfl)⟩, by decide⟩
set_option maxRecDepth 100000 in
theorem fd_X3_allBehind : FdP md_X3_allBehind := ⟨⟨(tm2 204 rfl), (tm1 1 rfl)⟩, ⟨rfl, Or.inr (by decide +kernel), by decide +kernel, by decide +kernel, by decide +kernel⟩, Or.inr ⟨rfl, (tm2 202 rfl), (tm2 203 rfl)⟩, by decide⟩
set_option maxRecDepth 100000 in
theorem fd_X3_theirs : FdP md_X3_theirs := ⟨⟨(tm2 220 rfl), (tm1 1 rfl)⟩, ⟨rfl, Or.inr (by decide +kernel), by decide +kernel, by decide +kernel, by decide +kernel⟩, Or.inr ⟨rfl, (tm2 218 rfl), (tm2 219 rfl)⟩, by decide⟩
set_option maxRecDepth 100000 in
theorem fd_X3_excise : FdP md_X3_excise := ⟨⟨(tm2 239 rfl), (tm1 1 rfl)⟩, ⟨rfl, Or.inr (by decide +kernel), by decide +kernel, by decide +kernel, by decide +kernel⟩, Or.inr ⟨rfl, (tm2 237 rfl), (tm2 238 rfl)⟩, by decide⟩
set_option maxRecDepth 100000 in
theorem fd_X3_exciseIn : FdP md_X3_exciseIn := ⟨⟨(tm3 12 rfl), (tm1 1 rfl)⟩, ⟨rfl, Or.inr (by decide +kernel), by decide +kernel, by decide +kernel, by decide +kernel⟩, Or.inr ⟨rfl, (tm3 10 rfl), (tm3 11 rfl)⟩, by decide⟩
set_option maxRecDepth 100000 in
theorem fd_X3_low : FdP md_X3_low := ⟨⟨(tm3 16 rfl), (tm1 1 rfl)⟩, ⟨rfl, Or.inr (by decide +kernel), by decide +kernel, by decide +kernel, by decide +kernel⟩, Or.inr ⟨rfl, (tm3 14 rfl), (tm3 15 rfl)⟩, by decide⟩
set_option maxRecDepth 100000 in
theorem fd_X3_turns : FdP md_X3_turns := ⟨⟨(tm3 20 rfl), (tm1 1 rfl)⟩, ⟨rfl, Or.inr (by decide +kernel), by decide +kernel, by decide +kernel, by decide +kernel⟩, Or.inr ⟨rfl, (tm3 18 rfl), (tm3 19 rfl)⟩, by decide⟩
set_option maxRecDepth 100000 in
theorem fd_X3_hum : FdP md_X3_hum := ⟨⟨(tm3 24 rfl), (tm1 1 rfl)⟩, ⟨rfl, Or.inr (by decide +kernel), by decide +kernel, by decide +kernel, by decide +kernel⟩, Or.inr ⟨rfl, (tm3 22 rfl), (tm3 23 rfl)⟩, by decide⟩
set_option maxRecDepth 100000 in
theorem fd_X3_pourFor : FdP md_X3_pourFor := ⟨⟨(tm3 32 rfl), (tm1 1 rfl)⟩, ⟨rfl, Or.inr (by decide +kernel), by decide +kernel, by decide +kernel, by decide +kernel⟩, Or.inr ⟨rfl, (tm3 30 rfl), (tm3 31 rfl)⟩, by decide⟩
set_option maxRecDepth 100000 in
theorem fd_X3_blend : FdP md_X3_blend := ⟨⟨(tm3 38 rfl), (tm1 1 rfl)⟩, ⟨rfl, Or.inr (by decide +kernel), by decide +kernel, by decide +kernel, by decide +kernel⟩, Or.inr ⟨rfl, (tm3 36 rfl), (tm3 37 rfl)⟩, by decide⟩
set_option maxRecDepth 100000 in
theorem fd_X3_spread : FdP md_X3_spread := ⟨⟨(tm3 53 rfl), (tm1 1 rfl)⟩, ⟨rfl, Or.inr (by decide +kernel), by decide +kernel, by decide +kernel, by decide +kernel⟩, Or.inr ⟨rfl, (tm3 51 rfl), (tm3 52 rfl)⟩, by decide⟩
set_option maxRecDepth 100000 in
theorem fd_X3_layDown : FdP md_X3_layDown := ⟨⟨(tm3 59 rfl), (tm1 1 rfl)⟩, ⟨rfl, Or.inr (by decide +kernel), by decide +kernel, by decide +kernel, by decide +kernel⟩, Or.inr ⟨rfl, (tm3 57 rfl), (tm3 58 rfl)⟩, by decide⟩
set_option maxRecDepth 100000 in
theorem fd_X3_sell : FdP md_X3_sell := ⟨⟨(tm3 64 rfl), (tm1 1 rfl)⟩, ⟨rfl, Or.inr (by decide +kernel), by decide +kernel, by decide +kernel, by decide +kernel⟩, Or.inr ⟨rfl, (tm3 62 rfl), (tm3 63 rfl)⟩, by decide⟩
set_option maxRecDepth 100000 in
theorem fd_X3_treaty : FdP md_X3_treaty := ⟨⟨(tm3 72 rfl), (tm1 1 rfl)⟩, ⟨rfl, Or.inr (by decide +kernel), by decide +kernel, by decide +kernel, by decide +kernel⟩, Or.inr ⟨rfl, (tm3 70 rfl), (tm3 71 rfl)⟩, by decide⟩
set_option maxRecDepth 100000 in
theorem fd_X3_bestSet : FdP md_X3_bestSet := ⟨⟨(tm3 84 rfl), (tm1 1 rfl)⟩, ⟨rfl, Or.inr (by decide +kernel), by decide +kernel, by decide +kernel, by decide +kernel⟩, Or.inr ⟨rfl, (tm3 82 rfl), (tm3 83 rfl)⟩, by decide⟩
set_option maxRecDepth 100000 in
theorem fd_X3_iron : FdP md_X3_iron := ⟨⟨(tm3 90 rfl), (tm1 1 rfl)⟩, ⟨rfl, Or.inr (by decide +kernel), by decide +kernel, by decide +kernel, by decide +kernel⟩, Or.inr ⟨rfl, (tm3 88 rfl), (tm3 89 rfl)⟩, by decide⟩
set_option maxRecDepth 100000 in
theorem fd_X3_row : FdP md_X3_row := ⟨⟨(tm3 94 rfl), (tm1 1 rfl)⟩, ⟨rfl, Or.inr (by decide +kernel), by decide +kernel, by decide +kernel, by decide +kernel⟩, Or.inr ⟨rfl, (tm3 92 rfl), (tm3 93 rfl)⟩, by decide⟩
set_option maxRecDepth 100000 in
theorem fd_X3_which : FdP md_X3_which := ⟨⟨(tm3 98 rfl), (tm1 1 rfl)⟩, ⟨rfl, Or.inr (by decide +kernel), by decide +kernel, by decide +kernel, by decide +kernel⟩, Or.inr ⟨rfl, (tm3 96 rfl), (tm3 97 rfl)⟩, by decide⟩
set_option maxRecDepth 100000 in
theorem fd_X3_judge : FdP md_X3_judge := ⟨⟨(tm3 114 rfl), (tm1 1 rfl)⟩, ⟨rfl, Or.inr (by decide +kernel), by decide +kernel, by decide +kernel, by decide +kernel⟩, Or.inr ⟨rfl, (tm3 112 rfl), (tm3 113 rfl)⟩, by decide⟩
set_option maxRecDepth 100000 in
theorem fd_X3_chance : FdP md_X3_chance := ⟨⟨(tm3 118 rfl), (tm1 1 rfl)⟩, ⟨rfl, Or.inr (by decide +kernel), by decide +kernel, by decide +kernel, by decide +kernel⟩, Or.inr ⟨rfl, (tm3 116 rfl), (tm3 117 rfl)⟩, by decide⟩
set_option maxRecDepth 100000 in
theorem fd_X3_lots : FdP md_X3_lots := ⟨⟨(tm3 141 rfl), (tm1 1 rfl)⟩, ⟨rfl, Or.inr (by decide +kernel), by decide +kernel, by decide +kernel, by decide +kernel⟩, Or.inr ⟨rfl, (tm3 139 rfl), (tm3 140 rfl)⟩, by decide⟩
set_option maxRecDepth 100000 in
theorem fd_X3_image : FdP md_X3_image := ⟨⟨(tm3 154 rfl), (tm1 1 rfl)⟩, ⟨rfl, Or.inr (by decide +kernel), by decide +kernel, by decide +kernel, by decide +kernel⟩, Or.inr ⟨rfl, (tm3 152 rfl), (tm3 153 rfl)⟩, by decide⟩
set_option maxRecDepth 100000 in
theorem fd_X3_on : FdP md_X3_on := ⟨⟨(tm3 158 rfl), (tm1 1 rfl)⟩, ⟨rfl, Or.inr (by decide +kernel), by decide +kernel, by decide +kernel, by decide +kernel⟩, Or.inr ⟨rfl, (tm3 156 rfl), (tm3 157 rfl)⟩, by decide⟩
set_option maxRecDepth 100000 in
theorem fd_X3_count : FdP md_X3_count := ⟨⟨(tm3 162 rfl), (tm1 1 rfl)⟩, ⟨rfl, Or.inr (by decide +kernel), by decide +kernel, by decide +kernel, by decide +kernel⟩, Or.inr ⟨rfl, (tm3 160 rfl), (tm3 161 rfl)⟩, by decide⟩
set_option maxRecDepth 100000 in
theorem fd_X3_refuse : FdP md_X3_refuse := ⟨⟨(tm1 150 rfl), (tm1 1 rfl)⟩, ⟨rfl, Or.inr (by decide +kernel), by decide +kernel, by decide +kernel, by decide +kernel⟩, Or.inr ⟨rfl, (tm1 149 rfl), (ps1 0 (q := (_, _)) rfl)⟩, by decide⟩
set_option maxRecDepth 100000 in
theorem fd_X3_refuseLong : FdP md_X3_refuseLong := ⟨⟨(tm2 228 rfl), (tm1 1 rfl)⟩, ⟨rfl, Or.inr (by decide +kernel), by decide +kernel, by decide +kernel, by decide +kernel⟩, Or.inr ⟨rfl, (tm2 227 rfl), (ps1 8 (q := (_, _)) rfl)⟩, by decide⟩
set_option maxRecDepth 100000 in
theorem fd_X3_refused : FdP md_X3_refused := ⟨⟨(tm3 166 rfl), (tm1 1 rfl)⟩, ⟨rfl, Or.inr (by decide +kernel), by decide +kernel, by decide +kernel, by decide +kernel⟩, Or.inr ⟨rfl, (tm3 165 rfl), (ps2 0 (q := (_, _)) rfl)⟩, by decide⟩
set_option maxRecDepth 100000 in
theorem fd_X3_firstOf : FdP md_X3_firstOf := ⟨⟨(tm2 86 rfl), (tm1 1 rfl)⟩, ⟨rfl, Or.inr (by decide +kernel), by decide +kernel, by decide +kernel, by decide +kernel⟩, Or.inl ⟨rfl, (tm2 85 rfl)⟩, by decide⟩
set_option maxRecDepth 100000 in
theorem fd_X3_rangeFault : FdP md_X3_rangeFault := ⟨⟨(tm1 138 rfl), (tm1 1 rfl)⟩, ⟨rfl, Or.inr (by decide +kernel), by decide +kernel, by decide +kernel, by decide +kernel⟩, Or.inl ⟨rfl, (tm1 137 rfl)⟩, by decide⟩
set_option maxRecDepth 100000 in
theorem fd_X3_whatFault : FdP md_X3_whatFault := ⟨⟨(tm2 93 rfl), (tm1 1 rfl)⟩, ⟨rfl, Or.inr (by decide +kernel), by decide +kernel, by decide +kernel, by decide +kernel⟩, Or.inl ⟨rfl, (tm2 92 rfl)⟩, by decide⟩
set_option maxRecDepth 100000 in
theorem fd_X3_yearsFault : FdP md_X3_yearsFault := ⟨⟨(tm2 195 rfl), (tm1 1 rfl)⟩, ⟨rfl, Or.inr (by decide +kernel), by decide +kernel, by decide +kernel, by decide +kernel⟩, Or.inl ⟨rfl, (tm2 194 rfl)⟩, by decide⟩
set_option maxRecDepth 100000 in
theorem fd_X3_caskOrAllFault : FdP md_X3_caskOrAllFault := ⟨⟨(tm2 224 rfl), (tm1 1 rfl)⟩, ⟨rfl, Or.inr (by decide +kernel), by decide +kernel, by decide +kernel, by decide +kernel⟩, Or.inr ⟨rfl, (tm2 223 rfl), (ps1 7 (q := (_, _)) rfl)⟩, by decide⟩
set_option maxRecDepth 100000 in
theorem fd_X3_chanceFault : FdP md_X3_chanceFault := ⟨⟨(tm3 121 rfl), (tm1 1 rfl)⟩, ⟨rfl, Or.inr (by decide +kernel), by decide +kernel, by decide +kernel, by decide +kernel⟩, Or.inl ⟨rfl, (tm3 120 rfl)⟩, by decide⟩
set_option maxRecDepth 100000 in
theorem fd_X3_leastChoice : FdP md_X3_leastChoice := ⟨⟨(tm2 96 rfl), (tm1 1 rfl)⟩, ⟨rfl, Or.inr (by decide +kernel), by decide +kernel, by decide +kernel, by decide +kernel⟩, Or.inl ⟨rfl, (tm2 95 rfl)⟩, by decide⟩
set_option maxRecDepth 100000 in
theorem fd_X3_mostChoice : FdP md_X3_mostChoice := ⟨⟨(tm2 99 rfl), (tm1 1 rfl)⟩, ⟨rfl, Or.inr (by decide +kernel), by decide +kernel, by decide +kernel, by decide +kernel⟩, Or.inl ⟨rfl, (tm2 98 rfl)⟩, by decide⟩
set_option maxRecDepth 100000 in
theorem fd_X3_readLetters : FdP md_X3_readLetters := ⟨⟨(tm1 158 rfl), (tm1 1 rfl)⟩, ⟨rfl, Or.inr (by decide +kernel), by decide +kernel, by decide +kernel, by decide +kernel⟩, Or.inr ⟨rfl, (tm1 157 rfl), (ps1 1 (q := (_, _)) rfl)⟩, by decide⟩
set_option maxRecDepth 100000 in
theorem fd_X3_statementFault : FdP md_X3_statementFault := ⟨⟨(tm2 69 rfl), (tm1 1 rfl)⟩, ⟨rfl, Or.inr (by decide +kernel), by decide +kernel, by decide +kernel, by decide +kernel⟩, Or.inr ⟨rfl, (tm2 68 rfl), (ps1 3 (q := (_, _)) rfl)⟩, by decide⟩
set_option maxRecDepth 100000 in
theorem fd_X3_caskComes : FdP md_X3_caskComes := ⟨⟨(tm2 73 rfl), (tm1 1 rfl)⟩, ⟨rfl, Or.inr (by decide +kernel), by decide +kernel, by decide +kernel, by decide +kernel⟩, Or.inr ⟨rfl, (tm2 72 rfl), (ps1 4 (q := (_, _)) rfl)⟩, by decide⟩
set_option maxRecDepth 100000 in
theorem fd_X3_pourComes : FdP md_X3_pourComes := ⟨⟨(tm2 103 rfl), (tm1 1 rfl)⟩, ⟨rfl, Or.inr (by decide +kernel), by decide +kernel, by decide +kernel, by decide +kernel⟩, Or.inr ⟨rfl, (tm2 102 rfl), (ps1 5 (q := (_, _)) rfl)⟩, by decide⟩
set_option maxRecDepth 100000 in
theorem fd_X3_thinkOn : FdP md_X3_thinkOn := ⟨⟨(tm2 199 rfl), (tm1 1 rfl)⟩, ⟨rfl, Or.inr (by decide +kernel), by decide +kernel, by decide +kernel, by decide +kernel⟩, Or.inr ⟨rfl, (tm2 198 rfl), (ps1 6 (q := (_, _)) rfl)⟩, by decide⟩
set_option maxRecDepth 100000 in
theorem fd_X3_keepsLess : FdP md_X3_keepsLess := ⟨⟨(tm3 68 rfl), (tm1 1 rfl)⟩, ⟨rfl, Or.inr (by decide +kernel), by decide +kernel, by decide +kernel, by decide +kernel⟩, Or.inr ⟨rfl, (tm3 67 rfl), (ps1 9 (q := (_, _)) rfl)⟩, by decide⟩
set_option maxRecDepth 100000 in
theorem fd_X3_thinkTreaty : FdP md_X3_thinkTreaty := ⟨⟨(tm3 80 rfl), (tm1 1 rfl)⟩, ⟨rfl, Or.inr (by decide +kernel), by decide +kernel, by decide +kernel, by decide +kernel⟩, Or.inr ⟨rfl, (tm3 79 rfl), (ps1 11 (q := (_, _)) rfl)⟩, by decide⟩
set_option maxRecDepth 100000 in
theorem fd_X3_bothKeep : FdP md_X3_bothKeep := ⟨⟨(tm3 76 rfl), (tm1 1 rfl)⟩, ⟨rfl, Or.inr (by decide +kernel), by decide +kernel, by decide +kernel, by decide +kernel⟩, Or.inr ⟨rfl, (tm3 75 rfl), (ps1 10 (q := (_, _)) rfl)⟩, by decide⟩
set_option maxRecDepth 100000 in
theorem fd_X3_firstNotSo : FdP md_X3_firstNotSo := ⟨⟨(tm3 106 rfl), (tm1 1 rfl)⟩, ⟨rfl, Or.inr (by decide +kernel), by decide +kernel, by decide +kernel, by decide +kernel⟩, Or.inr ⟨rfl, (tm3 105 rfl), (ps1 13 (q := (_, _)) rfl)⟩, by decide⟩
set_option maxRecDepth 100000 in
theorem fd_X3_kindsByRow : FdP md_X3_kindsByRow := ⟨⟨(tm3 102 rfl), (tm1 1 rfl)⟩, ⟨rfl, Or.inr (by decide +kernel), by decide +kernel, by decide +kernel, by decide +kernel⟩, Or.inr ⟨rfl, (tm3 101 rfl), (ps1 12 (q := (_, _)) rfl)⟩, by decide⟩
set_option maxRecDepth 100000 in
theorem fd_X3_ratesByRow : FdP md_X3_ratesByRow := ⟨⟨(tm3 110 rfl), (tm1 1 rfl)⟩, ⟨rfl, Or.inr (by decide +kernel), by decide +kernel, by decide +kernel, by decide +kernel⟩, Or.inr ⟨rfl, (tm3 109 rfl), (ps1 14 (q := (_, _)) rfl)⟩, by decide⟩
set_option maxRecDepth 100000 in
theorem fd_X3_amountByLents : FdP md_X3_amountByLents := ⟨⟨(tm3 125 rfl), (tm1 1 rfl)⟩, ⟨rfl, Or.inr (by decide +kernel), by decide +kernel, by decide +kernel, by decide +kernel⟩, Or.inr ⟨rfl, (tm3 124 rfl), (ps1 15 (q := (_, _)) rfl)⟩, by decide⟩
set_option maxRecDepth 100000 in
theorem fd_X3_nextSeed : FdP md_X3_nextSeed := ⟨⟨(tm3 144 rfl), (tm1 1 rfl)⟩, ⟨rfl, Or.inr (by decide +kernel), by decide +kernel, by decide +kernel, by decide +kernel⟩, Or.inl ⟨rfl, (tm3 143 rfl)⟩, by decide⟩
set_option maxRecDepth 100000 in
theorem fd_X3_drawn : FdP md_X3_drawn := ⟨⟨(tm3 149 rfl), (tm1 1 rfl)⟩, ⟨rfl, Or.inr (by decide +kernel), by decide +kernel, by decide +kernel, by decide +kernel⟩, Or.inl ⟨rfl, (tm3 148 rfl)⟩, by decide⟩
set_option maxRecDepth 100000 in
theorem fd_X3_power : FdP md_X3_power := ⟨⟨(tm3 137 rfl), (tm1 1 rfl)⟩, ⟨rfl, Or.inr (by decide +kernel), by decide +kernel, by decide +kernel, by decide +kernel⟩, Or.inl ⟨rfl, (tm3 136 rfl)⟩, by decide⟩
set_option maxRecDepth 100000 in
theorem fd_X3_partOf : FdP md_X3_partOf := ⟨⟨(tm2 232 rfl), (tm1 1 rfl)⟩, ⟨rfl, Or.inr (by decide +kernel), by decide +kernel, by decide +kernel, by decide +kernel⟩, Or.inl ⟨rfl, (tm2 231 rfl)⟩, by decide⟩
set_option maxRecDepth 100000 in
theorem fd_X3_commonDivisor : FdP md_X3_commonDivisor := ⟨⟨(tm2 235 rfl), (tm1 1 rfl)⟩, ⟨rfl, Or.inr (by decide +kernel), by decide +kernel, by decide +kernel, by decide +kernel⟩, Or.inl ⟨rfl, (tm2 234 rfl)⟩, by decide⟩
set_option maxRecDepth 100000 in
theorem fd_X4_isIn : FdP md_X4_isIn := ⟨⟨(tm4 12 rfl), (tm1 5 rfl)⟩, ⟨rfl, Or.inr (by decide +kernel), by decide +kernel, by decide +kernel, by decide +kernel⟩, Or.inl ⟨rfl, (tm4 11 rfl)⟩, by decide⟩
set_option maxRecDepth 100000 in
theorem fd_X4_least : FdP md_X4_least := ⟨⟨(tm4 53 rfl), (tm1 5 rfl)⟩, ⟨rfl, Or.inr (by decide +kernel), by decide +kernel, by decide +kernel, by decide +kernel⟩, Or.inl ⟨rfl, (tm4 52 rfl)⟩, by decide⟩
set_option maxRecDepth 100000 in
theorem fd_X4_size : FdP md_X4_size := ⟨⟨(tm4 157 rfl), (tm1 5 rfl)⟩, ⟨rfl, Or.inr (by decide +kernel), by decide +kernel, by decide +kernel, by decide +kernel⟩, Or.inl ⟨rfl, (tm4 156 rfl)⟩, by decide⟩
set_option maxRecDepth 100000 in
theorem fd_X4_lays : FdP md_X4_lays := ⟨⟨(tm4 15 rfl), (tm1 5 rfl)⟩, ⟨rfl, Or.inr (by decide +kernel), by decide +kernel, by decide +kernel, by decide +kernel⟩, Or.inl ⟨rfl, (tm4 14 rfl)⟩, by decide⟩
set_option maxRecDepth 100000 in
theorem fd_X4_no : FdP md_X4_no := ⟨⟨(tm3 226 rfl), (tm1 5 rfl)⟩, ⟨rfl, Or.inr (by decide +kernel), by decide +kernel, by decide +kernel, by decide +kernel⟩, Or.inr ⟨rfl, (tm3 225 rfl), (ps2 1 (q := (_, _)) rfl)⟩, by decide⟩
set_option maxRecDepth 100000 in
theorem fd_X4_noWide : FdP md_X4_noWide := ⟨⟨(tm4 112 rfl), (tm1 5 rfl)⟩, ⟨rfl, Or.inr (by decide +kernel), by decide +kernel, by decide +kernel, by decide +kernel⟩, Or.inr ⟨rfl, (tm4 111 rfl), (ps2 15 (q := (_, _)) rfl)⟩, by decide⟩
set_option maxRecDepth 100000 in
theorem fd_X4_isCask : FdP md_X4_isCask := ⟨⟨(tm4 26 rfl), (tm1 5 rfl)⟩, ⟨rfl, Or.inr (by decide +kernel), by decide +kernel, by decide +kernel, by decide +kernel⟩, Or.inr ⟨rfl, (tm4 25 rfl), (ps2 7 (q := (_, _)) rfl)⟩, by decide⟩
set_option maxRecDepth 100000 in
theorem fd_X4_at : FdP md_X4_at := ⟨⟨(tm4 22 rfl), (tm1 5 rfl)⟩, ⟨rfl, Or.inr (by decide +kernel), by decide +kernel, by decide +kernel, by decide +kernel⟩, Or.inl ⟨rfl, (tm4 21 rfl)⟩, by decide⟩
set_option maxRecDepth 100000 in
theorem fd_X4_takesOf : FdP md_X4_takesOf := ⟨⟨(tm4 56 rfl), (tm1 5 rfl)⟩, ⟨rfl, Or.inr (by decide +kernel), by decide +kernel, by decide +kernel, by decide +kernel⟩, Or.inl ⟨rfl, (tm4 55 rfl)⟩, by decide⟩
set_option maxRecDepth 100000 in
theorem fd_X4_strengthOf : FdP md_X4_strengthOf := ⟨⟨(tm4 59 rfl), (tm1 5 rfl)⟩, ⟨rfl, Or.inr (by decide +kernel), by decide +kernel, by decide +kernel, by decide +kernel⟩, Or.inl ⟨rfl, (tm4 58 rfl)⟩, by decide⟩
set_option maxRecDepth 100000 in
theorem fd_X4_backOf : FdP md_X4_backOf := ⟨⟨(tm4 62 rfl), (tm1 5 rfl)⟩, ⟨rfl, Or.inr (by decide +kernel), by decide +kernel, by decide +kernel, by decide +kernel⟩, Or.inl ⟨rfl, (tm4 61 rfl)⟩, by decide⟩
set_option maxRecDepth 100000 in
theorem fd_X4_yearBy : FdP md_X4_yearBy := ⟨⟨(tm4 50 rfl), (tm1 5 rfl)⟩, ⟨rfl, Or.inr (by decide +kernel), by decide +kernel, by decide +kernel, by decide +kernel⟩, Or.inr ⟨rfl, (tm4 49 rfl), (ps2 13 (q := (_, _)) rfl)⟩, by decide⟩
set_option maxRecDepth 100000 in
theorem fd_X4_year : FdP md_X4_year := ⟨⟨(tm4 46 rfl), (tm1 5 rfl)⟩, ⟨rfl, Or.inr (by decide +kernel), by decide +kernel, by decide +kernel, by decide +kernel⟩, Or.inr ⟨rfl, (tm4 45 rfl), (ps2 12 (q := (_, _)) rfl)⟩, by decide⟩
set_option maxRecDepth 100000 in
theorem fd_X4_yearsOn : FdP md_X4_yearsOn := ⟨⟨(tm4 42 rfl), (tm1 5 rfl)⟩, ⟨rfl, Or.inr (by decide +kernel), by decide +kernel, by decide +kernel, by decide +kernel⟩, Or.inr ⟨rfl, (tm4 41 rfl), (ps2 11 (q := (_, _)) rfl)⟩, by decide⟩
set_option maxRecDepth 100000 in
theorem fd_X4_inMind : FdP md_X4_inMind := ⟨⟨(tm4 97 rfl), (tm1 5 rfl)⟩, ⟨rfl, Or.inr (by decide +kernel), by decide +kernel, by decide +kernel, by decide +kernel⟩, Or.inr ⟨rfl, (tm4 96 rfl), (ps2 14 (q := (_, _)) rfl)⟩, by decide⟩
set_option maxRecDepth 100000 in
theorem fd_X4_sumOf : FdP md_X4_sumOf := ⟨⟨(tm4 104 rfl), (tm1 5 rfl)⟩, ⟨rfl, Or.inr (by decide +kernel), by decide +kernel, by decide +kernel, by decide +kernel⟩, Or.inl ⟨rfl, (tm4 103 rfl)⟩, by decide⟩
set_option maxRecDepth 100000 in
theorem fd_X4_letter : FdP md_X4_letter := ⟨⟨(tm3 222 rfl), (tm1 5 rfl)⟩, ⟨rfl, Or.inr (by decide +kernel), by decide +kernel, by decide +kernel, by decide +kernel⟩, Or.inr ⟨rfl, (tm3 220 rfl), (tm3 221 rfl)⟩, by decide⟩
set_option maxRecDepth 100000 in
theorem fd_X4_here : FdP md_X4_here := ⟨⟨(tm3 238 rfl), (tm1 5 rfl)⟩, ⟨rfl, Or.inr (by decide +kernel), by decide +kernel, by decide +kernel, by decide +kernel⟩, Or.inr ⟨rfl, (tm3 237 rfl), (ps2 3 (q := (_, _)) rfl)⟩, by decide⟩
set_option maxRecDepth 100000 in
theorem fd_X4_readsNumber : FdP md_X4_readsNumber := ⟨⟨(tm4 9 rfl), (tm1 5 rfl)⟩, ⟨rfl, Or.inr (by decide +kernel), by decide +kernel, by decide +kernel, by decide +kernel⟩, Or.inr ⟨rfl, (tm4 8 rfl), (ps2 5 (q := (_, _)) rfl)⟩, by decide⟩
set_option maxRecDepth 100000 in
theorem fd_X4_kindOf : FdP md_X4_kindOf := ⟨⟨(tm4 5 rfl), (tm1 5 rfl)⟩, ⟨rfl, Or.inr (by decide +kernel), by decide +kernel, by decide +kernel, by decide +kernel⟩, Or.inl ⟨rfl, (tm4 4 rfl)⟩, by decide⟩
set_option maxRecDepth 100000 in
theorem fd_X4_readsKind : FdP md_X4_readsKind := ⟨⟨(tm4 2 rfl), (tm1 5 rfl)⟩, ⟨rfl, Or.inr (by decide +kernel), by decide +kernel, by decide +kernel, by decide +kernel⟩, Or.inr ⟨rfl, (tm4 1 rfl), (ps2 4 (q := (_, _)) rfl)⟩, by decide⟩
set_option maxRecDepth 100000 in
theorem fd_X4_readsStatement : FdP md_X4_readsStatement := ⟨⟨(tm3 234 rfl), (tm1 5 rfl)⟩, ⟨rfl, Or.inr (by decide +kernel), by decide +kernel, by decide +kernel, by decide +kernel⟩, Or.inr ⟨rfl, (tm3 233 rfl), (ps2 2 (q := (_, _)) rfl)⟩, by decide⟩
set_option maxRecDepth 100000 in
theorem fd_X4_canPour : FdP md_X4_canPour := ⟨⟨(tm4 30 rfl), (tm1 5 rfl)⟩, ⟨rfl, Or.inr (by decide +kernel), by decide +kernel, by decide +kernel, by decide +kernel⟩, Or.inr ⟨rfl, (tm4 29 rfl), (ps2 8 (q := (_, _)) rfl)⟩, by decide⟩
set_option maxRecDepth 100000 in
theorem fd_X4_mixed : FdP md_X4_mixed := ⟨⟨(tm4 38 rfl), (tm1 5 rfl)⟩, ⟨rfl, Or.inr (by decide +kernel), by decide +kernel, by decide +kernel, by decide +kernel⟩, Or.inr ⟨rfl, (tm4 37 rfl), (ps2 10 (q := (_, _)) rfl)⟩, by decide⟩
set_option maxRecDepth 100000 in
theorem fd_X4_pours : FdP md_X4_pours := ⟨⟨(tm4 34 rfl), (tm1 5 rfl)⟩, ⟨rfl, Or.inr (by decide +kernel), by decide +kernel, by decide +kernel, by decide +kernel⟩, Or.inr ⟨rfl, (tm4 33 rfl), (ps2 9 (q := (_, _)) rfl)⟩, by decide⟩
set_option maxRecDepth 100000 in
theorem fd_X4_isDone : FdP md_X4_isDone := ⟨⟨(tm4 19 rfl), (tm1 5 rfl)⟩, ⟨rfl, Or.inr (by decide +kernel), by decide +kernel, by decide +kernel, by decide +kernel⟩, Or.inr ⟨rfl, (tm4 18 rfl), (ps2 6 (q := (_, _)) rfl)⟩, by decide⟩
set_option maxRecDepth 100000 in
theorem fd_X4_town : FdP md_X4_town := ⟨⟨(tm3 230 rfl), (tm1 5 rfl)⟩, ⟨rfl, Or.inr (by decide +kernel), by decide +kernel, by decide +kernel, by decide +kernel⟩, Or.inr ⟨rfl, (tm3 228 rfl), (tm3 229 rfl)⟩, by decide⟩
set_option maxRecDepth 100000 in
theorem fd_X4_cask : FdP md_X4_cask := ⟨⟨(tm4 66 rfl), (tm1 5 rfl)⟩, ⟨rfl, Or.inr (by decide +kernel), by decide +kernel, by decide +kernel, by decide +kernel⟩, Or.inr ⟨rfl, (tm4 64 rfl), (tm4 65 rfl)⟩, by decide⟩
set_option maxRecDepth 100000 in
theorem fd_X4_set : FdP md_X4_set := ⟨⟨(tm4 70 rfl), (tm1 5 rfl)⟩, ⟨rfl, Or.inr (by decide +kernel), by decide +kernel, by decide +kernel, by decide +kernel⟩, Or.inr ⟨rfl, (tm4 68 rfl), (tm4 69 rfl)⟩, by decide⟩
set_option maxRecDepth 100000 in
theorem fd_X4_fill : FdP md_X4_fill := ⟨⟨(tm4 74 rfl), (tm1 5 rfl)⟩, ⟨rfl, Or.inr (by decide +kernel), by decide +kernel, by decide +kernel, by decide +kernel⟩, Or.inr ⟨rfl, (tm4 72 rfl), (tm4 73 rfl)⟩, by decide⟩
set_option maxRecDepth 100000 in
theorem fd_X4_takes : FdP md_X4_takes := ⟨⟨(tm4 78 rfl), (tm1 5 rfl)⟩, ⟨rfl, Or.inr (by decide +kernel), by decide +kernel, by decide +kernel, by decide +kernel⟩, Or.inr ⟨rfl, (tm4 76 rfl), (tm4 77 rfl)⟩, by decide⟩
set_option maxRecDepth 100000 in
theorem fd_X4_pour : FdP md_X4_pour := ⟨⟨(tm4 82 rfl), (tm1 5 rfl)⟩, ⟨rfl, Or.inr (by decide +kernel), by decide +kernel, by decide +kernel, by decide +kernel⟩, Or.inr ⟨rfl, (tm4 80 rfl), (tm4 81 rfl)⟩, by decide⟩
set_option maxRecDepth 100000 in
theorem fd_X4_years : FdP md_X4_years := ⟨⟨(tm4 86 rfl), (tm1 5 rfl)⟩, ⟨rfl, Or.inr (by decide +kernel), by decide +kernel, by decide +kernel, by decide +kernel⟩, Or.inr ⟨rfl, (tm4 84 rfl), (tm4 85 rfl)⟩, by decide⟩
set_option maxRecDepth 100000 in
theorem fd_X4_wrongYears : FdP md_X4_wrongYears := ⟨⟨(tm4 93 rfl), (tm1 5 rfl)⟩, ⟨rfl, Or.inr (by decide +kernel), by decide +kernel, by decide +kernel, by decide +kernel⟩, Or.inl ⟨rfl, (tm4 92 rfl)⟩, by decide⟩
set_option maxRecDepth 100000 in
theorem fd_X4_behind : FdP md_X4_behind := ⟨⟨(tm4 90 rfl), (tm1 5 rfl)⟩, ⟨rfl, Or.inr (by decide +kernel), by decide +kernel, by decide +kernel, by decide +kernel⟩, Or.inr ⟨rfl, (tm4 88 rfl), (tm4 89 rfl)⟩, by decide⟩
set_option maxRecDepth 100000 in
theorem fd_X4_allBehind : FdP md_X4_allBehind := ⟨⟨(tm4 101 rfl), (tm1 5 rfl)⟩, ⟨rfl, Or.inr (by decide +kernel), by decide +kernel, by decide +kernel, by decide +kernel⟩, Or.inr ⟨rfl, (tm4 99 rfl), (tm4 100 rfl)⟩, by decide⟩
set_option maxRecDepth 100000 in
theorem fd_X4_gcd : FdP md_X4_gcd := ⟨⟨(tm4 119 rfl), (tm1 5 rfl)⟩, ⟨rfl, Or.inr (by decide +kernel), by decide +kernel, by decide +kernel, by decide +kernel⟩, Or.inl ⟨rfl, (tm4 118 rfl)⟩, by decide⟩
set_option maxRecDepth 100000 in
theorem fd_X4_partOf : FdP md_X4_partOf := ⟨⟨(tm4 116 rfl), (tm1 5 rfl)⟩, ⟨rfl, Or.inr (by decide +kernel), by decide +kernel, by decide +kernel, by decide +kernel⟩, Or.inl ⟨rfl, (tm4 115 rfl)⟩, by decide⟩
set_option maxRecDepth 100000 in
theorem fd_X4_theirs : FdP md_X4_theirs := ⟨⟨(tm4 108 rfl), (tm1 5 rfl)⟩, ⟨rfl, Or.inr (by decide +kernel), by decide +kernel, by decide +kernel, by decide +kernel⟩, Or.inr ⟨rfl, (tm4 106 rfl), (tm4 107 rfl)⟩, by decide⟩
set_option maxRecDepth 100000 in
theorem fd_X4_exciseOf : FdP md_X4_exciseOf := ⟨⟨(tm4 129 rfl), (tm1 5 rfl)⟩, ⟨rfl, Or.inr (by decide +kernel), by decide +kernel, by decide +kernel, by decide +kernel⟩, Or.inl ⟨rfl, (tm4 128 rfl)⟩, by decide⟩
set_option maxRecDepth 100000 in
theorem fd_X4_exciseAll : FdP md_X4_exciseAll := ⟨⟨(tm4 126 rfl), (tm1 5 rfl)⟩, ⟨rfl, Or.inr (by decide +kernel), by decide +kernel, by decide +kernel, by decide +kernel⟩, Or.inl ⟨rfl, (tm4 125 rfl)⟩, by decide⟩
set_option maxRecDepth 100000 in
theorem fd_X4_excise : FdP md_X4_excise := ⟨⟨(tm4 123 rfl), (tm1 5 rfl)⟩, ⟨rfl, Or.inr (by decide +kernel), by decide +kernel, by decide +kernel, by decide +kernel⟩, Or.inr ⟨rfl, (tm4 121 rfl), (tm4 122 rfl)⟩, by decide⟩
set_option maxRecDepth 100000 in
theorem fd_X4_exciseIn : FdP md_X4_exciseIn := ⟨⟨(tm4 133 rfl), (tm1 5 rfl)⟩, ⟨rfl, Or.inr (by decide +kernel), by decide +kernel, by decide +kernel, by decide +kernel⟩, Or.inr ⟨rfl, (tm4 131 rfl), (tm4 132 rfl)⟩, by decide⟩
set_option maxRecDepth 100000 in
theorem fd_X4_low : FdP md_X4_low := ⟨⟨(tm4 137 rfl), (tm1 5 rfl)⟩, ⟨rfl, Or.inr (by decide +kernel), by decide +kernel, by decide +kernel, by decide +kernel⟩, Or.inr ⟨rfl, (tm4 135 rfl), (tm4 136 rfl)⟩, by decide⟩
set_option maxRecDepth 100000 in
theorem fd_X4_turns : FdP md_X4_turns := ⟨⟨(tm4 141 rfl), (tm1 5 rfl)⟩, ⟨rfl, Or.inr (by decide +kernel), by decide +kernel, by decide +kernel, by decide +kernel⟩, Or.inr ⟨rfl, (tm4 139 rfl), (tm4 140 rfl)⟩, by decide⟩
set_option maxRecDepth 100000 in
theorem fd_X4_hum : FdP md_X4_hum := ⟨⟨(tm4 145 rfl), (tm1 5 rfl)⟩, ⟨rfl, Or.inr (by decide +kernel), by decide +kernel, by decide +kernel, by decide +kernel⟩, Or.inr ⟨rfl, (tm4 143 rfl), (tm4 144 rfl)⟩, by decide⟩
set_option maxRecDepth 100000 in
theorem fd_X4_pourFor : FdP md_X4_pourFor := ⟨⟨(tm4 149 rfl), (tm1 5 rfl)⟩, ⟨rfl, Or.inr (by decide +kernel), by decide +kernel, by decide +kernel, by decide +kernel⟩, Or.inr ⟨rfl, (tm4 147 rfl), (tm4 148 rfl)⟩, by decide⟩
set_option maxRecDepth 100000 in
theorem fd_X4_blend : FdP md_X4_blend := ⟨⟨(tm4 153 rfl), (tm1 5 rfl)⟩, ⟨rfl, Or.inr (by decide +kernel), by decide +kernel, by decide +kernel, by decide +kernel⟩, Or.inr ⟨rfl, (tm4 151 rfl), (tm4 152 rfl)⟩, by decide⟩
set_option maxRecDepth 100000 in
theorem fd_X4_spread : FdP md_X4_spread := ⟨⟨(tm4 161 rfl), (tm1 5 rfl)⟩, ⟨rfl, Or.inr (by decide +kernel), by decide +kernel, by decide +kernel, by decide +kernel⟩, Or.inr ⟨rfl, (tm4 159 rfl), (tm4 160 rfl)⟩, by decide⟩
set_option maxRecDepth 100000 in
theorem fd_X4_worthOf : FdP md_X4_worthOf := ⟨⟨(tm4 168 rfl), (tm1 5 rfl)⟩, ⟨rfl, Or.inr (by decide +kernel), by decide +kernel, by decide +kernel, by decide +kernel⟩, Or.inl ⟨rfl, (tm4 167 rfl)⟩, by decide⟩
set_option maxRecDepth 100000 in
theorem fd_X4_layDown : FdP md_X4_layDown := ⟨⟨(tm4 165 rfl), (tm1 5 rfl)⟩, ⟨rfl, Or.inr (by decide +kernel), by decide +kernel, by decide +kernel, by decide +kernel⟩, Or.inr ⟨rfl, (tm4 163 rfl), (tm4 164 rfl)⟩, by decide⟩
set_option maxRecDepth 100000 in
theorem fd_X4_sell : FdP md_X4_sell := ⟨⟨(tm4 172 rfl), (tm1 5 rfl)⟩, ⟨rfl, Or.inr (by decide +kernel), by decide +kernel, by decide +kernel, by decide +kernel⟩, Or.inr ⟨rfl, (tm4 170 rfl), (tm4 171 rfl)⟩, by decide⟩
set_option maxRecDepth 100000 in
theorem fd_X4_byTreaty : FdP md_X4_byTreaty := ⟨⟨(tm4 180 rfl), (tm1 5 rfl)⟩, ⟨rfl, Or.inr (by decide +kernel), by decide +kernel, by decide +kernel, by decide +kernel⟩, Or.inr ⟨rfl, (tm4 179 rfl), (ps3 0 (q := (_, _)) rfl)⟩, by decide⟩
set_option maxRecDepth 100000 in
theorem fd_X4_treaty : FdP md_X4_treaty := ⟨⟨(tm4 176 rfl), (tm1 5 rfl)⟩, ⟨rfl, Or.inr (by decide +kernel), by decide +kernel, by decide +kernel, by decide +kernel⟩, Or.inr ⟨rfl, (tm4 174 rfl), (tm4 175 rfl)⟩, by decide⟩
set_option maxRecDepth 100000 in
theorem fd_X4_bestSet : FdP md_X4_bestSet := ⟨⟨(tm4 184 rfl), (tm1 5 rfl)⟩, ⟨rfl, Or.inr (by decide +kernel), by decide +kernel, by decide +kernel, by decide +kernel⟩, Or.inr ⟨rfl, (tm4 182 rfl), (tm4 183 rfl)⟩, by decide⟩
set_option maxRecDepth 100000 in
theorem fd_X4_iron : FdP md_X4_iron := ⟨⟨(tm4 189 rfl), (tm1 5 rfl)⟩, ⟨rfl, Or.inr (by decide +kernel), by decide +kernel, by decide +kernel, by decide +kernel⟩, Or.inr ⟨rfl, (tm4 187 rfl), (tm4 188 rfl)⟩, by decide⟩
set_option maxRecDepth 100000 in
theorem fd_X4_row : FdP md_X4_row := ⟨⟨(tm4 193 rfl), (tm1 5 rfl)⟩, ⟨rfl, Or.inr (by decide +kernel), by decide +kernel, by decide +kernel, by decide +kernel⟩, Or.inr ⟨rfl, (tm4 191 rfl), (tm4 192 rfl)⟩, by decide⟩
set_option maxRecDepth 100000 in
theorem fd_X4_firstWrong : FdP md_X4_firstWrong := ⟨⟨(tm4 201 rfl), (tm1 5 rfl)⟩, ⟨rfl, Or.inr (by decide +kernel), by decide +kernel, by decide +kernel, by decide +kernel⟩, Or.inr ⟨rfl, (tm4 200 rfl), (ps3 1 (q := (_, _)) rfl)⟩, by decide⟩
set_option maxRecDepth 100000 in
theorem fd_X4_which : FdP md_X4_which := ⟨⟨(tm4 197 rfl), (tm1 5 rfl)⟩, ⟨rfl, Or.inr (by decide +kernel), by decide +kernel, by decide +kernel, by decide +kernel⟩, Or.inr ⟨rfl, (tm4 195 rfl), (tm4 196 rfl)⟩, by decide⟩
set_option maxRecDepth 100000 in
theorem fd_X4_judge : FdP md_X4_judge := ⟨⟨(tm4 205 rfl), (tm1 5 rfl)⟩, ⟨rfl, Or.inr (by decide +kernel), by decide +kernel, by decide +kernel, by decide +kernel⟩, Or.inr ⟨rfl, (tm4 203 rfl), (tm4 204 rfl)⟩, by decide⟩
set_option maxRecDepth 100000 in
theorem fd_X4_chance : FdP md_X4_chance := ⟨⟨(tm4 209 rfl), (tm1 5 rfl)⟩, ⟨rfl, Or.inr (by decide +kernel), by decide +kernel, by decide +kernel, by decide +kernel⟩, Or.inr ⟨rfl, (tm4 207 rfl), (tm4 208 rfl)⟩, by decide⟩
set_option maxRecDepth 100000 in
theorem fd_X4_drawn : FdP md_X4_drawn := ⟨⟨(tm4 217 rfl), (tm1 5 rfl)⟩, ⟨rfl, Or.inr (by decide +kernel), by decide +kernel, by decide +kernel, by decide +kernel⟩, Or.inr ⟨rfl, (tm4 216 rfl), (ps3 2 (q := (_, _)) rfl)⟩, by decide⟩
set_option maxRecDepth 100000 in
theorem fd_X4_lots : FdP md_X4_lots := ⟨⟨(tm4 213 rfl), (tm1 5 rfl)⟩, ⟨rfl, Or.inr (by decide +kernel), by decide +kernel, by decide +kernel, by decide +kernel⟩, Or.inr ⟨rfl, (tm4 211 rfl), (tm4 212 rfl)⟩, by decide⟩
set_option maxRecDepth 100000 in
theorem fd_X4_image : FdP md_X4_image := ⟨⟨(tm4 224 rfl), (tm1 5 rfl)⟩, ⟨rfl, Or.inr (by decide +kernel), by decide +kernel, by decide +kernel, by decide +kernel⟩, Or.inr ⟨rfl, (tm4 222 rfl), (tm4 223 rfl)⟩, by decide⟩
set_option maxRecDepth 100000 in
theorem fd_X4_on : FdP md_X4_on := ⟨⟨(tm4 228 rfl), (tm1 5 rfl)⟩, ⟨rfl, Or.inr (by decide +kernel), by decide +kernel, by decide +kernel, by decide +kernel⟩, Or.inr ⟨rfl, (tm4 226 rfl), (tm4 227 rfl)⟩, by decide⟩
set_option maxRecDepth 100000 in
theorem fd_X4_count : FdP md_X4_count := ⟨⟨(tm4 232 rfl), (tm1 5 rfl)⟩, ⟨rfl, Or.inr (by decide +kernel), by decide +kernel, by decide +kernel, by decide +kernel⟩, Or.inr ⟨rfl, (tm4 230 rfl), (tm4 231 rfl)⟩, by decide⟩
theorem mok_0 : ∀ d ∈ mTL_0, FdP d := List.forall_mem_cons.mpr ⟨fd_J9_abs_0f7a4, List.forall_mem_cons.mpr ⟨fd_J9_max_7cf53, List.forall_mem_cons.mpr ⟨fd_J9_min_7cf53, List.forall_mem_cons.mpr ⟨fd_J6_bitCount_0f7a4, List.forall_mem_cons.mpr ⟨fd_J0_length_8abf5, List.forall_mem_cons.mpr ⟨fd_J0_charAt_5068e, List.forall_mem_cons.mpr ⟨fd_J0_indexOf_0f7a4, List.forall_mem_cons.mpr ⟨fd_J0_indexOf_7cf53, List.forall_mem_cons.mpr ⟨fd_J0_coder_7d493, List.forall_mem_cons.mpr ⟨fd_J0_isLatin1_aae02, List.forall_mem_cons.mpr ⟨fd_J0_checkIndex_df160, List.forall_mem_cons.mpr ⟨fd_J1_charAt_3b067, List.forall_mem_cons.mpr ⟨fd_J1_canEncode_9a6ad, List.forall_mem_cons.mpr ⟨fd_J1_indexOf_4cfef, List.forall_mem_cons.mpr ⟨fd_J1_indexOfChar_4cfef, List.forall_mem_cons.mpr ⟨fd_J3_checkIndex_8e157, List.forall_mem_cons.mpr ⟨fd_X0_become, List.forall_mem_cons.mpr ⟨fd_X0_angelsPart, List.forall_mem_cons.mpr ⟨fd_X0_strengthIn, List.forall_mem_cons.mpr ⟨fd_X0_sentBackIn, List.forall_mem_cons.mpr ⟨fd_X0_goOn, List.forall_mem_cons.mpr ⟨fd_X0_isHalfTheirs, fun _ h => absurd h List.not_mem_nil⟩⟩⟩⟩⟩⟩⟩⟩⟩⟩⟩⟩⟩⟩⟩⟩⟩⟩⟩⟩⟩⟩
theorem mok_1 : ∀ d ∈ mTL_1, FdP d := List.forall_mem_cons.mpr ⟨fd_X0_worth, List.forall_mem_cons.mpr ⟨fd_X1_isFull, List.forall_mem_cons.mpr ⟨fd_X1_add, List.forall_mem_cons.mpr ⟨fd_X1_forget, List.forall_mem_cons.mpr ⟨fd_X1_at, List.forall_mem_cons.mpr ⟨fd_X1_kind, List.forall_mem_cons.mpr ⟨fd_X1_number, List.forall_mem_cons.mpr ⟨fd_X1_firstWrong, List.forall_mem_cons.mpr ⟨fd_X1_fits, List.forall_mem_cons.mpr ⟨fd_X1_shapeOf, List.forall_mem_cons.mpr ⟨fd_X2_at, List.forall_mem_cons.mpr ⟨fd_X2_become, List.forall_mem_cons.mpr ⟨fd_X2_caskFault, List.forall_mem_cons.mpr ⟨fd_X2_addCask, List.forall_mem_cons.mpr ⟨fd_X2_chosen, List.forall_mem_cons.mpr ⟨fd_X2_choose, List.forall_mem_cons.mpr ⟨fd_X2_pourFault, List.forall_mem_cons.mpr ⟨fd_X2_pouredStrength, List.forall_mem_cons.mpr ⟨fd_X2_pourOver, List.forall_mem_cons.mpr ⟨fd_X2_blended, List.forall_mem_cons.mpr ⟨fd_X2_rateBy, List.forall_mem_cons.mpr ⟨fd_X2_goOn, fun _ h => absurd h List.not_mem_nil⟩⟩⟩⟩⟩⟩⟩⟩⟩⟩⟩⟩⟩⟩⟩⟩⟩⟩⟩⟩⟩⟩
theorem mok_2 : ∀ d ∈ mTL_2, FdP d := List.forall_mem_cons.mpr ⟨fd_X2_liveOn, List.forall_mem_cons.mpr ⟨fd_X2_allAmounts, List.forall_mem_cons.mpr ⟨fd_X2_allTaken, List.forall_mem_cons.mpr ⟨fd_X2_fullest, List.forall_mem_cons.mpr ⟨fd_X2_dutyOf, List.forall_mem_cons.mpr ⟨fd_X2_dutyOfAll, List.forall_mem_cons.mpr ⟨fd_X3_letter, List.forall_mem_cons.mpr ⟨fd_X3_town, List.forall_mem_cons.mpr ⟨fd_X3_cask, List.forall_mem_cons.mpr ⟨fd_X3_set, List.forall_mem_cons.mpr ⟨fd_X3_fill, List.forall_mem_cons.mpr ⟨fd_X3_takes, List.forall_mem_cons.mpr ⟨fd_X3_pour, List.forall_mem_cons.mpr ⟨fd_X3_years, List.forall_mem_cons.mpr ⟨fd_X3_behind, List.forall_mem_cons.mpr ⟨fd_X3_allBehind, List.forall_mem_cons.mpr ⟨fd_X3_theirs, List.forall_mem_cons.mpr ⟨fd_X3_excise, List.forall_mem_cons.mpr ⟨fd_X3_exciseIn, List.forall_mem_cons.mpr ⟨fd_X3_low, List.forall_mem_cons.mpr ⟨fd_X3_turns, List.forall_mem_cons.mpr ⟨fd_X3_hum, fun _ h => absurd h List.not_mem_nil⟩⟩⟩⟩⟩⟩⟩⟩⟩⟩⟩⟩⟩⟩⟩⟩⟩⟩⟩⟩⟩⟩
theorem mok_3 : ∀ d ∈ mTL_3, FdP d := List.forall_mem_cons.mpr ⟨fd_X3_pourFor, List.forall_mem_cons.mpr ⟨fd_X3_blend, List.forall_mem_cons.mpr ⟨fd_X3_spread, List.forall_mem_cons.mpr ⟨fd_X3_layDown, List.forall_mem_cons.mpr ⟨fd_X3_sell, List.forall_mem_cons.mpr ⟨fd_X3_treaty, List.forall_mem_cons.mpr ⟨fd_X3_bestSet, List.forall_mem_cons.mpr ⟨fd_X3_iron, List.forall_mem_cons.mpr ⟨fd_X3_row, List.forall_mem_cons.mpr ⟨fd_X3_which, List.forall_mem_cons.mpr ⟨fd_X3_judge, List.forall_mem_cons.mpr ⟨fd_X3_chance, List.forall_mem_cons.mpr ⟨fd_X3_lots, List.forall_mem_cons.mpr ⟨fd_X3_image, List.forall_mem_cons.mpr ⟨fd_X3_on, List.forall_mem_cons.mpr ⟨fd_X3_count, List.forall_mem_cons.mpr ⟨fd_X3_refuse, List.forall_mem_cons.mpr ⟨fd_X3_refuseLong, List.forall_mem_cons.mpr ⟨fd_X3_refused, List.forall_mem_cons.mpr ⟨fd_X3_firstOf, List.forall_mem_cons.mpr ⟨fd_X3_rangeFault, List.forall_mem_cons.mpr ⟨fd_X3_whatFault, fun _ h => absurd h List.not_mem_nil⟩⟩⟩⟩⟩⟩⟩⟩⟩⟩⟩⟩⟩⟩⟩⟩⟩⟩⟩⟩⟩⟩
theorem mok_4 : ∀ d ∈ mTL_4, FdP d := List.forall_mem_cons.mpr ⟨fd_X3_yearsFault, List.forall_mem_cons.mpr ⟨fd_X3_caskOrAllFault, List.forall_mem_cons.mpr ⟨fd_X3_chanceFault, List.forall_mem_cons.mpr ⟨fd_X3_leastChoice, List.forall_mem_cons.mpr ⟨fd_X3_mostChoice, List.forall_mem_cons.mpr ⟨fd_X3_readLetters, List.forall_mem_cons.mpr ⟨fd_X3_statementFault, List.forall_mem_cons.mpr ⟨fd_X3_caskComes, List.forall_mem_cons.mpr ⟨fd_X3_pourComes, List.forall_mem_cons.mpr ⟨fd_X3_thinkOn, List.forall_mem_cons.mpr ⟨fd_X3_keepsLess, List.forall_mem_cons.mpr ⟨fd_X3_thinkTreaty, List.forall_mem_cons.mpr ⟨fd_X3_bothKeep, List.forall_mem_cons.mpr ⟨fd_X3_firstNotSo, List.forall_mem_cons.mpr ⟨fd_X3_kindsByRow, List.forall_mem_cons.mpr ⟨fd_X3_ratesByRow, List.forall_mem_cons.mpr ⟨fd_X3_amountByLents, List.forall_mem_cons.mpr ⟨fd_X3_nextSeed, List.forall_mem_cons.mpr ⟨fd_X3_drawn, List.forall_mem_cons.mpr ⟨fd_X3_power, List.forall_mem_cons.mpr ⟨fd_X3_partOf, List.forall_mem_cons.mpr ⟨fd_X3_commonDivisor, fun _ h => absurd h List.not_mem_nil⟩⟩⟩⟩⟩⟩⟩⟩⟩⟩⟩⟩⟩⟩⟩⟩⟩⟩⟩⟩⟩⟩
theorem mok_5 : ∀ d ∈ mTL_5, FdP d := List.forall_mem_cons.mpr ⟨fd_X4_isIn, List.forall_mem_cons.mpr ⟨fd_X4_least, List.forall_mem_cons.mpr ⟨fd_X4_size, List.forall_mem_cons.mpr ⟨fd_X4_lays, List.forall_mem_cons.mpr ⟨fd_X4_no, List.forall_mem_cons.mpr ⟨fd_X4_noWide, List.forall_mem_cons.mpr ⟨fd_X4_isCask, List.forall_mem_cons.mpr ⟨fd_X4_at, List.forall_mem_cons.mpr ⟨fd_X4_takesOf, List.forall_mem_cons.mpr ⟨fd_X4_strengthOf, List.forall_mem_cons.mpr ⟨fd_X4_backOf, List.forall_mem_cons.mpr ⟨fd_X4_yearBy, List.forall_mem_cons.mpr ⟨fd_X4_year, List.forall_mem_cons.mpr ⟨fd_X4_yearsOn, List.forall_mem_cons.mpr ⟨fd_X4_inMind, List.forall_mem_cons.mpr ⟨fd_X4_sumOf, List.forall_mem_cons.mpr ⟨fd_X4_letter, List.forall_mem_cons.mpr ⟨fd_X4_here, List.forall_mem_cons.mpr ⟨fd_X4_readsNumber, List.forall_mem_cons.mpr ⟨fd_X4_kindOf, List.forall_mem_cons.mpr ⟨fd_X4_readsKind, List.forall_mem_cons.mpr ⟨fd_X4_readsStatement, fun _ h => absurd h List.not_mem_nil⟩⟩⟩⟩⟩⟩⟩⟩⟩⟩⟩⟩⟩⟩⟩⟩⟩⟩⟩⟩⟩⟩
theorem mok_6 : ∀ d ∈ mTL_6, FdP d := List.forall_mem_cons.mpr ⟨fd_X4_canPour, List.forall_mem_cons.mpr ⟨fd_X4_mixed, List.forall_mem_cons.mpr ⟨fd_X4_pours, List.forall_mem_cons.mpr ⟨fd_X4_isDone, List.forall_mem_cons.mpr ⟨fd_X4_town, List.forall_mem_cons.mpr ⟨fd_X4_cask, List.forall_mem_cons.mpr ⟨fd_X4_set, List.forall_mem_cons.mpr ⟨fd_X4_fill, List.forall_mem_cons.mpr ⟨fd_X4_takes, List.forall_mem_cons.mpr ⟨fd_X4_pour, List.forall_mem_cons.mpr ⟨fd_X4_years, List.forall_mem_cons.mpr ⟨fd_X4_wrongYears, List.forall_mem_cons.mpr ⟨fd_X4_behind, List.forall_mem_cons.mpr ⟨fd_X4_allBehind, List.forall_mem_cons.mpr ⟨fd_X4_gcd, List.forall_mem_cons.mpr ⟨fd_X4_partOf, List.forall_mem_cons.mpr ⟨fd_X4_theirs, List.forall_mem_cons.mpr ⟨fd_X4_exciseOf, List.forall_mem_cons.mpr ⟨fd_X4_exciseAll, List.forall_mem_cons.mpr ⟨fd_X4_excise, List.forall_mem_cons.mpr ⟨fd_X4_exciseIn, List.forall_mem_cons.mpr ⟨fd_X4_low, fun _ h => absurd h List.not_mem_nil⟩⟩⟩⟩⟩⟩⟩⟩⟩⟩⟩⟩⟩⟩⟩⟩⟩⟩⟩⟩⟩⟩
theorem mok_7 : ∀ d ∈ mTL_7, FdP d := List.forall_mem_cons.mpr ⟨fd_X4_turns, List.forall_mem_cons.mpr ⟨fd_X4_hum, List.forall_mem_cons.mpr ⟨fd_X4_pourFor, List.forall_mem_cons.mpr ⟨fd_X4_blend, List.forall_mem_cons.mpr ⟨fd_X4_spread, List.forall_mem_cons.mpr ⟨fd_X4_worthOf, List.forall_mem_cons.mpr ⟨fd_X4_layDown, List.forall_mem_cons.mpr ⟨fd_X4_sell, List.forall_mem_cons.mpr ⟨fd_X4_byTreaty, List.forall_mem_cons.mpr ⟨fd_X4_treaty, List.forall_mem_cons.mpr ⟨fd_X4_bestSet, List.forall_mem_cons.mpr ⟨fd_X4_iron, List.forall_mem_cons.mpr ⟨fd_X4_row, List.forall_mem_cons.mpr ⟨fd_X4_firstWrong, List.forall_mem_cons.mpr ⟨fd_X4_which, List.forall_mem_cons.mpr ⟨fd_X4_judge, List.forall_mem_cons.mpr ⟨fd_X4_chance, List.forall_mem_cons.mpr ⟨fd_X4_drawn, List.forall_mem_cons.mpr ⟨fd_X4_lots, List.forall_mem_cons.mpr ⟨fd_X4_image, List.forall_mem_cons.mpr ⟨fd_X4_on, List.forall_mem_cons.mpr ⟨fd_X4_count, fun _ h => absurd h List.not_mem_nil⟩⟩⟩⟩⟩⟩⟩⟩⟩⟩⟩⟩⟩⟩⟩⟩⟩⟩⟩⟩⟩⟩
theorem mok : ∀ d ∈ mTL, FdP d := List.forall_mem_append.mpr ⟨mok_0, List.forall_mem_append.mpr ⟨mok_1, List.forall_mem_append.mpr ⟨mok_2, List.forall_mem_append.mpr ⟨mok_3, List.forall_mem_append.mpr ⟨mok_4, List.forall_mem_append.mpr ⟨mok_5, List.forall_mem_append.mpr ⟨mok_6, mok_7⟩⟩⟩⟩⟩⟩⟩
theorem mt_J9_abs_0f7a4 : mTL[0]? = some md_J9_abs_0f7a4 := rfl
theorem mt_J9_max_7cf53 : mTL[1]? = some md_J9_max_7cf53 := rfl
theorem mt_J9_min_7cf53 : mTL[2]? = some md_J9_min_7cf53 := rfl
theorem mt_J6_bitCount_0f7a4 : mTL[3]? = some md_J6_bitCount_0f7a4 := rfl
theorem mt_J0_length_8abf5 : mTL[4]? = some md_J0_length_8abf5 := rfl
theorem mt_J0_charAt_5068e : mTL[5]? = some md_J0_charAt_5068e := rfl
theorem mt_J0_indexOf_0f7a4 : mTL[6]? = some md_J0_indexOf_0f7a4 := rfl
theorem mt_J0_indexOf_7cf53 : mTL[7]? = some md_J0_indexOf_7cf53 := rfl
theorem mt_J0_coder_7d493 : mTL[8]? = some md_J0_coder_7d493 := rfl
theorem mt_J0_isLatin1_aae02 : mTL[9]? = some md_J0_isLatin1_aae02 := rfl
theorem mt_J0_checkIndex_df160 : mTL[10]? = some md_J0_checkIndex_df160 := rfl
theorem mt_J1_charAt_3b067 : mTL[11]? = some md_J1_charAt_3b067 := rfl
theorem mt_J1_canEncode_9a6ad : mTL[12]? = some md_J1_canEncode_9a6ad := rfl
theorem mt_J1_indexOf_4cfef : mTL[13]? = some md_J1_indexOf_4cfef := rfl
theorem mt_J1_indexOfChar_4cfef : mTL[14]? = some md_J1_indexOfChar_4cfef := rfl
theorem mt_J3_checkIndex_8e157 : mTL[15]? = some md_J3_checkIndex_8e157 := rfl
theorem mt_X0_become : mTL[16]? = some md_X0_become := rfl
theorem mt_X0_angelsPart : mTL[17]? = some md_X0_angelsPart := rfl
theorem mt_X0_strengthIn : mTL[18]? = some md_X0_strengthIn := rfl
theorem mt_X0_sentBackIn : mTL[19]? = some md_X0_sentBackIn := rfl
theorem mt_X0_goOn : mTL[20]? = some md_X0_goOn := rfl
theorem mt_X0_isHalfTheirs : mTL[21]? = some md_X0_isHalfTheirs := rfl
theorem mt_X0_worth : mTL[22]? = some md_X0_worth := rfl
theorem mt_X1_isFull : mTL[23]? = some md_X1_isFull := rfl
theorem mt_X1_add : mTL[24]? = some md_X1_add := rfl
theorem mt_X1_forget : mTL[25]? = some md_X1_forget := rfl
theorem mt_X1_at : mTL[26]? = some md_X1_at := rfl
theorem mt_X1_kind : mTL[27]? = some md_X1_kind := rfl
theorem mt_X1_number : mTL[28]? = some md_X1_number := rfl
theorem mt_X1_firstWrong : mTL[29]? = some md_X1_firstWrong := rfl
theorem mt_X1_fits : mTL[30]? = some md_X1_fits := rfl
theorem mt_X1_shapeOf : mTL[31]? = some md_X1_shapeOf := rfl
theorem mt_X2_at : mTL[32]? = some md_X2_at := rfl
theorem mt_X2_become : mTL[33]? = some md_X2_become := rfl
theorem mt_X2_caskFault : mTL[34]? = some md_X2_caskFault := rfl
theorem mt_X2_addCask : mTL[35]? = some md_X2_addCask := rfl
theorem mt_X2_chosen : mTL[36]? = some md_X2_chosen := rfl
theorem mt_X2_choose : mTL[37]? = some md_X2_choose := rfl
theorem mt_X2_pourFault : mTL[38]? = some md_X2_pourFault := rfl
theorem mt_X2_pouredStrength : mTL[39]? = some md_X2_pouredStrength := rfl
theorem mt_X2_pourOver : mTL[40]? = some md_X2_pourOver := rfl
theorem mt_X2_blended : mTL[41]? = some md_X2_blended := rfl
theorem mt_X2_rateBy : mTL[42]? = some md_X2_rateBy := rfl
theorem mt_X2_goOn : mTL[43]? = some md_X2_goOn := rfl
theorem mt_X2_liveOn : mTL[44]? = some md_X2_liveOn := rfl
theorem mt_X2_allAmounts : mTL[45]? = some md_X2_allAmounts := rfl
theorem mt_X2_allTaken : mTL[46]? = some md_X2_allTaken := rfl
theorem mt_X2_fullest : mTL[47]? = some md_X2_fullest := rfl
theorem mt_X2_dutyOf : mTL[48]? = some md_X2_dutyOf := rfl
theorem mt_X2_dutyOfAll : mTL[49]? = some md_X2_dutyOfAll := rfl
theorem mt_X3_letter : mTL[50]? = some md_X3_letter := rfl
theorem mt_X3_town : mTL[51]? = some md_X3_town := rfl
theorem mt_X3_cask : mTL[52]? = some md_X3_cask := rfl
theorem mt_X3_set : mTL[53]? = some md_X3_set := rfl
theorem mt_X3_fill : mTL[54]? = some md_X3_fill := rfl
theorem mt_X3_takes : mTL[55]? = some md_X3_takes := rfl
theorem mt_X3_pour : mTL[56]? = some md_X3_pour := rfl
theorem mt_X3_years : mTL[57]? = some md_X3_years := rfl
theorem mt_X3_behind : mTL[58]? = some md_X3_behind := rfl
theorem mt_X3_allBehind : mTL[59]? = some md_X3_allBehind := rfl
theorem mt_X3_theirs : mTL[60]? = some md_X3_theirs := rfl
theorem mt_X3_excise : mTL[61]? = some md_X3_excise := rfl
theorem mt_X3_exciseIn : mTL[62]? = some md_X3_exciseIn := rfl
theorem mt_X3_low : mTL[63]? = some md_X3_low := rfl
theorem mt_X3_turns : mTL[64]? = some md_X3_turns := rfl
theorem mt_X3_hum : mTL[65]? = some md_X3_hum := rfl
theorem mt_X3_pourFor : mTL[66]? = some md_X3_pourFor := rfl
theorem mt_X3_blend : mTL[67]? = some md_X3_blend := rfl
theorem mt_X3_spread : mTL[68]? = some md_X3_spread := rfl
theorem mt_X3_layDown : mTL[69]? = some md_X3_layDown := rfl
theorem mt_X3_sell : mTL[70]? = some md_X3_sell := rfl
theorem mt_X3_treaty : mTL[71]? = some md_X3_treaty := rfl
theorem mt_X3_bestSet : mTL[72]? = some md_X3_bestSet := rfl
theorem mt_X3_iron : mTL[73]? = some md_X3_iron := rfl
theorem mt_X3_row : mTL[74]? = some md_X3_row := rfl
theorem mt_X3_which : mTL[75]? = some md_X3_which := rfl
theorem mt_X3_judge : mTL[76]? = some md_X3_judge := rfl
theorem mt_X3_chance : mTL[77]? = some md_X3_chance := rfl
theorem mt_X3_lots : mTL[78]? = some md_X3_lots := rfl
theorem mt_X3_image : mTL[79]? = some md_X3_image := rfl
theorem mt_X3_on : mTL[80]? = some md_X3_on := rfl
theorem mt_X3_count : mTL[81]? = some md_X3_count := rfl
theorem mt_X3_refuse : mTL[82]? = some md_X3_refuse := rfl
theorem mt_X3_refuseLong : mTL[83]? = some md_X3_refuseLong := rfl
theorem mt_X3_refused : mTL[84]? = some md_X3_refused := rfl
theorem mt_X3_firstOf : mTL[85]? = some md_X3_firstOf := rfl
theorem mt_X3_rangeFault : mTL[86]? = some md_X3_rangeFault := rfl
theorem mt_X3_whatFault : mTL[87]? = some md_X3_whatFault := rfl
theorem mt_X3_yearsFault : mTL[88]? = some md_X3_yearsFault := rfl
theorem mt_X3_caskOrAllFault : mTL[89]? = some md_X3_caskOrAllFault := rfl
theorem mt_X3_chanceFault : mTL[90]? = some md_X3_chanceFault := rfl
theorem mt_X3_leastChoice : mTL[91]? = some md_X3_leastChoice := rfl
theorem mt_X3_mostChoice : mTL[92]? = some md_X3_mostChoice := rfl
theorem mt_X3_readLetters : mTL[93]? = some md_X3_readLetters := rfl
theorem mt_X3_statementFault : mTL[94]? = some md_X3_statementFault := rfl
theorem mt_X3_caskComes : mTL[95]? = some md_X3_caskComes := rfl
theorem mt_X3_pourComes : mTL[96]? = some md_X3_pourComes := rfl
theorem mt_X3_thinkOn : mTL[97]? = some md_X3_thinkOn := rfl
theorem mt_X3_keepsLess : mTL[98]? = some md_X3_keepsLess := rfl
theorem mt_X3_thinkTreaty : mTL[99]? = some md_X3_thinkTreaty := rfl
theorem mt_X3_bothKeep : mTL[100]? = some md_X3_bothKeep := rfl
theorem mt_X3_firstNotSo : mTL[101]? = some md_X3_firstNotSo := rfl
theorem mt_X3_kindsByRow : mTL[102]? = some md_X3_kindsByRow := rfl
theorem mt_X3_ratesByRow : mTL[103]? = some md_X3_ratesByRow := rfl
theorem mt_X3_amountByLents : mTL[104]? = some md_X3_amountByLents := rfl
theorem mt_X3_nextSeed : mTL[105]? = some md_X3_nextSeed := rfl
theorem mt_X3_drawn : mTL[106]? = some md_X3_drawn := rfl
theorem mt_X3_power : mTL[107]? = some md_X3_power := rfl
theorem mt_X3_partOf : mTL[108]? = some md_X3_partOf := rfl
theorem mt_X3_commonDivisor : mTL[109]? = some md_X3_commonDivisor := rfl
theorem mt_X4_isIn : mTL[110]? = some md_X4_isIn := rfl
theorem mt_X4_least : mTL[111]? = some md_X4_least := rfl
theorem mt_X4_size : mTL[112]? = some md_X4_size := rfl
theorem mt_X4_lays : mTL[113]? = some md_X4_lays := rfl
theorem mt_X4_no : mTL[114]? = some md_X4_no := rfl
theorem mt_X4_noWide : mTL[115]? = some md_X4_noWide := rfl
theorem mt_X4_isCask : mTL[116]? = some md_X4_isCask := rfl
theorem mt_X4_at : mTL[117]? = some md_X4_at := rfl
theorem mt_X4_takesOf : mTL[118]? = some md_X4_takesOf := rfl
theorem mt_X4_strengthOf : mTL[119]? = some md_X4_strengthOf := rfl
theorem mt_X4_backOf : mTL[120]? = some md_X4_backOf := rfl
theorem mt_X4_yearBy : mTL[121]? = some md_X4_yearBy := rfl
theorem mt_X4_year : mTL[122]? = some md_X4_year := rfl
theorem mt_X4_yearsOn : mTL[123]? = some md_X4_yearsOn := rfl
theorem mt_X4_inMind : mTL[124]? = some md_X4_inMind := rfl
theorem mt_X4_sumOf : mTL[125]? = some md_X4_sumOf := rfl
theorem mt_X4_letter : mTL[126]? = some md_X4_letter := rfl
theorem mt_X4_here : mTL[127]? = some md_X4_here := rfl
theorem mt_X4_readsNumber : mTL[128]? = some md_X4_readsNumber := rfl
theorem mt_X4_kindOf : mTL[129]? = some md_X4_kindOf := rfl
theorem mt_X4_readsKind : mTL[130]? = some md_X4_readsKind := rfl
theorem mt_X4_readsStatement : mTL[131]? = some md_X4_readsStatement := rfl
theorem mt_X4_canPour : mTL[132]? = some md_X4_canPour := rfl
theorem mt_X4_mixed : mTL[133]? = some md_X4_mixed := rfl
theorem mt_X4_pours : mTL[134]? = some md_X4_pours := rfl
theorem mt_X4_isDone : mTL[135]? = some md_X4_isDone := rfl
theorem mt_X4_town : mTL[136]? = some md_X4_town := rfl
theorem mt_X4_cask : mTL[137]? = some md_X4_cask := rfl
theorem mt_X4_set : mTL[138]? = some md_X4_set := rfl
theorem mt_X4_fill : mTL[139]? = some md_X4_fill := rfl
theorem mt_X4_takes : mTL[140]? = some md_X4_takes := rfl
theorem mt_X4_pour : mTL[141]? = some md_X4_pour := rfl
theorem mt_X4_years : mTL[142]? = some md_X4_years := rfl
theorem mt_X4_wrongYears : mTL[143]? = some md_X4_wrongYears := rfl
theorem mt_X4_behind : mTL[144]? = some md_X4_behind := rfl
theorem mt_X4_allBehind : mTL[145]? = some md_X4_allBehind := rfl
theorem mt_X4_gcd : mTL[146]? = some md_X4_gcd := rfl
theorem mt_X4_partOf : mTL[147]? = some md_X4_partOf := rfl
theorem mt_X4_theirs : mTL[148]? = some md_X4_theirs := rfl
theorem mt_X4_exciseOf : mTL[149]? = some md_X4_exciseOf := rfl
theorem mt_X4_exciseAll : mTL[150]? = some md_X4_exciseAll := rfl
theorem mt_X4_excise : mTL[151]? = some md_X4_excise := rfl
theorem mt_X4_exciseIn : mTL[152]? = some md_X4_exciseIn := rfl
theorem mt_X4_low : mTL[153]? = some md_X4_low := rfl
theorem mt_X4_turns : mTL[154]? = some md_X4_turns := rfl
theorem mt_X4_hum : mTL[155]? = some md_X4_hum := rfl
theorem mt_X4_pourFor : mTL[156]? = some md_X4_pourFor := rfl
theorem mt_X4_blend : mTL[157]? = some md_X4_blend := rfl
theorem mt_X4_spread : mTL[158]? = some md_X4_spread := rfl
theorem mt_X4_worthOf : mTL[159]? = some md_X4_worthOf := rfl
theorem mt_X4_layDown : mTL[160]? = some md_X4_layDown := rfl
theorem mt_X4_sell : mTL[161]? = some md_X4_sell := rfl
theorem mt_X4_byTreaty : mTL[162]? = some md_X4_byTreaty := rfl
theorem mt_X4_treaty : mTL[163]? = some md_X4_treaty := rfl
theorem mt_X4_bestSet : mTL[164]? = some md_X4_bestSet := rfl
theorem mt_X4_iron : mTL[165]? = some md_X4_iron := rfl
theorem mt_X4_row : mTL[166]? = some md_X4_row := rfl
theorem mt_X4_firstWrong : mTL[167]? = some md_X4_firstWrong := rfl
theorem mt_X4_which : mTL[168]? = some md_X4_which := rfl
theorem mt_X4_judge : mTL[169]? = some md_X4_judge := rfl
theorem mt_X4_chance : mTL[170]? = some md_X4_chance := rfl
theorem mt_X4_drawn : mTL[171]? = some md_X4_drawn := rfl
theorem mt_X4_lots : mTL[172]? = some md_X4_lots := rfl
theorem mt_X4_image : mTL[173]? = some md_X4_image := rfl
theorem mt_X4_on : mTL[174]? = some md_X4_on := rfl
theorem mt_X4_count : mTL[175]? = some md_X4_count := rfl
def nlk : List Jvm.Cond := [.methodLinkNest RX2 46 yX3_rangeFault RX3, .methodLinkNest RX2 50 yX3_firstOf RX3, .methodLinkNest RX2 71 yX3_whatFault RX3, .methodLinkNest RX2 75 yX3_leastChoice RX3, .methodLinkNest RX2 79 yX3_mostChoice RX3]
def sTL_0 : List (Nat × Nat × Bool × Nat) := [(0, 30, false, 2), (0, 36, false, 1), (0, 39, false, 17), (0, 42, false, 18), (0, 46, false, 19), (1, 19, false, 26), (1, 25, false, 6), (1, 32, false, 4), (1, 35, false, 31), (1, 39, false, 5), (1, 43, false, 30), (1, 47, false, 27), (2, 38, false, 32), (2, 42, false, 16), (2, 46, true, 86), (2, 50, true, 85), (2, 71, true, 87), (2, 75, true, 91), (2, 79, true, 92), (2, 82, false, 34), (2, 85, false, 38), (2, 88, false, 39), (2, 91, false, 22), (2, 95, false, 2)]
def sTL_1 : List (Nat × Nat × Bool × Nat) := [(2, 100, false, 42), (2, 104, false, 20), (2, 108, false, 43), (2, 111, false, 48), (3, 44, false, 86), (3, 48, false, 23), (3, 52, false, 24), (3, 56, false, 82), (3, 59, false, 93), (3, 63, false, 25), (3, 66, false, 34), (3, 69, false, 87), (3, 73, false, 85), (3, 76, false, 32), (3, 100, false, 36), (3, 103, false, 37), (3, 106, false, 17), (3, 109, false, 40), (3, 112, false, 44), (3, 118, false, 88), (3, 121, false, 97), (3, 125, false, 45), (3, 128, false, 46), (3, 131, false, 47)]
def sTL_2 : List (Nat × Nat × Bool × Nat) := [(3, 134, false, 89), (3, 137, false, 83), (3, 141, false, 108), (3, 145, false, 49), (3, 148, false, 48), (3, 151, false, 33), (3, 155, false, 43), (3, 158, false, 21), (3, 164, false, 38), (3, 167, false, 39), (3, 170, false, 41), (3, 173, false, 0), (3, 178, false, 2), (3, 181, false, 1), (3, 184, false, 22), (3, 187, false, 98), (3, 191, false, 100), (3, 195, false, 91), (3, 198, false, 92), (3, 201, false, 102), (3, 204, false, 103), (3, 207, false, 101), (3, 210, false, 90), (3, 213, false, 104)]
def sTL_3 : List (Nat × Nat × Bool × Nat) := [(3, 216, false, 3), (3, 221, false, 107), (3, 225, false, 105), (3, 228, false, 106), (3, 243, false, 84), (3, 248, false, 29), (3, 251, false, 26), (3, 253, false, 94), (3, 256, false, 95), (3, 259, false, 28), (3, 262, false, 96), (3, 265, false, 27), (3, 267, false, 35), (3, 271, false, 99), (3, 275, false, 16), (3, 278, false, 42), (3, 282, false, 20), (3, 288, false, 109), (4, 36, false, 114), (4, 40, false, 110), (4, 44, false, 117), (4, 48, false, 111), (4, 58, false, 118), (4, 62, false, 119)]
def sTL_4 : List (Nat × Nat × Bool × Nat) := [(4, 66, false, 120), (4, 70, false, 121), (4, 74, false, 122), (4, 78, false, 113), (4, 82, false, 123), (4, 92, false, 127), (4, 96, false, 129), (4, 99, false, 130), (4, 103, false, 128), (4, 107, false, 133), (4, 111, false, 116), (4, 115, false, 132), (4, 118, false, 134), (4, 122, false, 131), (4, 125, false, 135), (4, 128, false, 143), (4, 131, false, 124), (4, 135, false, 125), (4, 138, false, 146), (4, 142, false, 115), (4, 146, false, 147), (4, 150, false, 149), (4, 153, false, 150), (4, 158, false, 112)]
def sTL_5 : List (Nat × Nat × Bool × Nat) := [(4, 161, false, 159), (4, 164, false, 162), (4, 173, false, 167), (4, 182, false, 171), (5, 13, false, 50), (5, 17, false, 126), (5, 18, false, 51), (5, 22, false, 136), (5, 23, false, 52), (5, 27, false, 137), (5, 28, false, 53), (5, 31, false, 138), (5, 32, false, 54), (5, 35, false, 139), (5, 36, false, 55), (5, 40, false, 140), (5, 41, false, 56), (5, 44, false, 141), (5, 45, false, 57), (5, 48, false, 142), (5, 49, false, 58), (5, 52, false, 144), (5, 53, false, 59), (5, 56, false, 145)]
def sTL_6 : List (Nat × Nat × Bool × Nat) := [(5, 57, false, 60), (5, 61, false, 148), (5, 62, false, 61), (5, 65, false, 151), (5, 66, false, 62), (5, 69, false, 152), (5, 70, false, 63), (5, 73, false, 153), (5, 74, false, 64), (5, 77, false, 154), (5, 78, false, 65), (5, 81, false, 155), (5, 82, false, 66), (5, 85, false, 156), (5, 86, false, 67), (5, 89, false, 157), (5, 90, false, 68), (5, 93, false, 158), (5, 94, false, 69), (5, 97, false, 160), (5, 98, false, 70), (5, 101, false, 161), (5, 102, false, 71), (5, 105, false, 163)]
def sTL_7 : List (Nat × Nat × Bool × Nat) := [(5, 106, false, 72), (5, 109, false, 164), (5, 110, false, 73), (5, 113, false, 165), (5, 114, false, 74), (5, 117, false, 166), (5, 118, false, 75), (5, 121, false, 168), (5, 122, false, 76), (5, 125, false, 169), (5, 126, false, 77), (5, 130, false, 170), (5, 131, false, 78), (5, 134, false, 172), (5, 135, false, 79), (5, 138, false, 173), (5, 139, false, 80), (5, 142, false, 174), (5, 143, false, 81), (5, 146, false, 175), (10, 335, false, 8), (10, 492, false, 9), (10, 495, false, 11), (10, 505, false, 4)]
def sTL_8 : List (Nat × Nat × Bool × Nat) := [(10, 633, false, 7), (10, 637, false, 13), (10, 1059, false, 15), (11, 9, false, 10), (11, 38, false, 2), (11, 88, false, 12), (11, 92, false, 1), (11, 95, false, 14)]
def sTL : List (Nat × Nat × Bool × Nat) := sTL_0 ++ (sTL_1 ++ (sTL_2 ++ (sTL_3 ++ (sTL_4 ++ (sTL_5 ++ (sTL_6 ++ (sTL_7 ++ (sTL_8))))))))
def SdP (e : Nat × Nat × Bool × Nat) : Prop := ∃ d : MD, mTL[e.2.2.2]? = some d ∧ ((e.2.2.1 = false ∧ Jvm.Cond.methodLink (cn e.1) e.2.1 d.y ∈ lw_tbl) ∨ (e.2.2.1 = true ∧ d.st = true ∧ Jvm.Cond.methodLinkNest (cn e.1) e.2.1 d.y RX3 ∈ nlk))
set_option maxRecDepth 100000 in
theorem sok_0 : ∀ e ∈ sTL_0, SdP e := List.forall_mem_cons.mpr ⟨⟨md_J9_min_7cf53, mt_J9_min_7cf53, Or.inl ⟨rfl, (tm2 141 rfl)⟩⟩, List.forall_mem_cons.mpr ⟨⟨md_J9_max_7cf53, mt_J9_max_7cf53, Or.inl ⟨rfl, (tm2 146 rfl)⟩⟩, List.forall_mem_cons.mpr ⟨⟨md_X0_angelsPart, mt_X0_angelsPart, Or.inl ⟨rfl, (tm2 137 rfl)⟩⟩, List.forall_mem_cons.mpr ⟨⟨md_X0_strengthIn, mt_X0_strengthIn, Or.inl ⟨rfl, (tm2 142 rfl)⟩⟩, List.forall_mem_cons.mpr ⟨⟨md_X0_sentBackIn, mt_X0_sentBackIn, Or.inl ⟨rfl, (tm2 147 rfl)⟩⟩, List.forall_mem_cons.mpr ⟨⟨md_X1_at, mt_X1_at, Or.inl ⟨rfl, (tm1 174 rfl)⟩⟩, List.forall_mem_cons.mpr ⟨⟨md_J0_indexOf_0f7a4, mt_J0_indexOf_0f7a4, Or.inl ⟨rfl, (tm1 234 rfl)⟩⟩, List.forall_mem_cons.mpr ⟨⟨md_J0_length_8abf5, mt_J0_length_8abf5, Or.inl ⟨rfl, (tm1 164 rfl)⟩⟩, List.forall_mem_cons.mpr ⟨⟨md_X1_shapeOf, mt_X1_shapeOf, Or.inl ⟨rfl, (tm1 178 rfl)⟩⟩, List.forall_mem_cons.mpr ⟨⟨md_J0_charAt_5068e, mt_J0_charAt_5068e, Or.inl ⟨rfl, (tm1 187 rfl)⟩⟩, List.forall_mem_cons.mpr ⟨⟨md_X1_fits, mt_X1_fits, Or.inl ⟨rfl, (tm1 225 rfl)⟩⟩, List.forall_mem_cons.mpr ⟨⟨md_X1_kind, mt_X1_kind, Or.inl ⟨rfl, (tm1 229 rfl)⟩⟩, List.forall_mem_cons.mpr ⟨⟨md_X2_at, mt_X2_at, Or.inl ⟨rfl, (tm2 57 rfl)⟩⟩, List.forall_mem_cons.mpr ⟨⟨md_X0_become, mt_X0_become, Or.inl ⟨rfl, (tm2 61 rfl)⟩⟩, List.forall_mem_cons.mpr ⟨⟨md_X3_rangeFault, mt_X3_rangeFault, Or.inr ⟨rfl, rfl, List.mem_of_getElem? (i := 0) rfl⟩⟩, List.forall_mem_cons.mpr ⟨⟨md_X3_firstOf, mt_X3_firstOf, Or.inr ⟨rfl, rfl, List.mem_of_getElem? (i := 1) rfl⟩⟩, List.forall_mem_cons.mpr ⟨⟨md_X3_whatFault, mt_X3_whatFault, Or.inr ⟨rfl, rfl, List.mem_of_getElem? (i := 2) rfl⟩⟩, List.forall_mem_cons.mpr ⟨⟨md_X3_leastChoice, mt_X3_leastChoice, Or.inr ⟨rfl, rfl, List.mem_of_getElem? (i := 3) rfl⟩⟩, List.forall_mem_cons.mpr ⟨⟨md_X3_mostChoice, mt_X3_mostChoice, Or.inr ⟨rfl, rfl, List.mem_of_getElem? (i := 4) rfl⟩⟩, List.forall_mem_cons.mpr ⟨⟨md_X2_caskFault, mt_X2_caskFault, Or.inl ⟨rfl, (tm2 112 rfl)⟩⟩, List.forall_mem_cons.mpr ⟨⟨md_X2_pourFault, mt_X2_pourFault, Or.inl ⟨rfl, (tm2 108 rfl)⟩⟩, List.forall_mem_cons.mpr ⟨⟨md_X2_pouredStrength, mt_X2_pouredStrength, Or.inl ⟨rfl, (tm2 116 rfl)⟩⟩, List.forall_mem_cons.mpr ⟨⟨md_X0_worth, mt_X0_worth, Or.inl ⟨rfl, (tm3 43 rfl)⟩⟩, List.forall_mem_cons.mpr ⟨⟨md_J9_min_7cf53, mt_J9_min_7cf53, Or.inl ⟨rfl, (tm2 132 rfl)⟩⟩, fun _ h => absurd h List.not_mem_nil⟩⟩⟩⟩⟩⟩⟩⟩⟩⟩⟩⟩⟩⟩⟩⟩⟩⟩⟩⟩⟩⟩⟩⟩
set_option maxRecDepth 100000 in
theorem sok_1 : ∀ e ∈ sTL_1, SdP e := List.forall_mem_cons.mpr ⟨⟨md_X2_rateBy, mt_X2_rateBy, Or.inl ⟨rfl, (tm2 128 rfl)⟩⟩, List.forall_mem_cons.mpr ⟨⟨md_X0_goOn, mt_X0_goOn, Or.inl ⟨rfl, (tm2 133 rfl)⟩⟩, List.forall_mem_cons.mpr ⟨⟨md_X2_goOn, mt_X2_goOn, Or.inl ⟨rfl, (tm2 124 rfl)⟩⟩, List.forall_mem_cons.mpr ⟨⟨md_X2_dutyOf, mt_X2_dutyOf, Or.inl ⟨rfl, (tm3 4 rfl)⟩⟩, List.forall_mem_cons.mpr ⟨⟨md_X3_rangeFault, mt_X3_rangeFault, Or.inl ⟨rfl, (tm1 136 rfl)⟩⟩, List.forall_mem_cons.mpr ⟨⟨md_X1_isFull, mt_X1_isFull, Or.inl ⟨rfl, (tm1 139 rfl)⟩⟩, List.forall_mem_cons.mpr ⟨⟨md_X1_add, mt_X1_add, Or.inl ⟨rfl, (tm1 143 rfl)⟩⟩, List.forall_mem_cons.mpr ⟨⟨md_X3_refuse, mt_X3_refuse, Or.inl ⟨rfl, (tm1 147 rfl)⟩⟩, List.forall_mem_cons.mpr ⟨⟨md_X3_readLetters, mt_X3_readLetters, Or.inl ⟨rfl, (tm1 155 rfl)⟩⟩, List.forall_mem_cons.mpr ⟨⟨md_X1_forget, mt_X1_forget, Or.inl ⟨rfl, (tm2 151 rfl)⟩⟩, List.forall_mem_cons.mpr ⟨⟨md_X2_caskFault, mt_X2_caskFault, Or.inl ⟨rfl, (tm2 160 rfl)⟩⟩, List.forall_mem_cons.mpr ⟨⟨md_X3_whatFault, mt_X3_whatFault, Or.inl ⟨rfl, (tm2 161 rfl)⟩⟩, List.forall_mem_cons.mpr ⟨⟨md_X3_firstOf, mt_X3_firstOf, Or.inl ⟨rfl, (tm2 162 rfl)⟩⟩, List.forall_mem_cons.mpr ⟨⟨md_X2_at, mt_X2_at, Or.inl ⟨rfl, (tm2 163 rfl)⟩⟩, List.forall_mem_cons.mpr ⟨⟨md_X2_chosen, mt_X2_chosen, Or.inl ⟨rfl, (tm2 168 rfl)⟩⟩, List.forall_mem_cons.mpr ⟨⟨md_X2_choose, mt_X2_choose, Or.inl ⟨rfl, (tm2 87 rfl)⟩⟩, List.forall_mem_cons.mpr ⟨⟨md_X0_angelsPart, mt_X0_angelsPart, Or.inl ⟨rfl, (tm2 180 rfl)⟩⟩, List.forall_mem_cons.mpr ⟨⟨md_X2_pourOver, mt_X2_pourOver, Or.inl ⟨rfl, (tm2 104 rfl)⟩⟩, List.forall_mem_cons.mpr ⟨⟨md_X2_liveOn, mt_X2_liveOn, Or.inl ⟨rfl, (tm2 120 rfl)⟩⟩, List.forall_mem_cons.mpr ⟨⟨md_X3_yearsFault, mt_X3_yearsFault, Or.inl ⟨rfl, (tm2 193 rfl)⟩⟩, List.forall_mem_cons.mpr ⟨⟨md_X3_thinkOn, mt_X3_thinkOn, Or.inl ⟨rfl, (tm2 196 rfl)⟩⟩, List.forall_mem_cons.mpr ⟨⟨md_X2_allAmounts, mt_X2_allAmounts, Or.inl ⟨rfl, (tm2 205 rfl)⟩⟩, List.forall_mem_cons.mpr ⟨⟨md_X2_allTaken, mt_X2_allTaken, Or.inl ⟨rfl, (tm2 209 rfl)⟩⟩, List.forall_mem_cons.mpr ⟨⟨md_X2_fullest, mt_X2_fullest, Or.inl ⟨rfl, (tm2 213 rfl)⟩⟩, fun _ h => absurd h List.not_mem_nil⟩⟩⟩⟩⟩⟩⟩⟩⟩⟩⟩⟩⟩⟩⟩⟩⟩⟩⟩⟩⟩⟩⟩⟩
set_option maxRecDepth 100000 in
theorem sok_2 : ∀ e ∈ sTL_2, SdP e := List.forall_mem_cons.mpr ⟨⟨md_X3_caskOrAllFault, mt_X3_caskOrAllFault, Or.inl ⟨rfl, (tm2 221 rfl)⟩⟩, List.forall_mem_cons.mpr ⟨⟨md_X3_refuseLong, mt_X3_refuseLong, Or.inl ⟨rfl, (tm2 225 rfl)⟩⟩, List.forall_mem_cons.mpr ⟨⟨md_X3_partOf, mt_X3_partOf, Or.inl ⟨rfl, (tm2 230 rfl)⟩⟩, List.forall_mem_cons.mpr ⟨⟨md_X2_dutyOfAll, mt_X2_dutyOfAll, Or.inl ⟨rfl, (tm3 0 rfl)⟩⟩, List.forall_mem_cons.mpr ⟨⟨md_X2_dutyOf, mt_X2_dutyOf, Or.inl ⟨rfl, (tm3 8 rfl)⟩⟩, List.forall_mem_cons.mpr ⟨⟨md_X2_become, mt_X2_become, Or.inl ⟨rfl, (tm2 53 rfl)⟩⟩, List.forall_mem_cons.mpr ⟨⟨md_X2_goOn, mt_X2_goOn, Or.inl ⟨rfl, (tm2 200 rfl)⟩⟩, List.forall_mem_cons.mpr ⟨⟨md_X0_isHalfTheirs, mt_X0_isHalfTheirs, Or.inl ⟨rfl, (tm3 25 rfl)⟩⟩, List.forall_mem_cons.mpr ⟨⟨md_X2_pourFault, mt_X2_pourFault, Or.inl ⟨rfl, (tm3 33 rfl)⟩⟩, List.forall_mem_cons.mpr ⟨⟨md_X2_pouredStrength, mt_X2_pouredStrength, Or.inl ⟨rfl, (tm3 34 rfl)⟩⟩, List.forall_mem_cons.mpr ⟨⟨md_X2_blended, mt_X2_blended, Or.inl ⟨rfl, (tm3 39 rfl)⟩⟩, List.forall_mem_cons.mpr ⟨⟨md_J9_abs_0f7a4, mt_J9_abs_0f7a4, Or.inl ⟨rfl, (tm3 47 rfl)⟩⟩, List.forall_mem_cons.mpr ⟨⟨md_J9_min_7cf53, mt_J9_min_7cf53, Or.inl ⟨rfl, (tm3 54 rfl)⟩⟩, List.forall_mem_cons.mpr ⟨⟨md_J9_max_7cf53, mt_J9_max_7cf53, Or.inl ⟨rfl, (tm3 55 rfl)⟩⟩, List.forall_mem_cons.mpr ⟨⟨md_X0_worth, mt_X0_worth, Or.inl ⟨rfl, (tm3 60 rfl)⟩⟩, List.forall_mem_cons.mpr ⟨⟨md_X3_keepsLess, mt_X3_keepsLess, Or.inl ⟨rfl, (tm3 65 rfl)⟩⟩, List.forall_mem_cons.mpr ⟨⟨md_X3_bothKeep, mt_X3_bothKeep, Or.inl ⟨rfl, (tm3 73 rfl)⟩⟩, List.forall_mem_cons.mpr ⟨⟨md_X3_leastChoice, mt_X3_leastChoice, Or.inl ⟨rfl, (tm3 85 rfl)⟩⟩, List.forall_mem_cons.mpr ⟨⟨md_X3_mostChoice, mt_X3_mostChoice, Or.inl ⟨rfl, (tm3 86 rfl)⟩⟩, List.forall_mem_cons.mpr ⟨⟨md_X3_kindsByRow, mt_X3_kindsByRow, Or.inl ⟨rfl, (tm3 99 rfl)⟩⟩, List.forall_mem_cons.mpr ⟨⟨md_X3_ratesByRow, mt_X3_ratesByRow, Or.inl ⟨rfl, (tm3 107 rfl)⟩⟩, List.forall_mem_cons.mpr ⟨⟨md_X3_firstNotSo, mt_X3_firstNotSo, Or.inl ⟨rfl, (tm3 103 rfl)⟩⟩, List.forall_mem_cons.mpr ⟨⟨md_X3_chanceFault, mt_X3_chanceFault, Or.inl ⟨rfl, (tm3 119 rfl)⟩⟩, List.forall_mem_cons.mpr ⟨⟨md_X3_amountByLents, mt_X3_amountByLents, Or.inl ⟨rfl, (tm3 122 rfl)⟩⟩, fun _ h => absurd h List.not_mem_nil⟩⟩⟩⟩⟩⟩⟩⟩⟩⟩⟩⟩⟩⟩⟩⟩⟩⟩⟩⟩⟩⟩⟩⟩
set_option maxRecDepth 100000 in
theorem sok_3 : ∀ e ∈ sTL_3, SdP e := List.forall_mem_cons.mpr ⟨⟨md_J6_bitCount_0f7a4, mt_J6_bitCount_0f7a4, Or.inl ⟨rfl, (tm3 129 rfl)⟩⟩, List.forall_mem_cons.mpr ⟨⟨md_X3_power, mt_X3_power, Or.inl ⟨rfl, (tm3 135 rfl)⟩⟩, List.forall_mem_cons.mpr ⟨⟨md_X3_nextSeed, mt_X3_nextSeed, Or.inl ⟨rfl, (tm3 142 rfl)⟩⟩, List.forall_mem_cons.mpr ⟨⟨md_X3_drawn, mt_X3_drawn, Or.inl ⟨rfl, (tm3 147 rfl)⟩⟩, List.forall_mem_cons.mpr ⟨⟨md_X3_refused, mt_X3_refused, Or.inl ⟨rfl, (tm3 163 rfl)⟩⟩, List.forall_mem_cons.mpr ⟨⟨md_X1_firstWrong, mt_X1_firstWrong, Or.inl ⟨rfl, (tm1 159 rfl)⟩⟩, List.forall_mem_cons.mpr ⟨⟨md_X1_at, mt_X1_at, Or.inl ⟨rfl, (tm2 65 rfl)⟩⟩, List.forall_mem_cons.mpr ⟨⟨md_X3_statementFault, mt_X3_statementFault, Or.inl ⟨rfl, (tm2 66 rfl)⟩⟩, List.forall_mem_cons.mpr ⟨⟨md_X3_caskComes, mt_X3_caskComes, Or.inl ⟨rfl, (tm2 70 rfl)⟩⟩, List.forall_mem_cons.mpr ⟨⟨md_X1_number, mt_X1_number, Or.inl ⟨rfl, (tm2 75 rfl)⟩⟩, List.forall_mem_cons.mpr ⟨⟨md_X3_pourComes, mt_X3_pourComes, Or.inl ⟨rfl, (tm2 100 rfl)⟩⟩, List.forall_mem_cons.mpr ⟨⟨md_X1_kind, mt_X1_kind, Or.inl ⟨rfl, (tm2 74 rfl)⟩⟩, List.forall_mem_cons.mpr ⟨⟨md_X2_addCask, mt_X2_addCask, Or.inl ⟨rfl, (tm2 79 rfl)⟩⟩, List.forall_mem_cons.mpr ⟨⟨md_X3_thinkTreaty, mt_X3_thinkTreaty, Or.inl ⟨rfl, (tm3 77 rfl)⟩⟩, List.forall_mem_cons.mpr ⟨⟨md_X0_become, mt_X0_become, Or.inl ⟨rfl, (tm3 126 rfl)⟩⟩, List.forall_mem_cons.mpr ⟨⟨md_X2_rateBy, mt_X2_rateBy, Or.inl ⟨rfl, (tm3 127 rfl)⟩⟩, List.forall_mem_cons.mpr ⟨⟨md_X0_goOn, mt_X0_goOn, Or.inl ⟨rfl, (tm3 128 rfl)⟩⟩, List.forall_mem_cons.mpr ⟨⟨md_X3_commonDivisor, mt_X3_commonDivisor, Or.inl ⟨rfl, (tm2 233 rfl)⟩⟩, List.forall_mem_cons.mpr ⟨⟨md_X4_no, mt_X4_no, Or.inl ⟨rfl, (tm3 223 rfl)⟩⟩, List.forall_mem_cons.mpr ⟨⟨md_X4_isIn, mt_X4_isIn, Or.inl ⟨rfl, (tm4 10 rfl)⟩⟩, List.forall_mem_cons.mpr ⟨⟨md_X4_at, mt_X4_at, Or.inl ⟨rfl, (tm4 20 rfl)⟩⟩, List.forall_mem_cons.mpr ⟨⟨md_X4_least, mt_X4_least, Or.inl ⟨rfl, (tm4 51 rfl)⟩⟩, List.forall_mem_cons.mpr ⟨⟨md_X4_takesOf, mt_X4_takesOf, Or.inl ⟨rfl, (tm4 54 rfl)⟩⟩, List.forall_mem_cons.mpr ⟨⟨md_X4_strengthOf, mt_X4_strengthOf, Or.inl ⟨rfl, (tm4 57 rfl)⟩⟩, fun _ h => absurd h List.not_mem_nil⟩⟩⟩⟩⟩⟩⟩⟩⟩⟩⟩⟩⟩⟩⟩⟩⟩⟩⟩⟩⟩⟩⟩⟩
set_option maxRecDepth 100000 in
theorem sok_4 : ∀ e ∈ sTL_4, SdP e := List.forall_mem_cons.mpr ⟨⟨md_X4_backOf, mt_X4_backOf, Or.inl ⟨rfl, (tm4 60 rfl)⟩⟩, List.forall_mem_cons.mpr ⟨⟨md_X4_yearBy, mt_X4_yearBy, Or.inl ⟨rfl, (tm4 47 rfl)⟩⟩, List.forall_mem_cons.mpr ⟨⟨md_X4_year, mt_X4_year, Or.inl ⟨rfl, (tm4 43 rfl)⟩⟩, List.forall_mem_cons.mpr ⟨⟨md_X4_lays, mt_X4_lays, Or.inl ⟨rfl, (tm4 13 rfl)⟩⟩, List.forall_mem_cons.mpr ⟨⟨md_X4_yearsOn, mt_X4_yearsOn, Or.inl ⟨rfl, (tm4 39 rfl)⟩⟩, List.forall_mem_cons.mpr ⟨⟨md_X4_here, mt_X4_here, Or.inl ⟨rfl, (tm3 235 rfl)⟩⟩, List.forall_mem_cons.mpr ⟨⟨md_X4_kindOf, mt_X4_kindOf, Or.inl ⟨rfl, (tm4 3 rfl)⟩⟩, List.forall_mem_cons.mpr ⟨⟨md_X4_readsKind, mt_X4_readsKind, Or.inl ⟨rfl, (tm3 239 rfl)⟩⟩, List.forall_mem_cons.mpr ⟨⟨md_X4_readsNumber, mt_X4_readsNumber, Or.inl ⟨rfl, (tm4 6 rfl)⟩⟩, List.forall_mem_cons.mpr ⟨⟨md_X4_mixed, mt_X4_mixed, Or.inl ⟨rfl, (tm4 35 rfl)⟩⟩, List.forall_mem_cons.mpr ⟨⟨md_X4_isCask, mt_X4_isCask, Or.inl ⟨rfl, (tm4 23 rfl)⟩⟩, List.forall_mem_cons.mpr ⟨⟨md_X4_canPour, mt_X4_canPour, Or.inl ⟨rfl, (tm4 27 rfl)⟩⟩, List.forall_mem_cons.mpr ⟨⟨md_X4_pours, mt_X4_pours, Or.inl ⟨rfl, (tm4 31 rfl)⟩⟩, List.forall_mem_cons.mpr ⟨⟨md_X4_readsStatement, mt_X4_readsStatement, Or.inl ⟨rfl, (tm3 231 rfl)⟩⟩, List.forall_mem_cons.mpr ⟨⟨md_X4_isDone, mt_X4_isDone, Or.inl ⟨rfl, (tm4 16 rfl)⟩⟩, List.forall_mem_cons.mpr ⟨⟨md_X4_wrongYears, mt_X4_wrongYears, Or.inl ⟨rfl, (tm4 91 rfl)⟩⟩, List.forall_mem_cons.mpr ⟨⟨md_X4_inMind, mt_X4_inMind, Or.inl ⟨rfl, (tm4 94 rfl)⟩⟩, List.forall_mem_cons.mpr ⟨⟨md_X4_sumOf, mt_X4_sumOf, Or.inl ⟨rfl, (tm4 102 rfl)⟩⟩, List.forall_mem_cons.mpr ⟨⟨md_X4_gcd, mt_X4_gcd, Or.inl ⟨rfl, (tm4 117 rfl)⟩⟩, List.forall_mem_cons.mpr ⟨⟨md_X4_noWide, mt_X4_noWide, Or.inl ⟨rfl, (tm4 109 rfl)⟩⟩, List.forall_mem_cons.mpr ⟨⟨md_X4_partOf, mt_X4_partOf, Or.inl ⟨rfl, (tm4 114 rfl)⟩⟩, List.forall_mem_cons.mpr ⟨⟨md_X4_exciseOf, mt_X4_exciseOf, Or.inl ⟨rfl, (tm4 127 rfl)⟩⟩, List.forall_mem_cons.mpr ⟨⟨md_X4_exciseAll, mt_X4_exciseAll, Or.inl ⟨rfl, (tm4 124 rfl)⟩⟩, List.forall_mem_cons.mpr ⟨⟨md_X4_size, mt_X4_size, Or.inl ⟨rfl, (tm4 155 rfl)⟩⟩, fun _ h => absurd h List.not_mem_nil⟩⟩⟩⟩⟩⟩⟩⟩⟩⟩⟩⟩⟩⟩⟩⟩⟩⟩⟩⟩⟩⟩⟩⟩
set_option maxRecDepth 100000 in
theorem sok_5 : ∀ e ∈ sTL_5, SdP e := List.forall_mem_cons.mpr ⟨⟨md_X4_worthOf, mt_X4_worthOf, Or.inl ⟨rfl, (tm4 166 rfl)⟩⟩, List.forall_mem_cons.mpr ⟨⟨md_X4_byTreaty, mt_X4_byTreaty, Or.inl ⟨rfl, (tm4 177 rfl)⟩⟩, List.forall_mem_cons.mpr ⟨⟨md_X4_firstWrong, mt_X4_firstWrong, Or.inl ⟨rfl, (tm4 198 rfl)⟩⟩, List.forall_mem_cons.mpr ⟨⟨md_X4_drawn, mt_X4_drawn, Or.inl ⟨rfl, (tm4 214 rfl)⟩⟩, List.forall_mem_cons.mpr ⟨⟨md_X3_letter, mt_X3_letter, Or.inl ⟨rfl, (tm1 132 rfl)⟩⟩, List.forall_mem_cons.mpr ⟨⟨md_X4_letter, mt_X4_letter, Or.inl ⟨rfl, (tm3 219 rfl)⟩⟩, List.forall_mem_cons.mpr ⟨⟨md_X3_town, mt_X3_town, Or.inl ⟨rfl, (tm1 151 rfl)⟩⟩, List.forall_mem_cons.mpr ⟨⟨md_X4_town, mt_X4_town, Or.inl ⟨rfl, (tm3 227 rfl)⟩⟩, List.forall_mem_cons.mpr ⟨⟨md_X3_cask, mt_X3_cask, Or.inl ⟨rfl, (tm2 156 rfl)⟩⟩, List.forall_mem_cons.mpr ⟨⟨md_X4_cask, mt_X4_cask, Or.inl ⟨rfl, (tm4 63 rfl)⟩⟩, List.forall_mem_cons.mpr ⟨⟨md_X3_set, mt_X3_set, Or.inl ⟨rfl, (tm2 164 rfl)⟩⟩, List.forall_mem_cons.mpr ⟨⟨md_X4_set, mt_X4_set, Or.inl ⟨rfl, (tm4 67 rfl)⟩⟩, List.forall_mem_cons.mpr ⟨⟨md_X3_fill, mt_X3_fill, Or.inl ⟨rfl, (tm2 172 rfl)⟩⟩, List.forall_mem_cons.mpr ⟨⟨md_X4_fill, mt_X4_fill, Or.inl ⟨rfl, (tm4 71 rfl)⟩⟩, List.forall_mem_cons.mpr ⟨⟨md_X3_takes, mt_X3_takes, Or.inl ⟨rfl, (tm2 176 rfl)⟩⟩, List.forall_mem_cons.mpr ⟨⟨md_X4_takes, mt_X4_takes, Or.inl ⟨rfl, (tm4 75 rfl)⟩⟩, List.forall_mem_cons.mpr ⟨⟨md_X3_pour, mt_X3_pour, Or.inl ⟨rfl, (tm2 181 rfl)⟩⟩, List.forall_mem_cons.mpr ⟨⟨md_X4_pour, mt_X4_pour, Or.inl ⟨rfl, (tm4 79 rfl)⟩⟩, List.forall_mem_cons.mpr ⟨⟨md_X3_years, mt_X3_years, Or.inl ⟨rfl, (tm2 185 rfl)⟩⟩, List.forall_mem_cons.mpr ⟨⟨md_X4_years, mt_X4_years, Or.inl ⟨rfl, (tm4 83 rfl)⟩⟩, List.forall_mem_cons.mpr ⟨⟨md_X3_behind, mt_X3_behind, Or.inl ⟨rfl, (tm2 189 rfl)⟩⟩, List.forall_mem_cons.mpr ⟨⟨md_X4_behind, mt_X4_behind, Or.inl ⟨rfl, (tm4 87 rfl)⟩⟩, List.forall_mem_cons.mpr ⟨⟨md_X3_allBehind, mt_X3_allBehind, Or.inl ⟨rfl, (tm2 201 rfl)⟩⟩, List.forall_mem_cons.mpr ⟨⟨md_X4_allBehind, mt_X4_allBehind, Or.inl ⟨rfl, (tm4 98 rfl)⟩⟩, fun _ h => absurd h List.not_mem_nil⟩⟩⟩⟩⟩⟩⟩⟩⟩⟩⟩⟩⟩⟩⟩⟩⟩⟩⟩⟩⟩⟩⟩⟩
set_option maxRecDepth 100000 in
theorem sok_6 : ∀ e ∈ sTL_6, SdP e := List.forall_mem_cons.mpr ⟨⟨md_X3_theirs, mt_X3_theirs, Or.inl ⟨rfl, (tm2 217 rfl)⟩⟩, List.forall_mem_cons.mpr ⟨⟨md_X4_theirs, mt_X4_theirs, Or.inl ⟨rfl, (tm4 105 rfl)⟩⟩, List.forall_mem_cons.mpr ⟨⟨md_X3_excise, mt_X3_excise, Or.inl ⟨rfl, (tm2 236 rfl)⟩⟩, List.forall_mem_cons.mpr ⟨⟨md_X4_excise, mt_X4_excise, Or.inl ⟨rfl, (tm4 120 rfl)⟩⟩, List.forall_mem_cons.mpr ⟨⟨md_X3_exciseIn, mt_X3_exciseIn, Or.inl ⟨rfl, (tm3 9 rfl)⟩⟩, List.forall_mem_cons.mpr ⟨⟨md_X4_exciseIn, mt_X4_exciseIn, Or.inl ⟨rfl, (tm4 130 rfl)⟩⟩, List.forall_mem_cons.mpr ⟨⟨md_X3_low, mt_X3_low, Or.inl ⟨rfl, (tm3 13 rfl)⟩⟩, List.forall_mem_cons.mpr ⟨⟨md_X4_low, mt_X4_low, Or.inl ⟨rfl, (tm4 134 rfl)⟩⟩, List.forall_mem_cons.mpr ⟨⟨md_X3_turns, mt_X3_turns, Or.inl ⟨rfl, (tm3 17 rfl)⟩⟩, List.forall_mem_cons.mpr ⟨⟨md_X4_turns, mt_X4_turns, Or.inl ⟨rfl, (tm4 138 rfl)⟩⟩, List.forall_mem_cons.mpr ⟨⟨md_X3_hum, mt_X3_hum, Or.inl ⟨rfl, (tm3 21 rfl)⟩⟩, List.forall_mem_cons.mpr ⟨⟨md_X4_hum, mt_X4_hum, Or.inl ⟨rfl, (tm4 142 rfl)⟩⟩, List.forall_mem_cons.mpr ⟨⟨md_X3_pourFor, mt_X3_pourFor, Or.inl ⟨rfl, (tm3 29 rfl)⟩⟩, List.forall_mem_cons.mpr ⟨⟨md_X4_pourFor, mt_X4_pourFor, Or.inl ⟨rfl, (tm4 146 rfl)⟩⟩, List.forall_mem_cons.mpr ⟨⟨md_X3_blend, mt_X3_blend, Or.inl ⟨rfl, (tm3 35 rfl)⟩⟩, List.forall_mem_cons.mpr ⟨⟨md_X4_blend, mt_X4_blend, Or.inl ⟨rfl, (tm4 150 rfl)⟩⟩, List.forall_mem_cons.mpr ⟨⟨md_X3_spread, mt_X3_spread, Or.inl ⟨rfl, (tm3 50 rfl)⟩⟩, List.forall_mem_cons.mpr ⟨⟨md_X4_spread, mt_X4_spread, Or.inl ⟨rfl, (tm4 158 rfl)⟩⟩, List.forall_mem_cons.mpr ⟨⟨md_X3_layDown, mt_X3_layDown, Or.inl ⟨rfl, (tm3 56 rfl)⟩⟩, List.forall_mem_cons.mpr ⟨⟨md_X4_layDown, mt_X4_layDown, Or.inl ⟨rfl, (tm4 162 rfl)⟩⟩, List.forall_mem_cons.mpr ⟨⟨md_X3_sell, mt_X3_sell, Or.inl ⟨rfl, (tm3 61 rfl)⟩⟩, List.forall_mem_cons.mpr ⟨⟨md_X4_sell, mt_X4_sell, Or.inl ⟨rfl, (tm4 169 rfl)⟩⟩, List.forall_mem_cons.mpr ⟨⟨md_X3_treaty, mt_X3_treaty, Or.inl ⟨rfl, (tm3 69 rfl)⟩⟩, List.forall_mem_cons.mpr ⟨⟨md_X4_treaty, mt_X4_treaty, Or.inl ⟨rfl, (tm4 173 rfl)⟩⟩, fun _ h => absurd h List.not_mem_nil⟩⟩⟩⟩⟩⟩⟩⟩⟩⟩⟩⟩⟩⟩⟩⟩⟩⟩⟩⟩⟩⟩⟩⟩
set_option maxRecDepth 100000 in
theorem sok_7 : ∀ e ∈ sTL_7, SdP e := List.forall_mem_cons.mpr ⟨⟨md_X3_bestSet, mt_X3_bestSet, Or.inl ⟨rfl, (tm3 81 rfl)⟩⟩, List.forall_mem_cons.mpr ⟨⟨md_X4_bestSet, mt_X4_bestSet, Or.inl ⟨rfl, (tm4 181 rfl)⟩⟩, List.forall_mem_cons.mpr ⟨⟨md_X3_iron, mt_X3_iron, Or.inl ⟨rfl, (tm3 87 rfl)⟩⟩, List.forall_mem_cons.mpr ⟨⟨md_X4_iron, mt_X4_iron, Or.inl ⟨rfl, (tm4 186 rfl)⟩⟩, List.forall_mem_cons.mpr ⟨⟨md_X3_row, mt_X3_row, Or.inl ⟨rfl, (tm3 91 rfl)⟩⟩, List.forall_mem_cons.mpr ⟨⟨md_X4_row, mt_X4_row, Or.inl ⟨rfl, (tm4 190 rfl)⟩⟩, List.forall_mem_cons.mpr ⟨⟨md_X3_which, mt_X3_which, Or.inl ⟨rfl, (tm3 95 rfl)⟩⟩, List.forall_mem_cons.mpr ⟨⟨md_X4_which, mt_X4_which, Or.inl ⟨rfl, (tm4 194 rfl)⟩⟩, List.forall_mem_cons.mpr ⟨⟨md_X3_judge, mt_X3_judge, Or.inl ⟨rfl, (tm3 111 rfl)⟩⟩, List.forall_mem_cons.mpr ⟨⟨md_X4_judge, mt_X4_judge, Or.inl ⟨rfl, (tm4 202 rfl)⟩⟩, List.forall_mem_cons.mpr ⟨⟨md_X3_chance, mt_X3_chance, Or.inl ⟨rfl, (tm3 115 rfl)⟩⟩, List.forall_mem_cons.mpr ⟨⟨md_X4_chance, mt_X4_chance, Or.inl ⟨rfl, (tm4 206 rfl)⟩⟩, List.forall_mem_cons.mpr ⟨⟨md_X3_lots, mt_X3_lots, Or.inl ⟨rfl, (tm3 138 rfl)⟩⟩, List.forall_mem_cons.mpr ⟨⟨md_X4_lots, mt_X4_lots, Or.inl ⟨rfl, (tm4 210 rfl)⟩⟩, List.forall_mem_cons.mpr ⟨⟨md_X3_image, mt_X3_image, Or.inl ⟨rfl, (tm3 151 rfl)⟩⟩, List.forall_mem_cons.mpr ⟨⟨md_X4_image, mt_X4_image, Or.inl ⟨rfl, (tm4 221 rfl)⟩⟩, List.forall_mem_cons.mpr ⟨⟨md_X3_on, mt_X3_on, Or.inl ⟨rfl, (tm3 155 rfl)⟩⟩, List.forall_mem_cons.mpr ⟨⟨md_X4_on, mt_X4_on, Or.inl ⟨rfl, (tm4 225 rfl)⟩⟩, List.forall_mem_cons.mpr ⟨⟨md_X3_count, mt_X3_count, Or.inl ⟨rfl, (tm3 159 rfl)⟩⟩, List.forall_mem_cons.mpr ⟨⟨md_X4_count, mt_X4_count, Or.inl ⟨rfl, (tm4 229 rfl)⟩⟩, List.forall_mem_cons.mpr ⟨⟨md_J0_coder_7d493, mt_J0_coder_7d493, Or.inl ⟨rfl, (tm1 168 rfl)⟩⟩, List.forall_mem_cons.mpr ⟨⟨md_J0_isLatin1_aae02, mt_J0_isLatin1_aae02, Or.inl ⟨rfl, (tm1 191 rfl)⟩⟩, List.forall_mem_cons.mpr ⟨⟨md_J1_charAt_3b067, mt_J1_charAt_3b067, Or.inl ⟨rfl, (tm1 195 rfl)⟩⟩, List.forall_mem_cons.mpr ⟨⟨md_J0_length_8abf5, mt_J0_length_8abf5, Or.inl ⟨rfl, (tm2 2 rfl)⟩⟩, fun _ h => absurd h List.not_mem_nil⟩⟩⟩⟩⟩⟩⟩⟩⟩⟩⟩⟩⟩⟩⟩⟩⟩⟩⟩⟩⟩⟩⟩⟩
set_option maxRecDepth 100000 in
theorem sok_8 : ∀ e ∈ sTL_8, SdP e := List.forall_mem_cons.mpr ⟨⟨md_J0_indexOf_7cf53, mt_J0_indexOf_7cf53, Or.inl ⟨rfl, (tm1 238 rfl)⟩⟩, List.forall_mem_cons.mpr ⟨⟨md_J1_indexOf_4cfef, mt_J1_indexOf_4cfef, Or.inl ⟨rfl, (tm2 3 rfl)⟩⟩, List.forall_mem_cons.mpr ⟨⟨md_J3_checkIndex_8e157, mt_J3_checkIndex_8e157, Or.inl ⟨rfl, (tm1 203 rfl)⟩⟩, List.forall_mem_cons.mpr ⟨⟨md_J0_checkIndex_df160, mt_J0_checkIndex_df160, Or.inl ⟨rfl, (tm1 198 rfl)⟩⟩, List.forall_mem_cons.mpr ⟨⟨md_J9_min_7cf53, mt_J9_min_7cf53, Or.inl ⟨rfl, (tm2 12 rfl)⟩⟩, List.forall_mem_cons.mpr ⟨⟨md_J1_canEncode_9a6ad, mt_J1_canEncode_9a6ad, Or.inl ⟨rfl, (tm2 6 rfl)⟩⟩, List.forall_mem_cons.mpr ⟨⟨md_J9_max_7cf53, mt_J9_max_7cf53, Or.inl ⟨rfl, (tm2 9 rfl)⟩⟩, List.forall_mem_cons.mpr ⟨⟨md_J1_indexOfChar_4cfef, mt_J1_indexOfChar_4cfef, Or.inl ⟨rfl, (tm2 15 rfl)⟩⟩, fun _ h => absurd h List.not_mem_nil⟩⟩⟩⟩⟩⟩⟩⟩
theorem sok : ∀ e ∈ sTL, SdP e := List.forall_mem_append.mpr ⟨sok_0, List.forall_mem_append.mpr ⟨sok_1, List.forall_mem_append.mpr ⟨sok_2, List.forall_mem_append.mpr ⟨sok_3, List.forall_mem_append.mpr ⟨sok_4, List.forall_mem_append.mpr ⟨sok_5, List.forall_mem_append.mpr ⟨sok_6, List.forall_mem_append.mpr ⟨sok_7, sok_8⟩⟩⟩⟩⟩⟩⟩⟩
theorem sq_0_30 : lk2 sTL 0 30 = some (false, 2) := by decide +kernel
theorem sq_0_36 : lk2 sTL 0 36 = some (false, 1) := by decide +kernel
theorem sq_0_39 : lk2 sTL 0 39 = some (false, 17) := by decide +kernel
theorem sq_0_42 : lk2 sTL 0 42 = some (false, 18) := by decide +kernel
theorem sq_0_46 : lk2 sTL 0 46 = some (false, 19) := by decide +kernel
theorem sq_1_19 : lk2 sTL 1 19 = some (false, 26) := by decide +kernel
theorem sq_1_25 : lk2 sTL 1 25 = some (false, 6) := by decide +kernel
theorem sq_1_32 : lk2 sTL 1 32 = some (false, 4) := by decide +kernel
theorem sq_1_35 : lk2 sTL 1 35 = some (false, 31) := by decide +kernel
theorem sq_1_39 : lk2 sTL 1 39 = some (false, 5) := by decide +kernel
theorem sq_1_43 : lk2 sTL 1 43 = some (false, 30) := by decide +kernel
theorem sq_1_47 : lk2 sTL 1 47 = some (false, 27) := by decide +kernel
theorem sq_2_38 : lk2 sTL 2 38 = some (false, 32) := by decide +kernel
theorem sq_2_42 : lk2 sTL 2 42 = some (false, 16) := by decide +kernel
theorem sq_2_46 : lk2 sTL 2 46 = some (true, 86) := by decide +kernel
theorem sq_2_50 : lk2 sTL 2 50 = some (true, 85) := by decide +kernel
theorem sq_2_71 : lk2 sTL 2 71 = some (true, 87) := by decide +kernel
theorem sq_2_75 : lk2 sTL 2 75 = some (true, 91) := by decide +kernel
theorem sq_2_79 : lk2 sTL 2 79 = some (true, 92) := by decide +kernel
theorem sq_2_82 : lk2 sTL 2 82 = some (false, 34) := by decide +kernel
theorem sq_2_85 : lk2 sTL 2 85 = some (false, 38) := by decide +kernel
theorem sq_2_88 : lk2 sTL 2 88 = some (false, 39) := by decide +kernel
theorem sq_2_91 : lk2 sTL 2 91 = some (false, 22) := by decide +kernel
theorem sq_2_95 : lk2 sTL 2 95 = some (false, 2) := by decide +kernel
theorem sq_2_100 : lk2 sTL 2 100 = some (false, 42) := by decide +kernel
theorem sq_2_104 : lk2 sTL 2 104 = some (false, 20) := by decide +kernel
theorem sq_2_108 : lk2 sTL 2 108 = some (false, 43) := by decide +kernel
theorem sq_2_111 : lk2 sTL 2 111 = some (false, 48) := by decide +kernel
theorem sq_3_44 : lk2 sTL 3 44 = some (false, 86) := by decide +kernel
theorem sq_3_48 : lk2 sTL 3 48 = some (false, 23) := by decide +kernel
theorem sq_3_52 : lk2 sTL 3 52 = some (false, 24) := by decide +kernel
theorem sq_3_56 : lk2 sTL 3 56 = some (false, 82) := by decide +kernel
theorem sq_3_59 : lk2 sTL 3 59 = some (false, 93) := by decide +kernel
theorem sq_3_63 : lk2 sTL 3 63 = some (false, 25) := by decide +kernel
theorem sq_3_66 : lk2 sTL 3 66 = some (false, 34) := by decide +kernel
theorem sq_3_69 : lk2 sTL 3 69 = some (false, 87) := by decide +kernel
theorem sq_3_73 : lk2 sTL 3 73 = some (false, 85) := by decide +kernel
theorem sq_3_76 : lk2 sTL 3 76 = some (false, 32) := by decide +kernel
theorem sq_3_100 : lk2 sTL 3 100 = some (false, 36) := by decide +kernel
theorem sq_3_103 : lk2 sTL 3 103 = some (false, 37) := by decide +kernel
theorem sq_3_106 : lk2 sTL 3 106 = some (false, 17) := by decide +kernel
theorem sq_3_109 : lk2 sTL 3 109 = some (false, 40) := by decide +kernel
theorem sq_3_112 : lk2 sTL 3 112 = some (false, 44) := by decide +kernel
theorem sq_3_118 : lk2 sTL 3 118 = some (false, 88) := by decide +kernel
theorem sq_3_121 : lk2 sTL 3 121 = some (false, 97) := by decide +kernel
theorem sq_3_125 : lk2 sTL 3 125 = some (false, 45) := by decide +kernel
theorem sq_3_128 : lk2 sTL 3 128 = some (false, 46) := by decide +kernel
theorem sq_3_131 : lk2 sTL 3 131 = some (false, 47) := by decide +kernel
theorem sq_3_134 : lk2 sTL 3 134 = some (false, 89) := by decide +kernel
theorem sq_3_137 : lk2 sTL 3 137 = some (false, 83) := by decide +kernel
theorem sq_3_141 : lk2 sTL 3 141 = some (false, 108) := by decide +kernel
theorem sq_3_145 : lk2 sTL 3 145 = some (false, 49) := by decide +kernel
theorem sq_3_148 : lk2 sTL 3 148 = some (false, 48) := by decide +kernel
theorem sq_3_151 : lk2 sTL 3 151 = some (false, 33) := by decide +kernel
theorem sq_3_155 : lk2 sTL 3 155 = some (false, 43) := by decide +kernel
theorem sq_3_158 : lk2 sTL 3 158 = some (false, 21) := by decide +kernel
theorem sq_3_164 : lk2 sTL 3 164 = some (false, 38) := by decide +kernel
theorem sq_3_167 : lk2 sTL 3 167 = some (false, 39) := by decide +kernel
theorem sq_3_170 : lk2 sTL 3 170 = some (false, 41) := by decide +kernel
theorem sq_3_173 : lk2 sTL 3 173 = some (false, 0) := by decide +kernel
theorem sq_3_178 : lk2 sTL 3 178 = some (false, 2) := by decide +kernel
theorem sq_3_181 : lk2 sTL 3 181 = some (false, 1) := by decide +kernel
theorem sq_3_184 : lk2 sTL 3 184 = some (false, 22) := by decide +kernel
theorem sq_3_187 : lk2 sTL 3 187 = some (false, 98) := by decide +kernel
theorem sq_3_191 : lk2 sTL 3 191 = some (false, 100) := by decide +kernel
theorem sq_3_195 : lk2 sTL 3 195 = some (false, 91) := by decide +kernel
theorem sq_3_198 : lk2 sTL 3 198 = some (false, 92) := by decide +kernel
theorem sq_3_201 : lk2 sTL 3 201 = some (false, 102) := by decide +kernel
theorem sq_3_204 : lk2 sTL 3 204 = some (false, 103) := by decide +kernel
theorem sq_3_207 : lk2 sTL 3 207 = some (false, 101) := by decide +kernel
theorem sq_3_210 : lk2 sTL 3 210 = some (false, 90) := by decide +kernel
theorem sq_3_213 : lk2 sTL 3 213 = some (false, 104) := by decide +kernel
theorem sq_3_216 : lk2 sTL 3 216 = some (false, 3) := by decide +kernel
theorem sq_3_221 : lk2 sTL 3 221 = some (false, 107) := by decide +kernel
theorem sq_3_225 : lk2 sTL 3 225 = some (false, 105) := by decide +kernel
theorem sq_3_228 : lk2 sTL 3 228 = some (false, 106) := by decide +kernel
theorem sq_3_243 : lk2 sTL 3 243 = some (false, 84) := by decide +kernel
theorem sq_3_248 : lk2 sTL 3 248 = some (false, 29) := by decide +kernel
theorem sq_3_251 : lk2 sTL 3 251 = some (false, 26) := by decide +kernel
theorem sq_3_253 : lk2 sTL 3 253 = some (false, 94) := by decide +kernel
theorem sq_3_256 : lk2 sTL 3 256 = some (false, 95) := by decide +kernel
theorem sq_3_259 : lk2 sTL 3 259 = some (false, 28) := by decide +kernel
theorem sq_3_262 : lk2 sTL 3 262 = some (false, 96) := by decide +kernel
theorem sq_3_265 : lk2 sTL 3 265 = some (false, 27) := by decide +kernel
theorem sq_3_267 : lk2 sTL 3 267 = some (false, 35) := by decide +kernel
theorem sq_3_271 : lk2 sTL 3 271 = some (false, 99) := by decide +kernel
theorem sq_3_275 : lk2 sTL 3 275 = some (false, 16) := by decide +kernel
theorem sq_3_278 : lk2 sTL 3 278 = some (false, 42) := by decide +kernel
theorem sq_3_282 : lk2 sTL 3 282 = some (false, 20) := by decide +kernel
theorem sq_3_288 : lk2 sTL 3 288 = some (false, 109) := by decide +kernel
theorem sq_4_36 : lk2 sTL 4 36 = some (false, 114) := by decide +kernel
theorem sq_4_40 : lk2 sTL 4 40 = some (false, 110) := by decide +kernel
theorem sq_4_44 : lk2 sTL 4 44 = some (false, 117) := by decide +kernel
theorem sq_4_48 : lk2 sTL 4 48 = some (false, 111) := by decide +kernel
theorem sq_4_58 : lk2 sTL 4 58 = some (false, 118) := by decide +kernel
theorem sq_4_62 : lk2 sTL 4 62 = some (false, 119) := by decide +kernel
theorem sq_4_66 : lk2 sTL 4 66 = some (false, 120) := by decide +kernel
theorem sq_4_70 : lk2 sTL 4 70 = some (false, 121) := by decide +kernel
theorem sq_4_74 : lk2 sTL 4 74 = some (false, 122) := by decide +kernel
theorem sq_4_78 : lk2 sTL 4 78 = some (false, 113) := by decide +kernel
theorem sq_4_82 : lk2 sTL 4 82 = some (false, 123) := by decide +kernel
theorem sq_4_92 : lk2 sTL 4 92 = some (false, 127) := by decide +kernel
theorem sq_4_96 : lk2 sTL 4 96 = some (false, 129) := by decide +kernel
theorem sq_4_99 : lk2 sTL 4 99 = some (false, 130) := by decide +kernel
theorem sq_4_103 : lk2 sTL 4 103 = some (false, 128) := by decide +kernel
theorem sq_4_107 : lk2 sTL 4 107 = some (false, 133) := by decide +kernel
theorem sq_4_111 : lk2 sTL 4 111 = some (false, 116) := by decide +kernel
theorem sq_4_115 : lk2 sTL 4 115 = some (false, 132) := by decide +kernel
theorem sq_4_118 : lk2 sTL 4 118 = some (false, 134) := by decide +kernel
theorem sq_4_122 : lk2 sTL 4 122 = some (false, 131) := by decide +kernel
theorem sq_4_125 : lk2 sTL 4 125 = some (false, 135) := by decide +kernel
theorem sq_4_128 : lk2 sTL 4 128 = some (false, 143) := by decide +kernel
theorem sq_4_131 : lk2 sTL 4 131 = some (false, 124) := by decide +kernel
theorem sq_4_135 : lk2 sTL 4 135 = some (false, 125) := by decide +kernel
theorem sq_4_138 : lk2 sTL 4 138 = some (false, 146) := by decide +kernel
theorem sq_4_142 : lk2 sTL 4 142 = some (false, 115) := by decide +kernel
theorem sq_4_146 : lk2 sTL 4 146 = some (false, 147) := by decide +kernel
theorem sq_4_150 : lk2 sTL 4 150 = some (false, 149) := by decide +kernel
theorem sq_4_153 : lk2 sTL 4 153 = some (false, 150) := by decide +kernel
theorem sq_4_158 : lk2 sTL 4 158 = some (false, 112) := by decide +kernel
theorem sq_4_161 : lk2 sTL 4 161 = some (false, 159) := by decide +kernel
theorem sq_4_164 : lk2 sTL 4 164 = some (false, 162) := by decide +kernel
theorem sq_4_173 : lk2 sTL 4 173 = some (false, 167) := by decide +kernel
theorem sq_4_182 : lk2 sTL 4 182 = some (false, 171) := by decide +kernel
theorem sq_5_13 : lk2 sTL 5 13 = some (false, 50) := by decide +kernel
theorem sq_5_17 : lk2 sTL 5 17 = some (false, 126) := by decide +kernel
theorem sq_5_18 : lk2 sTL 5 18 = some (false, 51) := by decide +kernel
theorem sq_5_22 : lk2 sTL 5 22 = some (false, 136) := by decide +kernel
theorem sq_5_23 : lk2 sTL 5 23 = some (false, 52) := by decide +kernel
theorem sq_5_27 : lk2 sTL 5 27 = some (false, 137) := by decide +kernel
theorem sq_5_28 : lk2 sTL 5 28 = some (false, 53) := by decide +kernel
theorem sq_5_31 : lk2 sTL 5 31 = some (false, 138) := by decide +kernel
theorem sq_5_32 : lk2 sTL 5 32 = some (false, 54) := by decide +kernel
theorem sq_5_35 : lk2 sTL 5 35 = some (false, 139) := by decide +kernel
theorem sq_5_36 : lk2 sTL 5 36 = some (false, 55) := by decide +kernel
theorem sq_5_40 : lk2 sTL 5 40 = some (false, 140) := by decide +kernel
theorem sq_5_41 : lk2 sTL 5 41 = some (false, 56) := by decide +kernel
theorem sq_5_44 : lk2 sTL 5 44 = some (false, 141) := by decide +kernel
theorem sq_5_45 : lk2 sTL 5 45 = some (false, 57) := by decide +kernel
theorem sq_5_48 : lk2 sTL 5 48 = some (false, 142) := by decide +kernel
theorem sq_5_49 : lk2 sTL 5 49 = some (false, 58) := by decide +kernel
theorem sq_5_52 : lk2 sTL 5 52 = some (false, 144) := by decide +kernel
theorem sq_5_53 : lk2 sTL 5 53 = some (false, 59) := by decide +kernel
theorem sq_5_56 : lk2 sTL 5 56 = some (false, 145) := by decide +kernel
theorem sq_5_57 : lk2 sTL 5 57 = some (false, 60) := by decide +kernel
theorem sq_5_61 : lk2 sTL 5 61 = some (false, 148) := by decide +kernel
theorem sq_5_62 : lk2 sTL 5 62 = some (false, 61) := by decide +kernel
theorem sq_5_65 : lk2 sTL 5 65 = some (false, 151) := by decide +kernel
theorem sq_5_66 : lk2 sTL 5 66 = some (false, 62) := by decide +kernel
theorem sq_5_69 : lk2 sTL 5 69 = some (false, 152) := by decide +kernel
theorem sq_5_70 : lk2 sTL 5 70 = some (false, 63) := by decide +kernel
theorem sq_5_73 : lk2 sTL 5 73 = some (false, 153) := by decide +kernel
theorem sq_5_74 : lk2 sTL 5 74 = some (false, 64) := by decide +kernel
theorem sq_5_77 : lk2 sTL 5 77 = some (false, 154) := by decide +kernel
theorem sq_5_78 : lk2 sTL 5 78 = some (false, 65) := by decide +kernel
theorem sq_5_81 : lk2 sTL 5 81 = some (false, 155) := by decide +kernel
theorem sq_5_82 : lk2 sTL 5 82 = some (false, 66) := by decide +kernel
theorem sq_5_85 : lk2 sTL 5 85 = some (false, 156) := by decide +kernel
theorem sq_5_86 : lk2 sTL 5 86 = some (false, 67) := by decide +kernel
theorem sq_5_89 : lk2 sTL 5 89 = some (false, 157) := by decide +kernel
theorem sq_5_90 : lk2 sTL 5 90 = some (false, 68) := by decide +kernel
theorem sq_5_93 : lk2 sTL 5 93 = some (false, 158) := by decide +kernel
theorem sq_5_94 : lk2 sTL 5 94 = some (false, 69) := by decide +kernel
theorem sq_5_97 : lk2 sTL 5 97 = some (false, 160) := by decide +kernel
theorem sq_5_98 : lk2 sTL 5 98 = some (false, 70) := by decide +kernel
theorem sq_5_101 : lk2 sTL 5 101 = some (false, 161) := by decide +kernel
theorem sq_5_102 : lk2 sTL 5 102 = some (false, 71) := by decide +kernel
theorem sq_5_105 : lk2 sTL 5 105 = some (false, 163) := by decide +kernel
theorem sq_5_106 : lk2 sTL 5 106 = some (false, 72) := by decide +kernel
theorem sq_5_109 : lk2 sTL 5 109 = some (false, 164) := by decide +kernel
theorem sq_5_110 : lk2 sTL 5 110 = some (false, 73) := by decide +kernel
theorem sq_5_113 : lk2 sTL 5 113 = some (false, 165) := by decide +kernel
theorem sq_5_114 : lk2 sTL 5 114 = some (false, 74) := by decide +kernel
theorem sq_5_117 : lk2 sTL 5 117 = some (false, 166) := by decide +kernel
theorem sq_5_118 : lk2 sTL 5 118 = some (false, 75) := by decide +kernel
theorem sq_5_121 : lk2 sTL 5 121 = some (false, 168) := by decide +kernel
theorem sq_5_122 : lk2 sTL 5 122 = some (false, 76) := by decide +kernel
theorem sq_5_125 : lk2 sTL 5 125 = some (false, 169) := by decide +kernel
theorem sq_5_126 : lk2 sTL 5 126 = some (false, 77) := by decide +kernel
theorem sq_5_130 : lk2 sTL 5 130 = some (false, 170) := by decide +kernel
theorem sq_5_131 : lk2 sTL 5 131 = some (false, 78) := by decide +kernel
theorem sq_5_134 : lk2 sTL 5 134 = some (false, 172) := by decide +kernel
theorem sq_5_135 : lk2 sTL 5 135 = some (false, 79) := by decide +kernel
theorem sq_5_138 : lk2 sTL 5 138 = some (false, 173) := by decide +kernel
theorem sq_5_139 : lk2 sTL 5 139 = some (false, 80) := by decide +kernel
theorem sq_5_142 : lk2 sTL 5 142 = some (false, 174) := by decide +kernel
theorem sq_5_143 : lk2 sTL 5 143 = some (false, 81) := by decide +kernel
theorem sq_5_146 : lk2 sTL 5 146 = some (false, 175) := by decide +kernel
theorem sq_10_335 : lk2 sTL 10 335 = some (false, 8) := by decide +kernel
theorem sq_10_492 : lk2 sTL 10 492 = some (false, 9) := by decide +kernel
theorem sq_10_495 : lk2 sTL 10 495 = some (false, 11) := by decide +kernel
theorem sq_10_505 : lk2 sTL 10 505 = some (false, 4) := by decide +kernel
theorem sq_10_633 : lk2 sTL 10 633 = some (false, 7) := by decide +kernel
theorem sq_10_637 : lk2 sTL 10 637 = some (false, 13) := by decide +kernel
theorem sq_10_1059 : lk2 sTL 10 1059 = some (false, 15) := by decide +kernel
theorem sq_11_9 : lk2 sTL 11 9 = some (false, 10) := by decide +kernel
theorem sq_11_38 : lk2 sTL 11 38 = some (false, 2) := by decide +kernel
theorem sq_11_88 : lk2 sTL 11 88 = some (false, 12) := by decide +kernel
theorem sq_11_92 : lk2 sTL 11 92 = some (false, 1) := by decide +kernel
theorem sq_11_95 : lk2 sTL 11 95 = some (false, 14) := by decide +kernel
def fTL : List (Nat × Nat × Nat × Nat) := [(0, 9, 0, 0), (0, 15, 0, 1), (0, 18, 0, 2), (0, 21, 0, 3), (0, 24, 0, 4), (0, 27, 0, 5), (1, 9, 1, 0), (1, 15, 1, 1), (2, 11, 2, 0), (2, 18, 2, 1), (2, 22, 2, 2), (2, 26, 2, 3), (2, 29, 2, 4), (2, 32, 2, 5), (2, 35, 2, 6), (2, 53, 0, 0), (2, 56, 0, 1), (2, 59, 0, 2), (2, 62, 0, 3), (2, 65, 0, 4), (2, 68, 0, 5), (3, 10, 3, 0), (3, 16, 3, 1), (3, 19, 3, 2), (3, 22, 3, 3), (3, 29, 3, 4), (3, 33, 3, 5), (3, 37, 3, 6), (3, 41, 3, 7), (3, 80, 0, 0), (3, 85, 0, 1), (3, 88, 0, 2), (3, 91, 0, 3), (3, 94, 0, 4), (3, 97, 0, 5), (3, 115, 2, 6), (3, 161, 2, 2), (3, 231, 2, 3), (3, 234, 2, 4), (3, 237, 2, 5), (3, 240, 1, 1), (4, 9, 4, 0), (4, 13, 4, 1), (4, 16, 4, 2), (4, 19, 4, 3), (4, 22, 4, 5), (4, 25, 4, 6), (4, 28, 4, 7), (4, 31, 4, 13), (4, 51, 4, 10), (4, 55, 4, 11), (4, 86, 4, 8), (4, 89, 4, 12), (4, 170, 4, 9), (4, 176, 4, 14), (4, 185, 4, 4)]
def FfP (e : Nat × Nat × Nat × Nat) : Prop := (Jvm.Cond.fieldLink (cn e.1) e.2.1 (cn e.2.2.1) (TT e.2.2.1 e.2.2.2).2.1 (TT e.2.2.1 e.2.2.2).2.2.1 ∈ lw_tbl ∧ (TT e.2.2.1 e.2.2.2).1 = cn e.2.2.1) ∧ e.2.2.2 < nfT e.2.2.1 ∧ e.2.2.1 < 5
set_option maxRecDepth 100000 in
theorem fok : ∀ e ∈ fTL, FfP e := List.forall_mem_cons.mpr ⟨⟨⟨(tm1 34 rfl), rfl⟩, by decide, by decide⟩, List.forall_mem_cons.mpr ⟨⟨⟨(tm1 37 rfl), rfl⟩, by decide, by decide⟩, List.forall_mem_cons.mpr ⟨⟨⟨(tm1 40 rfl), rfl⟩, by decide, by decide⟩, List.forall_mem_cons.mpr ⟨⟨⟨(tm1 43 rfl), rfl⟩, by decide, by decide⟩, List.forall_mem_cons.mpr ⟨⟨⟨(tm1 46 rfl), rfl⟩, by decide, by decide⟩, List.forall_mem_cons.mpr ⟨⟨⟨(tm1 49 rfl), rfl⟩, by decide, by decide⟩, List.forall_mem_cons.mpr ⟨⟨⟨(tm1 98 rfl), rfl⟩, by decide, by decide⟩, List.forall_mem_cons.mpr ⟨⟨⟨(tm1 99 rfl), rfl⟩, by decide, by decide⟩, List.forall_mem_cons.mpr ⟨⟨⟨(tm1 65 rfl), rfl⟩, by decide, by decide⟩, List.forall_mem_cons.mpr ⟨⟨⟨(tm1 66 rfl), rfl⟩, by decide, by decide⟩, List.forall_mem_cons.mpr ⟨⟨⟨(tm1 67 rfl), rfl⟩, by decide, by decide⟩, List.forall_mem_cons.mpr ⟨⟨⟨(tm1 69 rfl), rfl⟩, by decide, by decide⟩, List.forall_mem_cons.mpr ⟨⟨⟨(tm1 71 rfl), rfl⟩, by decide, by decide⟩, List.forall_mem_cons.mpr ⟨⟨⟨(tm1 73 rfl), rfl⟩, by decide, by decide⟩, List.forall_mem_cons.mpr ⟨⟨⟨(tm1 75 rfl), rfl⟩, by decide, by decide⟩, List.forall_mem_cons.mpr ⟨⟨⟨(tm1 36 rfl), rfl⟩, by decide, by decide⟩, List.forall_mem_cons.mpr ⟨⟨⟨(tm1 39 rfl), rfl⟩, by decide, by decide⟩, List.forall_mem_cons.mpr ⟨⟨⟨(tm1 42 rfl), rfl⟩, by decide, by decide⟩, List.forall_mem_cons.mpr ⟨⟨⟨(tm1 45 rfl), rfl⟩, by decide, by decide⟩, List.forall_mem_cons.mpr ⟨⟨⟨(tm1 48 rfl), rfl⟩, by decide, by decide⟩, List.forall_mem_cons.mpr ⟨⟨⟨(tm1 51 rfl), rfl⟩, by decide, by decide⟩, List.forall_mem_cons.mpr ⟨⟨⟨(tm1 107 rfl), rfl⟩, by decide, by decide⟩, List.forall_mem_cons.mpr ⟨⟨⟨(tm1 108 rfl), rfl⟩, by decide, by decide⟩, List.forall_mem_cons.mpr ⟨⟨⟨(tm1 109 rfl), rfl⟩, by decide, by decide⟩, List.forall_mem_cons.mpr ⟨⟨⟨(tm1 110 rfl), rfl⟩, by decide, by decide⟩, List.forall_mem_cons.mpr ⟨⟨⟨(tm1 111 rfl), rfl⟩, by decide, by decide⟩, List.forall_mem_cons.mpr ⟨⟨⟨(tm1 112 rfl), rfl⟩, by decide, by decide⟩, List.forall_mem_cons.mpr ⟨⟨⟨(tm1 113 rfl), rfl⟩, by decide, by decide⟩, List.forall_mem_cons.mpr ⟨⟨⟨(tm1 114 rfl), rfl⟩, by decide, by decide⟩, List.forall_mem_cons.mpr ⟨⟨⟨(tm1 35 rfl), rfl⟩, by decide, by decide⟩, List.forall_mem_cons.mpr ⟨⟨⟨(tm1 38 rfl), rfl⟩, by decide, by decide⟩, List.forall_mem_cons.mpr ⟨⟨⟨(tm1 41 rfl), rfl⟩, by decide, by decide⟩, List.forall_mem_cons.mpr ⟨⟨⟨(tm1 44 rfl), rfl⟩, by decide, by decide⟩, List.forall_mem_cons.mpr ⟨⟨⟨(tm1 47 rfl), rfl⟩, by decide, by decide⟩, List.forall_mem_cons.mpr ⟨⟨⟨(tm1 50 rfl), rfl⟩, by decide, by decide⟩, List.forall_mem_cons.mpr ⟨⟨⟨(tm1 76 rfl), rfl⟩, by decide, by decide⟩, List.forall_mem_cons.mpr ⟨⟨⟨(tm1 68 rfl), rfl⟩, by decide, by decide⟩, List.forall_mem_cons.mpr ⟨⟨⟨(tm1 70 rfl), rfl⟩, by decide, by decide⟩, List.forall_mem_cons.mpr ⟨⟨⟨(tm1 72 rfl), rfl⟩, by decide, by decide⟩, List.forall_mem_cons.mpr ⟨⟨⟨(tm1 74 rfl), rfl⟩, by decide, by decide⟩, List.forall_mem_cons.mpr ⟨⟨⟨(tm1 100 rfl), rfl⟩, by decide, by decide⟩, List.forall_mem_cons.mpr ⟨⟨⟨(tm3 173 rfl), rfl⟩, by decide, by decide⟩, List.forall_mem_cons.mpr ⟨⟨⟨(tm3 174 rfl), rfl⟩, by decide, by decide⟩, List.forall_mem_cons.mpr ⟨⟨⟨(tm3 175 rfl), rfl⟩, by decide, by decide⟩, List.forall_mem_cons.mpr ⟨⟨⟨(tm3 176 rfl), rfl⟩, by decide, by decide⟩, List.forall_mem_cons.mpr ⟨⟨⟨(tm3 178 rfl), rfl⟩, by decide, by decide⟩, List.forall_mem_cons.mpr ⟨⟨⟨(tm3 179 rfl), rfl⟩, by decide, by decide⟩, List.forall_mem_cons.mpr ⟨⟨⟨(tm3 180 rfl), rfl⟩, by decide, by decide⟩, List.forall_mem_cons.mpr ⟨⟨⟨(tm3 186 rfl), rfl⟩, by decide, by decide⟩, List.forall_mem_cons.mpr ⟨⟨⟨(tm3 183 rfl), rfl⟩, by decide, by decide⟩, List.forall_mem_cons.mpr ⟨⟨⟨(tm3 184 rfl), rfl⟩, by decide, by decide⟩, List.forall_mem_cons.mpr ⟨⟨⟨(tm3 181 rfl), rfl⟩, by decide, by decide⟩, List.forall_mem_cons.mpr ⟨⟨⟨(tm3 185 rfl), rfl⟩, by decide, by decide⟩, List.forall_mem_cons.mpr ⟨⟨⟨(tm3 182 rfl), rfl⟩, by decide, by decide⟩, List.forall_mem_cons.mpr ⟨⟨⟨(tm3 187 rfl), rfl⟩, by decide, by decide⟩, List.forall_mem_cons.mpr ⟨⟨⟨(tm3 177 rfl), rfl⟩, by decide, by decide⟩, fun _ h => absurd h List.not_mem_nil⟩⟩⟩⟩⟩⟩⟩⟩⟩⟩⟩⟩⟩⟩⟩⟩⟩⟩⟩⟩⟩⟩⟩⟩⟩⟩⟩⟩⟩⟩⟩⟩⟩⟩⟩⟩⟩⟩⟩⟩⟩⟩⟩⟩⟩⟩⟩⟩⟩⟩⟩⟩⟩⟩⟩⟩
theorem fq_0_9 : lk2 fTL 0 9 = some (0, 0) := by decide +kernel
theorem fq_0_15 : lk2 fTL 0 15 = some (0, 1) := by decide +kernel
theorem fq_0_18 : lk2 fTL 0 18 = some (0, 2) := by decide +kernel
theorem fq_0_21 : lk2 fTL 0 21 = some (0, 3) := by decide +kernel
theorem fq_0_24 : lk2 fTL 0 24 = some (0, 4) := by decide +kernel
theorem fq_0_27 : lk2 fTL 0 27 = some (0, 5) := by decide +kernel
theorem fq_1_9 : lk2 fTL 1 9 = some (1, 0) := by decide +kernel
theorem fq_1_15 : lk2 fTL 1 15 = some (1, 1) := by decide +kernel
theorem fq_2_11 : lk2 fTL 2 11 = some (2, 0) := by decide +kernel
theorem fq_2_18 : lk2 fTL 2 18 = some (2, 1) := by decide +kernel
theorem fq_2_22 : lk2 fTL 2 22 = some (2, 2) := by decide +kernel
theorem fq_2_26 : lk2 fTL 2 26 = some (2, 3) := by decide +kernel
theorem fq_2_29 : lk2 fTL 2 29 = some (2, 4) := by decide +kernel
theorem fq_2_32 : lk2 fTL 2 32 = some (2, 5) := by decide +kernel
theorem fq_2_35 : lk2 fTL 2 35 = some (2, 6) := by decide +kernel
theorem fq_2_53 : lk2 fTL 2 53 = some (0, 0) := by decide +kernel
theorem fq_2_56 : lk2 fTL 2 56 = some (0, 1) := by decide +kernel
theorem fq_2_59 : lk2 fTL 2 59 = some (0, 2) := by decide +kernel
theorem fq_2_62 : lk2 fTL 2 62 = some (0, 3) := by decide +kernel
theorem fq_2_65 : lk2 fTL 2 65 = some (0, 4) := by decide +kernel
theorem fq_2_68 : lk2 fTL 2 68 = some (0, 5) := by decide +kernel
theorem fq_3_10 : lk2 fTL 3 10 = some (3, 0) := by decide +kernel
theorem fq_3_16 : lk2 fTL 3 16 = some (3, 1) := by decide +kernel
theorem fq_3_19 : lk2 fTL 3 19 = some (3, 2) := by decide +kernel
theorem fq_3_22 : lk2 fTL 3 22 = some (3, 3) := by decide +kernel
theorem fq_3_29 : lk2 fTL 3 29 = some (3, 4) := by decide +kernel
theorem fq_3_33 : lk2 fTL 3 33 = some (3, 5) := by decide +kernel
theorem fq_3_37 : lk2 fTL 3 37 = some (3, 6) := by decide +kernel
theorem fq_3_41 : lk2 fTL 3 41 = some (3, 7) := by decide +kernel
theorem fq_3_80 : lk2 fTL 3 80 = some (0, 0) := by decide +kernel
theorem fq_3_85 : lk2 fTL 3 85 = some (0, 1) := by decide +kernel
theorem fq_3_88 : lk2 fTL 3 88 = some (0, 2) := by decide +kernel
theorem fq_3_91 : lk2 fTL 3 91 = some (0, 3) := by decide +kernel
theorem fq_3_94 : lk2 fTL 3 94 = some (0, 4) := by decide +kernel
theorem fq_3_97 : lk2 fTL 3 97 = some (0, 5) := by decide +kernel
theorem fq_3_115 : lk2 fTL 3 115 = some (2, 6) := by decide +kernel
theorem fq_3_161 : lk2 fTL 3 161 = some (2, 2) := by decide +kernel
theorem fq_3_231 : lk2 fTL 3 231 = some (2, 3) := by decide +kernel
theorem fq_3_234 : lk2 fTL 3 234 = some (2, 4) := by decide +kernel
theorem fq_3_237 : lk2 fTL 3 237 = some (2, 5) := by decide +kernel
theorem fq_3_240 : lk2 fTL 3 240 = some (1, 1) := by decide +kernel
theorem fq_4_9 : lk2 fTL 4 9 = some (4, 0) := by decide +kernel
theorem fq_4_13 : lk2 fTL 4 13 = some (4, 1) := by decide +kernel
theorem fq_4_16 : lk2 fTL 4 16 = some (4, 2) := by decide +kernel
theorem fq_4_19 : lk2 fTL 4 19 = some (4, 3) := by decide +kernel
theorem fq_4_22 : lk2 fTL 4 22 = some (4, 5) := by decide +kernel
theorem fq_4_25 : lk2 fTL 4 25 = some (4, 6) := by decide +kernel
theorem fq_4_28 : lk2 fTL 4 28 = some (4, 7) := by decide +kernel
theorem fq_4_31 : lk2 fTL 4 31 = some (4, 13) := by decide +kernel
theorem fq_4_51 : lk2 fTL 4 51 = some (4, 10) := by decide +kernel
theorem fq_4_55 : lk2 fTL 4 55 = some (4, 11) := by decide +kernel
theorem fq_4_86 : lk2 fTL 4 86 = some (4, 8) := by decide +kernel
theorem fq_4_89 : lk2 fTL 4 89 = some (4, 12) := by decide +kernel
theorem fq_4_170 : lk2 fTL 4 170 = some (4, 9) := by decide +kernel
theorem fq_4_176 : lk2 fTL 4 176 = some (4, 14) := by decide +kernel
theorem fq_4_185 : lk2 fTL 4 185 = some (4, 4) := by decide +kernel
def iTL : List (Nat × Nat × Int32) := [(16, 265, 1431655765), (16, 266, 858993459), (16, 267, 252645135), (3, 285, 1664525), (3, 286, 1013904223), (3, 287, 2147483647), (4, 157, 1000000000), (4, 179, 1664525), (4, 180, 1013904223), (4, 181, 2147483647)]
def lTL : List (Nat × Nat × Int64) := [(3, 246, 4000000000000000000), (4, 34, 4000000000000000000), (4, 168, (-1))]
set_option maxRecDepth 100000 in
theorem iok : ∀ e ∈ iTL, Jvm.Cond.constant (cn e.1) e.2.1 e.2.2 ∈ lw_tbl := List.forall_mem_cons.mpr ⟨(tm3 132 rfl), List.forall_mem_cons.mpr ⟨(tm3 133 rfl), List.forall_mem_cons.mpr ⟨(tm3 134 rfl), List.forall_mem_cons.mpr ⟨(tm3 145 rfl), List.forall_mem_cons.mpr ⟨(tm3 146 rfl), List.forall_mem_cons.mpr ⟨(tm3 150 rfl), List.forall_mem_cons.mpr ⟨(tm4 154 rfl), List.forall_mem_cons.mpr ⟨(tm4 218 rfl), List.forall_mem_cons.mpr ⟨(tm4 219 rfl), List.forall_mem_cons.mpr ⟨(tm4 220 rfl), fun _ h => absurd h List.not_mem_nil⟩⟩⟩⟩⟩⟩⟩⟩⟩⟩
set_option maxRecDepth 100000 in
theorem lok : ∀ e ∈ lTL, Jvm.Cond.constantLong (cn e.1) e.2.1 e.2.2 ∈ lw_tbl := List.forall_mem_cons.mpr ⟨(tm2 229 rfl), List.forall_mem_cons.mpr ⟨(tm4 113 rfl), List.forall_mem_cons.mpr ⟨(tm4 185 rfl), fun _ h => absurd h List.not_mem_nil⟩⟩⟩
theorem iq_16_265 : lk2 iTL 16 265 = some (1431655765) := by decide +kernel
theorem iq_16_266 : lk2 iTL 16 266 = some (858993459) := by decide +kernel
theorem iq_16_267 : lk2 iTL 16 267 = some (252645135) := by decide +kernel
theorem iq_3_285 : lk2 iTL 3 285 = some (1664525) := by decide +kernel
theorem iq_3_286 : lk2 iTL 3 286 = some (1013904223) := by decide +kernel
theorem iq_3_287 : lk2 iTL 3 287 = some (2147483647) := by decide +kernel
theorem iq_4_157 : lk2 iTL 4 157 = some (1000000000) := by decide +kernel
theorem iq_4_179 : lk2 iTL 4 179 = some (1664525) := by decide +kernel
theorem iq_4_180 : lk2 iTL 4 180 = some (1013904223) := by decide +kernel
theorem iq_4_181 : lk2 iTL 4 181 = some (2147483647) := by decide +kernel
theorem lq_3_246 : lk2 lTL 3 246 = some (4000000000000000000) := by decide +kernel
theorem lq_4_34 : lk2 lTL 4 34 = some (4000000000000000000) := by decide +kernel
theorem lq_4_168 : lk2 lTL 4 168 = some (-1) := by decide +kernel
def xTL : List (Nat × Nat × Nat) := [(1, 23, 0), (1, 30, 1), (1, 50, 2), (1, 52, 3), (1, 54, 4), (1, 56, 5), (1, 58, 6), (1, 60, 7)]
def kIx : Nat → Nat := fun i => [23, 30, 50, 52, 54, 56, 58, 60].getD i 0
def kTx : Nat → String := fun i => ["ombish", "", "ck999999999;", "r99;", "l9;", "e9;", "p99999;", "y99;"].getD i ""
def kLen : List Nat := [6, 0, 12, 4, 3, 3, 7, 4]
def kByt : List (List Int32) := [[111, 109, 98, 105, 115, 104], [], [99, 107, 57, 57, 57, 57, 57, 57, 57, 57, 57, 59], [114, 57, 57, 59], [108, 57, 59], [101, 57, 59], [112, 57, 57, 57, 57, 57, 59], [121, 57, 57, 59]]
theorem xok : ∀ e ∈ xTL, e.1 = 1 ∧ e.2.2 < 8 ∧ e.2.1 = kIx e.2.2 := by decide +kernel
theorem xq_1_23 : lk2 xTL 1 23 = some 0 := by decide +kernel
theorem xq_1_30 : lk2 xTL 1 30 = some 1 := by decide +kernel
theorem xq_1_50 : lk2 xTL 1 50 = some 2 := by decide +kernel
theorem xq_1_52 : lk2 xTL 1 52 = some 3 := by decide +kernel
theorem xq_1_54 : lk2 xTL 1 54 = some 4 := by decide +kernel
theorem xq_1_56 : lk2 xTL 1 56 = some 5 := by decide +kernel
theorem xq_1_58 : lk2 xTL 1 58 = some 6 := by decide +kernel
theorem xq_1_60 : lk2 xTL 1 60 = some 7 := by decide +kernel
theorem wfV : Jvm.Cond.fieldLink RJ0 9 "java/lang/String" "value" "[B" ∈ lw_tbl := (tm4 233 rfl)
theorem wfC : Jvm.Cond.fieldLink RJ0 15 "java/lang/String" "coder" "B" ∈ lw_tbl := (tm4 234 rfl)
theorem wfS : Jvm.Cond.fieldLink RJ0 38 "java/lang/String" "COMPACT_STRINGS" "Z" ∈ lw_tbl := (tm1 172 rfl)
theorem wfF : Jvm.Cond.fieldLink RJ0 1053 "jdk/internal/util/Preconditions" "SIOOBE_FORMATTER" "Ljava/util/function/BiFunction;" ∈ lw_tbl := (tm1 201 rfl)
end
section
/-! one instruction of the small machine; runs of it -/
def aload1 (ls : Lo) (i pc : Nat) (len : Nat) (st : List Value) (mem : Mm) (ok : Value → Bool) : Option (Rz ⊕ S5) := match aget ls i with
  | some v => if ok v = true then anx (pc + len) ls (v :: st) mem else none
  | none => none
def astore1 (ls : Lo) (i pc : Nat) (len : Nat) (st : List Value) (mem : Mm) (ok : Value → Bool) : Option (Rz ⊕ S5) := match st with
  | v :: rest => if ok v = true ∧ i + v.category ≤ ls.length then anx (pc + len) (aset ls i v) rest mem else none
  | _ => none
def isI : Value → Bool
  | .int _ => true
  | _ => false
def isL : Value → Bool
  | .long _ => true
  | _ => false
def isR : Value → Bool
  | .ref _ => true
  | _ => false
def abin (f : Int32 → Int32 → Int32) (pc : Nat) (ls : Lo) (st : List Value) (mem : Mm) : Option (Rz ⊕ S5) := match st with
  | .int y :: .int x :: rest => anx (pc + 1) ls (.int (f x y) :: rest) mem
  | _ => none
def abinL (f : Int64 → Int64 → Int64) (pc : Nat) (ls : Lo) (st : List Value) (mem : Mm) : Option (Rz ⊕ S5) := match st with
  | .long y :: .long x :: rest => anx (pc + 1) ls (.long (f x y) :: rest) mem
  | _ => none
def adiv (f : Int32 → Int32 → Int32) (pc : Nat) (ls : Lo) (st : List Value) (mem : Mm) : Option (Rz ⊕ S5) := match st with
  | .int y :: .int x :: rest => if y = 0 then none else anx (pc + 1) ls (.int (f x y) :: rest) mem
  | _ => none
def adivL (f : Int64 → Int64 → Int64) (pc : Nat) (ls : Lo) (st : List Value) (mem : Mm) : Option (Rz ⊕ S5) := match st with
  | .long y :: .long x :: rest => if y = 0 then none else anx (pc + 1) ls (.long (f x y) :: rest) mem
  | _ => none
def airem (x y : Int32) : Int32 := x - x / y * y
def airemL (x y : Int64) : Int64 := x - x / y * y
def aiush (x y : Int32) : Int32 := (x.toUInt32 >>> (y.toUInt32 &&& Int32.toUInt32 31)).toInt32
def abyt (o i : Nat) : Int32 := (kByt.getD (o - 60) []).getD i 0
def ablen (o : Nat) : Nat := kLen.getD (o - 60) 0
/-- the script: its length, its ints -/
abbrev Sc : Type := Nat × (Nat → Int32)
def acall (call : Cf) (d : MD) (μ : Nat) (pc : Nat) (ls : Lo) (st : List Value) (mem : Mm) : Option (Rz ⊕ S5) :=
  let n := if d.st = true then d.na else d.na + 1
  if n ≤ st.length ∧ awd (st.drop n) ≤ 8 then
    match call μ (st.take n).reverse mem with
    | some (r, mem') => anx (pc + 3) ls (r.toList ++ st.drop n) mem'
    | none => none
  else none
abbrev pok (ci f : Nat) (v : Int32) : Prop := ¬ ((ci = 3 ∧ f = 3) ∨ (ci = 4 ∧ f = 4)) ∨ v = 0 ∨ v = 1
abbrev kdp (o ci : Nat) : Prop := kd o = ci ∧ o < 44
def arecv (d : MD) (st : List Value) : Bool := match st[d.na]? with
  | some (.ref o) => if d.own < 5 then decide (kdp o d.own) else decide (d.own = 10 ∧ kd o = 7)
  | _ => false
def arets : Instr → Option FieldType → List Value → Option (Option Value)
  | .ireturn, rt, st => aret rt st
  | .lreturn, some .long, [.long v] => some (some (.long v))
  | .areturn, some (.object _), [.ref o] => if o = 99 then none else some (some (.ref o))
  | .return_, none, [] => some none
  | _, _, _ => none
/-- Math.abs, max, min -/
def amath : Nat → List Value → Option (Option Value)
  | 0, [.int x] => some (some (.int (if 0 ≤ x then x else 0 - x)))
  | 1, [.int x, .int y] => some (some (.int (if x < y then y else x)))
  | 2, [.int x, .int y] => some (some (.int (if y < x then y else x)))
  | _, _ => none
def aex (call : Cf) (S : Sc) (own : Nat) (rt : Option FieldType) (i : Instr) (len pc : Nat) (ls : Lo) (st : List Value) (mem : Mm) : Option (Rz ⊕ S5) :=
  match i with
  | .iconst n => anx (pc + 1) ls (.int (Int32.ofInt n) :: st) mem
  | .bipush n => anx (pc + 2) ls (.int (Int8.ofInt n).toInt32 :: st) mem
  | .sipush n => anx (pc + 3) ls (.int (Int16.ofInt n).toInt32 :: st) mem
  | .lconst n => anx (pc + 1) ls (.long (Int64.ofNat (n : Nat)) :: st) mem
  | .iload_n k => aload1 ls k pc 1 st mem isI
  | .iload k => aload1 ls k pc 2 st mem isI
  | .lload_n k => aload1 ls k pc 1 st mem isL
  | .lload k => aload1 ls k pc 2 st mem isL
  | .aload_n k => aload1 ls k pc 1 st mem isR
  | .aload k => aload1 ls k pc 2 st mem isR
  | .istore_n k => astore1 ls k pc 1 st mem isI
  | .istore k => astore1 ls k pc 2 st mem isI
  | .lstore_n k => astore1 ls k pc 1 st mem isL
  | .lstore k => astore1 ls k pc 2 st mem isL
  | .astore_n k => astore1 ls k pc 1 st mem isR
  | .astore k => astore1 ls k pc 2 st mem isR
  | .iinc k n => match aget ls k with
    | some (.int x) => anx (pc + 3) (aset ls k (.int (x + Int32.ofInt n))) st mem
    | _ => none
  | .iadd => abin (· + ·) pc ls st mem
  | .isub => abin (· - ·) pc ls st mem
  | .imul => abin (· * ·) pc ls st mem
  | .iand => abin (· &&& ·) pc ls st mem
  | .ior => abin (· ||| ·) pc ls st mem
  | .ishl => abin (fun x y => x <<< (y &&& 31)) pc ls st mem
  | .ishr => abin (fun x y => x >>> (y &&& 31)) pc ls st mem
  | .iushr => abin aiush pc ls st mem
  | .idiv => adiv (· / ·) pc ls st mem
  | .irem => adiv airem pc ls st mem
  | .ineg => match st with
    | .int x :: rest => anx (pc + 1) ls (.int (-x) :: rest) mem
    | _ => none
  | .ladd => abinL (· + ·) pc ls st mem
  | .lsub => abinL (· - ·) pc ls st mem
  | .lmul => abinL (· * ·) pc ls st mem
  | .ldiv => adivL (· / ·) pc ls st mem
  | .lrem => adivL airemL pc ls st mem
  | .lcmp => match st with
    | .long y :: .long x :: rest => anx (pc + 1) ls (.int (lg_cmp x y) :: rest) mem
    | _ => none
  | .i2l => match st with
    | .int x :: rest => anx (pc + 1) ls (.long x.toInt64 :: rest) mem
    | _ => none
  | .i2c => match st with
    | .int x :: rest => anx (pc + 1) ls (.int (x.toUInt32 % 65536).toInt32 :: rest) mem
    | _ => none
  | .i2b => match st with
    | .int x :: rest => anx (pc + 1) ls (.int x.toInt8.toInt32 :: rest) mem
    | _ => none
  | .dup => match st with
    | v :: rest => if v.category = 1 then anx (pc + 1) ls (v :: v :: rest) mem else none
    | _ => none
  | .pop => match st with
    | v :: rest => if v.category = 1 then anx (pc + 1) ls rest mem else none
    | _ => none
  | .dup2 => match st with
    | a :: b :: rest => if a.category = 1 ∧ b.category = 1 then anx (pc + 1) ls (a :: b :: a :: b :: rest) mem else none
    | _ => none
  | .ifCond c off => match st with
    | .int x :: rest => match ajmp pc off with
      | some t => if acnd c x 0 = true then anx t ls rest mem else anx (pc + 3) ls rest mem
      | none => none
    | _ => none
  | .if_icmp c off => match st with
    | .int y :: .int x :: rest => match ajmp pc off with
      | some t => if acnd c x y = true then anx t ls rest mem else anx (pc + 3) ls rest mem
      | none => none
    | _ => none
  | .goto off => ajm pc off ls st mem
  | .ifnonnull off => match st with
    | .ref o :: rest => if o = 99 then none else ajm pc off ls rest mem
    | _ => none
  | .lookupswitch dflt ps => match st with
    | .int x :: rest => if (ps.toList.zip (ps.toList.drop 1)).all (fun (a, next) => a.1 < next.1) = true then ajm pc (Op.lookupswitch.offset ps.toList dflt x.toInt) ls rest mem else none
    | _ => none
  | .tableswitch dflt lo hi offs => match st with
    | .int x :: rest => if x.toInt < lo ∨ hi < x.toInt then ajm pc dflt ls rest mem else match offs[(x.toInt - lo).toNat]? with
      | some off => ajm pc off ls rest mem
      | none => none
    | _ => none
  | .ldc k => match lk2 iTL own k with
    | some v => anx (pc + 2) ls (.int v :: st) mem
    | none => match lk2 xTL own k with
      | some i => anx (pc + 2) ls (.ref (50 + i) :: st) mem
      | none => none
  | .ldc_w k => match lk2 iTL own k with
    | some v => anx (pc + 3) ls (.int v :: st) mem
    | none => none
  | .ldc2_w k => match lk2 lTL own k with
    | some v => anx (pc + 3) ls (.long v :: st) mem
    | none => none
  | .getstatic k => if own = 10 ∧ k = 38 then anx (pc + 3) ls (.int 1 :: st) mem else if own = 10 ∧ k = 1053 then anx (pc + 3) ls (.ref 99 :: st) mem else none
  | .getfield k => match st with
    | .ref o :: rest => match lk2 fTL own k with
      | some (ci, f) => if kdp o ci then anx (pc + 3) ls (fv ci f o mem :: rest) mem else none
      | none => if own = 10 ∧ kd o = 7 then (if k = 9 then anx (pc + 3) ls (.ref (o + 10) :: rest) mem else if k = 15 then anx (pc + 3) ls (.int 0 :: rest) mem else none) else none
    | _ => none
  | .putfield k => match st with
    | .int v :: .ref o :: rest => match lk2 fTL own k with
      | some (ci, f) => if kdp o ci ∧ (rfT ci f o = none) ∧ pok ci f v then anx (pc + 3) ls rest (mset mem o f v) else none
      | none => none
    | _ => none
  | .iaload => match st with
    | .int i :: .ref o :: rest => if kdp o 5 ∧ vin i (ln o) then anx (pc + 1) ls (.int (mem o i.toNatClampNeg) :: rest) mem else if o = 90 ∧ vin i S.1 then anx (pc + 1) ls (.int (S.2 i.toNatClampNeg) :: rest) mem else none
    | _ => none
  | .iastore => match st with
    | .int v :: .int i :: .ref o :: rest => if kdp o 5 ∧ vin i (ln o) then anx (pc + 1) ls rest (mset mem o i.toNatClampNeg v) else none
    | _ => none
  | .aaload => match st with
    | .int i :: .ref o :: rest => if kdp o 6 ∧ vin i 7 then anx (pc + 1) ls (.ref (o + 1 + i.toNatClampNeg) :: rest) mem else none
    | _ => none
  | .baload => match st with
    | .int i :: .ref o :: rest => if kd o = 8 ∧ vin i (ablen o) then anx (pc + 1) ls (.int (abyt o i.toNatClampNeg) :: rest) mem else none
    | _ => none
  | .arraylength => match st with
    | .ref o :: rest => if kdp o 5 then anx (pc + 1) ls (.int (Int32.ofNat (ln o)) :: rest) mem else if kdp o 6 then anx (pc + 1) ls (.int 7 :: rest) mem else if kd o = 8 then anx (pc + 1) ls (.int (Int32.ofNat (ablen o)) :: rest) mem else if o = 90 then anx (pc + 1) ls (.int (Int32.ofNat S.1) :: rest) mem else none
    | _ => none
  | .invokestatic k => match lk2 sTL own k with
    | some (_, μ) => match mTL[μ]? with
      | some d => if d.st = true then acall call d μ pc ls st mem else none
      | none => none
    | none => none
  | .invokevirtual k => match lk2 sTL own k with
    | some (_, μ) => match mTL[μ]? with
      | some d => if d.st = false ∧ arecv d st = true then acall call d μ pc ls st mem else none
      | none => none
    | none => none
  | i => match arets i rt st with
    | some r => some (.inl (r, mem))
    | none => none
def astep (call : Cf) (S : Sc) (own : Nat) (cc : ByteArray) (rt : Option FieldType) (s : S5) : Option (Rz ⊕ S5) := match decode cc s.1 with
  | .ok (i, len) => if len = wlen i len then aex call S own rt i len s.1 s.2.1 s.2.2.1 s.2.2.2 else none
  | .error _ => none
def aloop (call : Cf) (S : Sc) (own : Nat) (cc : ByteArray) (rt : Option FieldType) : Nat → S5 → Option Rz
  | 0, _ => none
  | n + 1, s => match astep call S own cc rt s with
    | some (.inl r) => some r
    | some (.inr s') => aloop call S own cc rt n s'
    | none => none
def arun (S : Sc) : Nat → Nat → Cf
  | 0, _ => fun _ _ _ => none
  | d + 1, n => fun μ vs mem => if μ < 3 then (match amath μ vs with
    | some r => some (r, mem)
    | none => none) else match mTL[μ]? with
    | some D => if awd vs ≤ D.ml then aloop (arun S d n) S D.own D.c D.rt n (0, aent D.ml vs, [], mem) else none
    | none => none
end
section
/-! what stands in the heap for the small machine's memory -/
def tr (ad : Nat → Nat) (sp : Value) : Value → Value
  | .ref i => if i = 99 then sp else .ref (ad i)
  | v => v
theorem tr_cat {ad : Nat → Nat} {sp : Value} (hsp : sp = .null ∨ ∃ a, sp = .ref a) (v : Value) : (tr ad sp v).category = v.category := by
  cases v <;> try rfl
  rename_i i
  show (if i = 99 then sp else Value.ref (ad i)).category = 1
  by_cases h : i = 99
  · rw [if_pos h]
    rcases hsp with rfl | ⟨a, rfl⟩ <;> rfl
  · rw [if_neg h]; rfl
theorem tr_ref {ad : Nat → Nat} {sp : Value} {o : Nat} (h : o < 99) : tr ad sp (.ref o) = .ref (ad o) := by
  show (if o = 99 then sp else Value.ref (ad o)) = _
  rw [if_neg (by omega)]
def sh (ad : Nat → Nat) (sp : Value) (cI cO : ClassId) (mem : Mm) (o : Nat) : va_E := if kd o = 5 then .inl (cI, ln o, .inl (mem o)) else if kd o = 6 then .inl (cO, 7, .inr (.inr (.inr (.inr (fun j => some (ad (o + 1 + j))))))) else .inr (kd o, (List.range (nfT (kd o))).map (fun k => tr ad sp (fv (kd o) k o mem)))
theorem sh_5 {ad : Nat → Nat} {sp : Value} {cI cO : ClassId} {mem : Mm} {o : Nat} (h : kd o = 5) : sh ad sp cI cO mem o = .inl (cI, ln o, .inl (mem o)) := by rw [sh, if_pos h]
theorem sh_6 {ad : Nat → Nat} {sp : Value} {cI cO : ClassId} {mem : Mm} {o : Nat} (h : kd o = 6) : sh ad sp cI cO mem o = .inl (cO, 7, .inr (.inr (.inr (.inr (fun j => some (ad (o + 1 + j))))))) := by rw [sh, if_neg (by omega), if_pos h]
theorem sh_o {ad : Nat → Nat} {sp : Value} {cI cO : ClassId} {mem : Mm} {o ci : Nat} (h : kd o = ci) (h5 : ci < 5) : sh ad sp cI cO mem o = .inr (ci, (List.range (nfT ci)).map (fun k => tr ad sp (fv ci k o mem))) := by
  subst h
  rw [sh, if_neg (by omega), if_neg (by omega)]
theorem sh_eq {ad : Nat → Nat} {sp : Value} {cI cO : ClassId} {m1 m2 : Mm} {o : Nat} (h : m1 o = m2 o) : sh ad sp cI cO m1 o = sh ad sp cI cO m2 o := by
  simp only [sh, fv, h]
def wd (ad : Nat → Nat) (sp : Value) (cI cO : ClassId) (mem : Mm) : va_W := (List.range 44).map (fun o => (ad o, sh ad sp cI cO mem o))
theorem wd_at {ad : Nat → Nat} {sp : Value} {cI cO : ClassId} {mem : Mm} {o : Nat} (h : o < 44) : (wd ad sp cI cO mem)[o]? = some (ad o, sh ad sp cI cO mem o) := by
  rw [wd, List.getElem?_map, List.getElem?_range h]; rfl
theorem wd_of {ad : Nat → Nat} {sp : Value} {cI cO : ClassId} {mem : Mm} {k : Nat} {q : Nat × va_E} (h : (wd ad sp cI cO mem)[k]? = some q) : k < 44 ∧ q = (ad k, sh ad sp cI cO mem k) := by
  have hk : k < 44 := by
    have h1 := (List.getElem?_eq_some_iff.mp h).1
    simpa [wd] using h1
  refine ⟨hk, ?_⟩
  rw [wd_at hk] at h
  exact (Option.some.inj h).symm
theorem mset_ne {mem : Mm} {o k i : Nat} {v : Int32} (h : i ≠ o) : mset mem o k v i = mem i := by
  funext j; simp [mset, h]
theorem mset_eq {mem : Mm} {o k : Nat} {v : Int32} : mset mem o k v o = upd (mem o) k v := by
  funext j; simp [mset, upd]
theorem wd_set {ad : Nat → Nat} {sp : Value} {cI cO : ClassId} {mem : Mm} {o k : Nat} {v : Int32} {e : va_E} (h : o < 44) (he : sh ad sp cI cO (mset mem o k v) o = e) : (wd ad sp cI cO mem).set o (ad o, e) = wd ad sp cI cO (mset mem o k v) := by
  subst he
  refine List.ext_getElem? fun i => ?_
  by_cases hi : i < 44
  · rw [wd_at hi]
    by_cases ho : i = o
    · subst ho
      rw [List.getElem?_set_self (by simpa [wd] using hi)]
    · rw [List.getElem?_set_ne (fun z => ho z.symm), wd_at hi, sh_eq (mset_ne ho)]
  · have e1 : ∀ m1 : Mm, (wd ad sp cI cO m1).length = 44 := fun m1 => by simp [wd]
    rw [List.getElem?_eq_none (by rw [List.length_set, e1]; omega), List.getElem?_eq_none (by rw [e1]; omega)]
theorem wd_D {ad : Nat → Nat} {sp : Value} {cI cO : ClassId} {A : Nat → Prop} (hinj : ∀ i j, i < 44 → j < 44 → ad i = ad j → i = j) (hA : ∀ i, i < 44 → A (ad i)) (mem : Mm) : va_D A (wd ad sp cI cO mem) := by
  refine ⟨fun i j p q hi hj h => ?_, fun k q h => ?_⟩
  · obtain ⟨h1, rfl⟩ := wd_of hi
    obtain ⟨h2, rfl⟩ := wd_of hj
    exact hinj i j h1 h2 h
  · obtain ⟨h1, rfl⟩ := wd_of h
    exact hA k h1
/-- locals -/
def asl (ad : Nat → Nat) (sp : Value) (ls : Lo) : List (Nat × Value) := (List.range ls.length).filterMap (fun k => match ls[k]? with
  | some (some v) => some (k, tr ad sp v)
  | _ => none)
theorem asl_in {ad : Nat → Nat} {sp : Value} {ls : Lo} {k : Nat} {v : Value} (h : ls[k]? = some (some v)) : (k, tr ad sp v) ∈ asl ad sp ls := by
  refine List.mem_filterMap.mpr ⟨k, List.mem_range.mpr (List.getElem?_eq_some_iff.mp h).1, ?_⟩
  rw [h]
theorem asl_of {ad : Nat → Nat} {sp : Value} {ls : Lo} {q : Nat × Value} (h : q ∈ asl ad sp ls) : ∃ v, ls[q.1]? = some (some v) ∧ q.2 = tr ad sp v := by
  obtain ⟨k, -, hk⟩ := List.mem_filterMap.mp h
  split at hk
  next v hv => cases hk; exact ⟨v, hv, rfl⟩
  next => cases hk
def lh (ad : Nat → Nat) (sp : Value) (nL : Nat) (ls : Lo) (la : Array Slot) : Prop := ls.length = nL ∧ lv_has la nL (asl ad sp ls)
theorem lh_at {ad : Nat → Nat} {sp : Value} {nL : Nat} {ls : Lo} {la : Array Slot} (h : lh ad sp nL ls la) {k : Nat} {v : Value} (hk : aget ls k = some v) : la[k]? = some (.val (tr ad sp v)) := by
  have h1 : ls[k]? = some (some v) := by
    unfold aget at hk
    split at hk
    next w hw => cases hk; exact hw
    next => cases hk
  exact h.2.2.2 _ (asl_in h1)
theorem aset_0 (a : Option Value) (t : Lo) (v : Value) : aset (a :: t) 0 v = some v :: (if v.category = 2 then (match t with | [] => [] | _ :: t2 => none :: t2) else t) := rfl
theorem aset_s (a : Option Value) (t : Lo) (i : Nat) (v : Value) : aset (a :: t) (i + 1) v = (if i = 0 ∧ is2 a = true then none else a) :: aset t i v := rfl
theorem aset_len : ∀ (ls : Lo) (i : Nat) (v : Value), (aset ls i v).length = ls.length
  | [], i, v => by cases i <;> rfl
  | a :: t, 0, v => by
    rw [aset_0]
    by_cases h : v.category = 2
    · rw [if_pos h]; cases t <;> rfl
    · rw [if_neg h]; rfl
  | a :: t, i + 1, v => by
    rw [aset_s, List.length_cons, List.length_cons, aset_len t i v]
theorem aset_at : ∀ (ls : Lo) (i k : Nat) (v w : Value), (aset ls i v)[k]? = some (some w) → (k = i ∧ w = v) ∨ (k ≠ i ∧ ls[k]? = some (some w) ∧ ¬ (k + 1 = i ∧ w.category = 2) ∧ ¬ (v.category = 2 ∧ k = i + 1))
  | [], i, k, v, w, h => by cases i <;> simp [aset] at h
  | a :: t, 0, k, v, w, h => by
    rw [aset_0] at h
    cases k with
    | zero => simp at h; exact Or.inl ⟨rfl, h.symm⟩
    | succ k =>
      rw [List.getElem?_cons_succ] at h
      refine Or.inr ⟨by omega, ?_⟩
      rw [List.getElem?_cons_succ]
      by_cases hc : v.category = 2
      · rw [if_pos hc] at h
        cases t with
        | nil => simp at h
        | cons b t =>
          cases k with
          | zero => simp at h
          | succ k => exact ⟨by simpa using h, by omega, by omega⟩
      · rw [if_neg hc] at h
        exact ⟨h, by omega, fun z => hc z.1⟩
  | a :: t, i + 1, k, v, w, h => by
    rw [aset_s] at h
    cases k with
    | zero =>
      rw [List.getElem?_cons_zero] at h
      refine Or.inr ⟨by omega, ?_⟩
      rw [List.getElem?_cons_zero]
      by_cases hc : i = 0 ∧ is2 a = true
      · rw [if_pos hc] at h; simp at h
      · rw [if_neg hc] at h
        refine ⟨h, fun z => hc ⟨by omega, ?_⟩, by omega⟩
        have ha : a = some w := by simpa using h
        rw [ha]
        show (w.category == 2) = true
        rw [z.2]; rfl
    | succ k =>
      rw [List.getElem?_cons_succ] at h
      rcases aset_at t i k v w h with ⟨h1, h2⟩ | ⟨h1, h2, h3, h4⟩
      · exact Or.inl ⟨by omega, h2⟩
      · exact Or.inr ⟨by omega, by rw [List.getElem?_cons_succ]; exact h2, fun z => h3 ⟨by omega, z.2⟩, fun z => h4 ⟨z.1, by omega⟩⟩
theorem lh_set1 {ad : Nat → Nat} {sp : Value} (hsp : sp = .null ∨ ∃ a, sp = .ref a) {nL i : Nat} {ls : Lo} {la : Array Slot} {v : Value} (hlen : ls.length = nL) (h : lv_has la nL ((i, tr ad sp v) :: (asl ad sp ls).filter (fun q => !(q.1 == i) && !(q.1 + 1 == i && q.2.category == 2)))) : lh ad sp nL (aset ls i v) la := by
  refine ⟨by rw [aset_len]; exact hlen, h.1, h.2.1, fun q hq => ?_⟩
  obtain ⟨w, h1, h2⟩ := asl_of hq
  rcases aset_at ls i q.1 v w h1 with ⟨e1, e2⟩ | ⟨e1, e2, e3, -⟩
  · have := h.2.2 (i, tr ad sp v) List.mem_cons_self
    rw [h2, e1, e2]; exact this
  · have hm : q ∈ (asl ad sp ls).filter (fun q => !(q.1 == i) && !(q.1 + 1 == i && q.2.category == 2)) := by
      refine List.mem_filter.mpr ⟨?_, ?_⟩
      · have := asl_in (ad := ad) (sp := sp) e2
        rw [← h2] at this
        exact this
      · rw [h2, tr_cat hsp]
        by_cases c1 : q.1 + 1 = i
        · have : ¬ w.category = 2 := fun z => e3 ⟨c1, z⟩
          simp [e1, this]
        · simp [e1, c1]
    exact h.2.2 q (List.mem_cons_of_mem _ hm)
theorem lh_set2 {ad : Nat → Nat} {sp : Value} (hsp : sp = .null ∨ ∃ a, sp = .ref a) {nL i : Nat} {ls : Lo} {la : Array Slot} {v : Value} (hv : v.category = 2) (hlen : ls.length = nL) (h : lv_has la nL ((i, tr ad sp v) :: (asl ad sp ls).filter (fun q => !(q.1 == i) && (!(q.1 == i + 1) && !(q.1 + 1 == i && q.2.category == 2))))) : lh ad sp nL (aset ls i v) la := by
  refine ⟨by rw [aset_len]; exact hlen, h.1, h.2.1, fun q hq => ?_⟩
  obtain ⟨w, h1, h2⟩ := asl_of hq
  rcases aset_at ls i q.1 v w h1 with ⟨e1, e2⟩ | ⟨e1, e2, e3, e4⟩
  · have := h.2.2 (i, tr ad sp v) List.mem_cons_self
    rw [h2, e1, e2]; exact this
  · have hm : q ∈ (asl ad sp ls).filter (fun q => !(q.1 == i) && (!(q.1 == i + 1) && !(q.1 + 1 == i && q.2.category == 2))) := by
      refine List.mem_filter.mpr ⟨?_, ?_⟩
      · have := asl_in (ad := ad) (sp := sp) e2
        rw [← h2] at this
        exact this
      · rw [h2, tr_cat hsp]
        have c4 : ¬ q.1 = i + 1 := fun z => e4 ⟨hv, z⟩
        by_cases c1 : q.1 + 1 = i
        · have : ¬ w.category = 2 := fun z => e3 ⟨c1, z⟩
          simp [e1, this, c4]
        · simp [e1, c1, c4]
    exact h.2.2 q (List.mem_cons_of_mem _ hm)
theorem aent_len : ∀ (vs : List Value) (n : Nat), awd vs ≤ n → (aent n vs).length = n
  | [], n, _ => by simp [aent]
  | v :: vs, n, h => by
    have h1 : v.category + awd vs ≤ n := by simpa [awd] using h
    rw [aent]
    by_cases hc : v.category = 2
    · rw [if_pos hc, List.length_cons, List.length_cons, aent_len vs (n - 2) (by omega)]; omega
    · have hc1 : v.category = 1 := by rcases lv_cat v with z | z <;> omega
      rw [if_neg hc, List.length_cons, aent_len vs (n - 1) (by omega)]; omega
theorem aent_at {ad : Nat → Nat} {sp : Value} (hsp : sp = .null ∨ ∃ a, sp = .ref a) : ∀ (vs : List Value) (n b k : Nat) (w : Value), (aent n vs)[k]? = some (some w) → (b + k, tr ad sp w) ∈ lv_args b (vs.map (tr ad sp))
  | [], n, b, k, w, h => by
    rw [aent] at h
    have := List.eq_of_mem_replicate (List.mem_of_getElem? h)
    cases this
  | v :: vs, n, b, k, w, h => by
    rw [aent] at h
    rw [List.map_cons, lv_args, tr_cat hsp]
    by_cases hc : v.category = 2
    · rw [if_pos hc] at h ⊢
      match k, h with
      | 0, h => simp at h; rw [h]; exact List.mem_cons_self
      | 1, h => simp at h
      | k + 2, h =>
        have h1 : (aent (n - 2) vs)[k]? = some (some w) := by simpa using h
        have := aent_at (ad := ad) hsp vs (n - 2) (b + 2) k w h1
        rw [show b + 2 + k = b + (k + 2) by omega] at this
        exact List.mem_cons_of_mem _ this
    · rw [if_neg hc] at h ⊢
      match k, h with
      | 0, h => simp at h; rw [h]; exact List.mem_cons_self
      | k + 1, h =>
        have h1 : (aent (n - 1) vs)[k]? = some (some w) := by simpa using h
        have := aent_at (ad := ad) hsp vs (n - 1) (b + 1) k w h1
        rw [show b + 1 + k = b + (k + 1) by omega] at this
        exact List.mem_cons_of_mem _ this
theorem lh_ent {ad : Nat → Nat} {sp : Value} (hsp : sp = .null ∨ ∃ a, sp = .ref a) {vs : List Value} {n : Nat} {la : Array Slot} (hw : awd vs ≤ n) (h : lv_has la n (lv_args 0 (vs.map (tr ad sp)))) : lh ad sp n (aent n vs) la := by
  refine ⟨aent_len vs n hw, h.1, h.2.1, fun q hq => ?_⟩
  obtain ⟨w, h1, h2⟩ := asl_of hq
  have := aent_at (ad := ad) hsp vs n 0 q.1 w h1
  rw [Nat.zero_add, ← h2] at this
  exact h.2.2 q this
theorem awd_sl {ad : Nat → Nat} {sp : Value} (hsp : sp = .null ∨ ∃ a, sp = .ref a) : ∀ vs : List Value, (lg_sl (vs.map (tr ad sp))).length = awd vs
  | [] => rfl
  | v :: vs => by
    have ih := awd_sl hsp vs (ad := ad)
    simp only [lg_sl, awd, List.map_cons, List.flatMap_cons, List.length_append, List.sum_cons] at ih ⊢
    rw [ih, tr_cat hsp]
    rcases lv_cat v with z | z <;> simp [z]
end
section
/-! the small machine's steps are the machine's -/
def AD (ad : Nat → Nat) : Nat → Prop := fun q => ∃ i, i < 44 ∧ q = ad i
def tyW (cI cO : ClassId) : List (ClassId × FieldType) := [(cI, .int), (cO, .object RX0)]
def KX (D : va_G) (ad : Nat → Nat) (sp : Value) (cI cO : ClassId) (S : Sc) (A : Nat → Prop) (U : State) (H : Heap) : Prop :=
  va_K D vwCl (tyW cI cO) U ∧ (∀ w ∈ nlk, va_Nw w U) ∧ vk_S 8 kLen kByt (fun i => ad (50 + i)) (fun i => ad (60 + i)) A U H ∧ (∀ i, i < 8 → vk_R RX1 (kIx i) (kTx i) (ad (50 + i)) U) ∧ va_Z RJ0 "COMPACT_STRINGS" "Z" (.int 1) A U H ∧ va_Z RJ3 "SIOOBE_FORMATTER" "Ljava/util/function/BiFunction;" sp A U H ∧ (va_X (ad 90) S.1 S.2 U H ∧ ad 90 < H.size ∧ ¬ A (ad 90))
theorem nlk_form : ∀ w ∈ nlk, ∃ a i x h, w = Jvm.Cond.methodLinkNest a i x h := by
  intro w hw
  simp only [nlk, List.mem_cons, List.not_mem_nil, or_false] at hw
  rcases hw with rfl | rfl | rfl | rfl | rfl <;> exact ⟨_, _, _, _, rfl⟩
theorem KX.go {D : va_G} {ad : Nat → Nat} {sp : Value} {cI cO : ClassId} {S : Sc} {A B : Nat → Prop} {U U' : State} {H H' : Heap} (h : KX D ad sp cI cO S A U H) (hW : U.WarmedH U'.vm) (hz : H.size ≤ H'.size) (hk : ∀ q, q < H.size → ¬ A q → H'[q]? = H[q]?) (hAB : ∀ q, B q → A q) : KX D ad sp cI cO S B U' H' := by
  obtain ⟨h1, h2, h3, h4, h5, h6, h7, h8, h9⟩ := h
  refine ⟨va_K.moved hW.alike h1, fun w hw => ?_, ((vk_S.moved hW.alike h3).kept hk).narrow hAB, fun i hi => (h4 i hi).warm hW, ((va_Z.moved hW.alike h5).kept hk).narrow hAB, ((va_Z.moved hW.alike h6).kept hk).narrow hAB, (va_X.moved hW.alike h7).kept (hk _ h8 h9), Nat.lt_of_lt_of_le h8 hz, fun z => h9 (hAB _ z)⟩
  obtain ⟨a, i, x, h, rfl⟩ := nlk_form w hw
  exact va_Nw.warmM hW (h2 _ hw)
def PC (D : va_G) (ad : Nat → Nat) (sp : Value) (cI cO : ClassId) (S : Sc) (vs : List Value) (mem : Mm) : Array Value → State → Prop := va_Pc (vs.map (tr ad sp)) (fun U => va_P D vwCl (wd ad sp cI cO mem) U.heap ∧ KX D ad sp cI cO S (AD ad) U U.heap)
theorem PC_blind {D : va_G} {ad : Nat → Nat} {sp : Value} {cI cO : ClassId} {S : Sc} {vs : List Value} {mem : Mm} : FrameBlind (PC D ad sp cI cO S vs mem) := by
  intro a U g mk q
  obtain ⟨q1, q2, q3⟩ := q
  exact ⟨q1, q2, q3.go (U' := U.calling g mk a) (State.WarmedH.refl U) (Nat.le_refl _) (fun _ _ _ => rfl) (fun _ h => h)⟩
def QC (D : va_G) (ad : Nat → Nat) (sp : Value) (cI cO : ClassId) (r : Option Value) (mem : Mm) : Array Value → State → Outcome → State → Prop := fun _ st o t => o = .returned (r.map (tr ad sp)) ∧ va_P D vwCl (wd ad sp cI cO mem) t.heap ∧ va_F (AD ad) st t
def wsM (d : MD) : List Jvm.Cond := Jvm.Cond.code d.y d.c d.ml d.rt :: BW
/-- what is known of a call -/
def CallOk (l : Launch) (R : Room) (D : va_G) (ad : Nat → Nat) (sp : Value) (cI cO : ClassId) (S : Sc) (call : Cf) : Prop := ∀ (μ : Nat) (vs : List Value) (mem : Mm) (r : Option Value) (mem' : Mm), call μ vs mem = some (r, mem') →
  (3 ≤ μ ∧ ∃ (d : MD) (rm : Room), mTL[μ]? = some d ∧ Met l d.y (wsM d) rm (PC D ad sp cI cO S vs mem) (QC D ad sp cI cO r mem') 0 0 (AD ad) ∧ rm.cells = 0 ∧ rm.slots = 0 ∧ rm.frames + 1 ≤ R.frames ∧ 34 + rm.locals ≤ R.locals) ∨
  (μ < 3 ∧ amath μ vs = some r ∧ mem' = mem ∧ 1 ≤ R.frames ∧ 21 ≤ R.locals)
section SND
variable {p : Program} {l : Launch} {e : Env} {R : Room} {s : State} {m : MethodId} {args : Array Value} {below : List Frame} {meth : Method} {c : Code} {H : Heap} {locs : List Loc} {cells slots : Nat} {Q : State → Prop}
variable {D : va_G} {ad : Nat → Nat} {sp : Value} {cI cO : ClassId} {S : Sc} {A : Nat → Prop} {call : Cf} {own : Nat} {cc : ByteArray} {rt : Option FieldType} {nL : Nat}
theorem ab_back {pc : Nat} {la : Array Slot} {st0 rest : List Value} {r : Option Value} {mem' : Mm} {a : Array Value} (hr : va_Run p l e R s m args below meth c H locs cells slots 0 0 (F0 m pc la st0) rest (QC D ad sp cI cO r mem' a) (AD ad)) (hS : va_S A s.heap H locs) (hAD : ∀ q, AD ad q → A q)
    (kk : ∀ (H1 : Heap) (locs1 : List Loc), va_P D vwCl (wd ad sp cI cO mem') H1 → va_S A s.heap H1 locs1 → W p l e R s m args below meth c H1 locs1 cells slots Q (F0 m (pc + 3) la ((r.map (tr ad sp)).toList ++ rest))) : W p l e R s m args below meth c H locs cells slots Q (F0 m pc la st0) := by
  intro T hT X
  obtain ⟨v, st₀, t, T', L, h0, X', hL, e1, e2, ⟨hv, hp, hz, hk⟩, st⟩ := hr T hT X
  have hv' : v = r.map (tr ad sp) := by injection hv
  subst hv'
  rw [h0] at hz hk
  obtain ⟨t2, a1, b1⟩ := kk T'.heap (locs ++ L) (by rw [e1]; exact hp) ⟨Nat.le_trans hS.1 (by rw [e1]; exact hz), fun q h1 h2 => by rw [e1, hk q (Nat.lt_of_lt_of_le h1 hS.1) (fun z => h2 (hAD q z))]; exact hS.2.1 q h1 h2, fun q hq => by
      rcases List.mem_append.mp hq with h | h
      · exact hS.2.2 q h
      · exact hAD _ (hL q h)⟩ T' rfl X'
  exact ⟨t2, st t2 a1, b1⟩
theorem isI_of {v : Value} (h : isI v = true) : ∃ x, v = .int x := by cases v <;> first | exact ⟨_, rfl⟩ | cases h
theorem isL_of {v : Value} (h : isL v = true) : ∃ x, v = .long x := by cases v <;> first | exact ⟨_, rfl⟩ | cases h
theorem isR_of {v : Value} (h : isR v = true) : ∃ x, v = .ref x := by cases v <;> first | exact ⟨_, rfl⟩ | cases h
theorem tr_ref_or (hsp : sp = .null ∨ ∃ a, sp = .ref a) (o : Nat) : tr ad sp (.ref o) = .null ∨ ∃ a, tr ad sp (.ref o) = .ref a := by
  show (if o = 99 then sp else Value.ref (ad o)) = _ ∨ ∃ a, (if o = 99 then sp else Value.ref (ad o)) = _
  by_cases h : o = 99
  · rw [if_pos h]; exact hsp
  · rw [if_neg h]; exact Or.inr ⟨_, rfl⟩
theorem goodIn_ws {d : MD} (hd : FdP d) : ∀ w ∈ wsM d, w ∈ BW := by
  intro w hw
  rcases List.mem_cons.mp hw with rfl | h
  · exact bw hd.1.1 rfl
  · exact h
theorem goodIn_bw {ws : List Jvm.Cond} (h : ∀ w ∈ ws, w ∈ BW) : GoodIn BW ws := fun w hw => ⟨h w hw, good_of_word (List.mem_filter.mp (h w hw)).2⟩
theorem awd_tr (hsp : sp = .null ∨ ∃ a, sp = .ref a) (vs : List Value) : ((vs.map (tr ad sp)).map fun v => v.category).sum = awd vs := by
  induction vs with
  | nil => rfl
  | cons v vs ih =>
    simp only [List.map_cons, List.sum_cons, awd] at ih ⊢
    rw [ih, tr_cat hsp]
theorem take_drop_stack (st : List Value) (n : Nat) : st.map (tr ad sp) = (((st.take n).reverse).map (tr ad sp)).reverse ++ (st.drop n).map (tr ad sp) := by
  rw [← List.map_reverse, List.reverse_reverse, ← List.map_append, List.take_append_drop]
theorem math_name {μ : Nat} {d : MD} (h : μ < 3) (hd : mTL[μ]? = some d) : (μ = 0 ∧ d = md_J9_abs_0f7a4) ∨ (μ = 1 ∧ d = md_J9_max_7cf53) ∨ (μ = 2 ∧ d = md_J9_min_7cf53) := by
  rcases (by omega : μ = 0 ∨ μ = 1 ∨ μ = 2) with rfl | rfl | rfl
  · exact Or.inl ⟨rfl, (Option.some.inj (mt_J9_abs_0f7a4.symm.trans hd)).symm⟩
  · exact Or.inr (Or.inl ⟨rfl, (Option.some.inj (mt_J9_max_7cf53.symm.trans hd)).symm⟩)
  · exact Or.inr (Or.inr ⟨rfl, (Option.some.inj (mt_J9_min_7cf53.symm.trans hd)).symm⟩)
set_option maxHeartbeats 4000000 in
/-- a static call -/
theorem ab_calls (hsp : sp = .null ∨ ∃ a, sp = .ref a) (hx : p.tables.exec = Jvm.exec) (hb : c.code = cc) (hml : c.maxLocals = nL) (hown : s.vm.findClass (cn own) = some m.cls) (hts : ∀ w ∈ BW, w.before args s = true) (hKX : KX D ad sp cI cO S A s s.heap) (hAD : ∀ q, AD ad q → A q) (hcs : cells ≤ R.cells ∧ slots ≤ R.slots) (hcall : CallOk l R D ad sp cI cO S call)
    {pc k μ : Nat} {nst : Bool} {d : MD} {ls : Lo} {la : Array Slot} {st : List Value} {mem : Mm} {o : Rz ⊕ S5} (hdg : decode cc pc = .ok (.invokestatic k, 3)) (hs : lk2 sTL own k = some (nst, μ)) (hd : mTL[μ]? = some d) (hst : d.st = true) (h : acall call d μ pc ls st mem = some o)
    (hP : va_P D vwCl (wd ad sp cI cO mem) H) (hS : va_S A s.heap H locs) (hL : lh ad sp nL ls la)
    (hN : ∀ pc' ls' st' mem', o = .inr (pc', ls', st', mem') → ∀ H locs la, va_P D vwCl (wd ad sp cI cO mem') H → va_S A s.heap H locs → lh ad sp nL ls' la → W p l e R s m args below meth c H locs cells slots Q (F0 m pc' la (st'.map (tr ad sp)))) : W p l e R s m args below meth c H locs cells slots Q (F0 m pc la (st.map (tr ad sp))) := by
  have hfd := mok d (List.mem_of_getElem? hd)
  obtain ⟨d0, hd0, hlink⟩ := sok _ (lk2_mem hs)
  have hdd : d0 = d := Option.some.inj (hd0.symm.trans hd)
  subst hdd
  dsimp only at hlink
  obtain ⟨⟨f1, f2⟩, ⟨f3, f4, f5⟩, f6, f7⟩ := id hfd
  have hstat : Jvm.Cond.static d0.y ∈ BW := by
    rcases f6 with ⟨-, z⟩ | ⟨z, -⟩
    · exact bw z rfl
    · rw [hst] at z; cases z
  unfold acall at h
  rw [if_pos hst] at h
  dsimp only at h
  split at h
  next hn =>
    obtain ⟨hn1, hn2⟩ := hn
    split at h
    next r mem' hc =>
      cases h
      have hN' := hN _ _ _ _ rfl
      have hroom : 2 * (F0 m pc la (st.map (tr ad sp))).monitorRoom + (((st.drop d0.na).map (tr ad sp)).map fun v => v.category).sum ≤ 8 := lv_room (by rw [awd_tr hsp]; exact hn2)
      rcases hcall _ _ _ _ _ hc with ⟨hμ, d1, rm, g1, hM, g2, g3, g4, g5⟩ | ⟨hμ, ha, rfl, g4, g5⟩
      · have hd1 : d1 = d0 := Option.some.inj (g1.symm.trans hd)
        subst hd1
        have hPS : PreS s H (PC D ad sp cI cO S (st.take d1.na).reverse mem) (((st.take d1.na).reverse).map (tr ad sp)) := ⟨PC_blind, fun U hU hW => ⟨rfl, by rw [hU]; exact hP, hKX.go (U' := U) hW (by rw [hU]; exact hS.1) (fun q h1 h2 => by rw [hU]; exact hS.2.1 q h1 h2) hAD⟩⟩
        have hlen : (((st.take d1.na).reverse).map (tr ad sp)).length = d1.na := by simp; omega
        have hrR : rm.frames + 1 ≤ R.frames ∧ 8 + (d1.ml + 11) + rm.locals ≤ R.locals := ⟨g4, by omega⟩
        have hcs' : cells + 0 ≤ R.cells ∧ slots + 0 ≤ R.slots := hcs
        have fin : ∀ (H1 : Heap) (locs1 : List Loc), va_P D vwCl (wd ad sp cI cO mem') H1 → va_S A s.heap H1 locs1 → W p l e R s m args below meth c H1 locs1 cells slots Q (F0 m (pc + 3) la ((r.map (tr ad sp)).toList ++ (st.drop d1.na).map (tr ad sp))) := by
          intro H1 locs1 q1 q2
          have := hN' H1 locs1 la q1 q2 hL
          rw [List.map_append] at this
          cases r <;> exact this
        rcases hlink with ⟨-, hl⟩ | ⟨-, -, hl⟩
        · exact ab_back (va_runS (own := cn own) (nL := nL) (Ts := BW) ⟨hx, hb, hml, hown, hts⟩ hM (va_cwS d1.na hts (goodIn_bw (fun w hw => by
            rcases List.mem_append.mp hw with z | z
            · simp only [List.mem_cons, List.not_mem_nil, or_false] at z
              rcases z with rfl | rfl | rfl
              · exact bw hl rfl
              · exact hstat
              · exact bw f2 rfl
            · exact goodIn_ws hfd w z)) rfl g2 g3 f5 hrR) hPS rfl hlen hL.2.1 (take_drop_stack st d1.na) hroom hdg hcs') hS hAD fin
        · exact ab_back (va_runSN (own := cn own) (nL := nL) (Ts := BW) ⟨hx, hb, hml, hown, hts⟩ hM ⟨va_cnB d1.na hts (goodIn_bw (goodIn_ws hfd)) rfl g2 g3 (hKX.2.1 _ hl) (hts _ (bw f2 rfl)) f5 hrR, hts _ hstat, trivial⟩ hPS rfl hlen hL.2.1 (take_drop_stack st d1.na) hroom hdg hcs') hS hAD fin
      · have hni : nst = false := by
          rcases hlink with ⟨z, -⟩ | ⟨z, -, z2⟩
          · exact z
          · exfalso
            rcases math_name hμ hd with ⟨-, rfl⟩ | ⟨-, rfl⟩ | ⟨-, rfl⟩ <;> exact absurd z2 (by simp [nlk, MD.y, md_J9_abs_0f7a4, md_J9_max_7cf53, md_J9_min_7cf53, yX3_rangeFault, yX3_firstOf, yX3_whatFault, yX3_leastChoice, yX3_mostChoice, yJ9_abs_0f7a4, yJ9_max_7cf53, yJ9_min_7cf53, RJ9, RX3])
        have hl : Jvm.Cond.methodLink (cn own) k d0.y ∈ lw_tbl := by
          rcases hlink with ⟨-, z⟩ | ⟨z, -⟩
          · exact z
          · rw [hni] at z; cases z
        have hw8 : (((st.drop d0.na).map (tr ad sp)).map fun v => v.category).sum + 13 ≤ R.locals := by rw [awd_tr hsp]; omega
        have q1 := hts _ (bw hl rfl)
        have q2 := hts _ hstat
        have q3 := hts _ (bw f2 rfl)
        have q4 := hts _ (bw f1 rfl)
        have hst2 := take_drop_stack (ad := ad) (sp := sp) st d0.na
        have fin := hN' H locs la hP hS hL
        rcases math_name hμ hd with ⟨rfl, rfl⟩ | ⟨rfl, rfl⟩ | ⟨rfl, rfl⟩
        · generalize hvs : (st.take (MD.na md_J9_abs_0f7a4)).reverse = vs at ha hst2
          match vs, ha with
          | [.int x], ha =>
            cases ha
            rw [hst2]
            exact va_mabs (own := cn own) hx hb (hml.trans hL.2.1.symm) hown q1 q2 q3 q4 g4 hw8 hcs.1 hcs.2 hdg fin
        · generalize hvs : (st.take (MD.na md_J9_max_7cf53)).reverse = vs at ha hst2
          match vs, ha with
          | [.int x, .int y], ha =>
            cases ha
            rw [hst2]
            exact va_mmax (own := cn own) hx hb (hml.trans hL.2.1.symm) hown q1 q2 q3 q4 g4 hw8 hcs.1 hcs.2 hdg fin
        · generalize hvs : (st.take (MD.na md_J9_min_7cf53)).reverse = vs at ha hst2
          match vs, ha with
          | [.int x, .int y], ha =>
            cases ha
            rw [hst2]
            exact va_mmin (own := cn own) hx hb (hml.trans hL.2.1.symm) hown q1 q2 q3 q4 g4 hw8 hcs.1 hcs.2 hdg fin
    next => cases h
  next => cases h
end SND
end
section
section SND2
variable {p : Program} {l : Launch} {e : Env} {R : Room} {s : State} {m : MethodId} {args : Array Value} {below : List Frame} {meth : Method} {c : Code} {H : Heap} {locs : List Loc} {cells slots : Nat} {Q : State → Prop}
variable {D : va_G} {ad : Nat → Nat} {sp : Value} {cI cO : ClassId} {S : Sc} {A : Nat → Prop} {call : Cf} {own : Nat} {cc : ByteArray} {rt : Option FieldType} {nL : Nat}
theorem arecv_of {d : MD} {st : List Value} (h : arecv d st = true) : ∃ o : Nat, st[d.na]? = some (.ref o) ∧ ((d.own < 5 ∧ kd o = d.own ∧ o < 44) ∨ (d.own = 10 ∧ kd o = 7)) := by
  unfold arecv at h
  split at h
  next o ho =>
    refine ⟨o, ho, ?_⟩
    split at h
    next h5 => exact Or.inl ⟨h5, (of_decide_eq_true h).1, (of_decide_eq_true h).2⟩
    next => exact Or.inr (of_decide_eq_true h)
  next => cases h
theorem kd7 {o : Nat} (h : kd o = 7) : 50 ≤ o ∧ o < 58 := by
  unfold kd at h
  split at h
  next ho =>
    exfalso
    have : ∀ i, i < 44 → ¬ kdL.getD i 99 = 7 := by decide
    exact this o ho h
  next => split at h <;> (try omega); split at h <;> (try omega); split at h <;> (try omega); split at h <;> (try omega); split at h <;> omega
theorem kd8 {o : Nat} (h : kd o = 8) : 60 ≤ o ∧ o < 68 := by
  unfold kd at h
  split at h
  next ho =>
    exfalso
    have : ∀ i, i < 44 → ¬ kdL.getD i 99 = 8 := by decide
    exact this o ho h
  next => split at h <;> (try omega); split at h <;> (try omega); split at h <;> (try omega); split at h <;> (try omega); split at h <;> omega
theorem n44 {o : Nat} (h : o < 44) : o < 99 := by omega
theorem k7_99 {o : Nat} (h : kd o = 7) : o < 99 := by have := kd7 h; omega
theorem k8_99 {o : Nat} (h : kd o = 8) : o < 99 := by have := kd8 h; omega
theorem k7_v {o : Nat} (h : kd o = 7) : o + 10 < 99 := by have := kd7 h; omega
theorem ks_of {H : Heap} (h : vk_S 8 kLen kByt (fun i => ad (50 + i)) (fun i => ad (60 + i)) A s H) {o : Nat} (ho : kd o = 7) : va_OF "java/lang/String" "coder" "B" (.int 0) (ad o) A s H ∧ va_OF "java/lang/String" "value" "[B" (.ref (ad (o + 10))) (ad o) A s H := by
  have h1 := kd7 ho
  have hs := h.1 (o - 50) (by omega)
  dsimp only at hs
  rw [show 50 + (o - 50) = o by omega, show 60 + (o - 50) = o + 10 by omega] at hs
  exact ⟨hs.2.1, hs.2.2.1⟩
theorem kb_of {H : Heap} (h : vk_S 8 kLen kByt (fun i => ad (50 + i)) (fun i => ad (60 + i)) A s H) {o : Nat} (ho : kd o = 8) : va_T .byte (ad o) (ablen o) (fun j => .int (abyt o j)) A s H := by
  have h1 := kd8 ho
  have hs := (h.1 (o - 60) (by omega)).2.2.2
  dsimp only at hs
  rw [show 60 + (o - 60) = o by omega] at hs
  exact hs
theorem vwCl_at {ci : Nat} (h : ci < 5) : vwCl[ci]? = some (cn ci, TT ci, nfT ci) := by
  rcases (by omega : ci = 0 ∨ ci = 1 ∨ ci = 2 ∨ ci = 3 ∨ ci = 4) with rfl | rfl | rfl | rfl | rfl <;> rfl
theorem inTT {ci : Nat} (h : ci < 5) : ∀ w ∈ u_ws (cn ci) (TT ci) (nfT ci), w ∈ BW := by
  have good : ∀ (C : String) (T : u_T) (N : Nat), ∀ w ∈ u_ws C T N, goodWord w = true := by
    intro C T N w hw
    obtain ⟨k, -, rfl⟩ := List.mem_map.mp hw
    unfold u_lay
    split <;> rfl
  intro w hw
  refine bw ?_ (good _ _ _ w hw)
  rcases (by omega : ci = 0 ∨ ci = 1 ∨ ci = 2 ∨ ci = 3 ∨ ci = 4) with rfl | rfl | rfl | rfl | rfl
  · exact inX0 w hw
  · exact inX1 w hw
  · exact inX2 w hw
  · exact inX3 w hw
  · exact inX4 w hw
set_option maxHeartbeats 4000000 in
/-- a call on an object -/
theorem ab_callv (hsp : sp = .null ∨ ∃ a, sp = .ref a) (hx : p.tables.exec = Jvm.exec) (hb : c.code = cc) (hml : c.maxLocals = nL) (hown : s.vm.findClass (cn own) = some m.cls) (hts : ∀ w ∈ BW, w.before args s = true) (hKX : KX D ad sp cI cO S A s s.heap) (hAD : ∀ q, AD ad q → A q) (hcs : cells ≤ R.cells ∧ slots ≤ R.slots) (hcall : CallOk l R D ad sp cI cO S call)
    {pc k μ : Nat} {nst : Bool} {d : MD} {ls : Lo} {la : Array Slot} {st : List Value} {mem : Mm} {o : Rz ⊕ S5} (hdg : decode cc pc = .ok (.invokevirtual k, 3)) (hs : lk2 sTL own k = some (nst, μ)) (hd : mTL[μ]? = some d) (hst : d.st = false) (hrv : arecv d st = true) (h : acall call d μ pc ls st mem = some o)
    (hP : va_P D vwCl (wd ad sp cI cO mem) H) (hS : va_S A s.heap H locs) (hL : lh ad sp nL ls la)
    (hN : ∀ pc' ls' st' mem', o = .inr (pc', ls', st', mem') → ∀ H locs la, va_P D vwCl (wd ad sp cI cO mem') H → va_S A s.heap H locs → lh ad sp nL ls' la → W p l e R s m args below meth c H locs cells slots Q (F0 m pc' la (st'.map (tr ad sp)))) : W p l e R s m args below meth c H locs cells slots Q (F0 m pc la (st.map (tr ad sp))) := by
  have hfd := mok d (List.mem_of_getElem? hd)
  obtain ⟨d0, hd0, hlink⟩ := sok _ (lk2_mem hs)
  have hdd : d0 = d := Option.some.inj (hd0.symm.trans hd)
  subst hdd
  dsimp only at hlink
  obtain ⟨⟨f1, f2⟩, ⟨f3, f4, f5⟩, f6, f7⟩ := id hfd
  obtain ⟨hin, hse⟩ : Jvm.Cond.instanceMethod d0.y ∈ BW ∧ Jvm.Cond.selects d0.y.cls d0.y d0.y ∈ BW := by
    rcases f6 with ⟨z, -⟩ | ⟨-, z1, z2⟩
    · rw [hst] at z; cases z
    · exact ⟨bw z1 rfl, bw z2 rfl⟩
  have hl : Jvm.Cond.methodLink (cn own) k d0.y ∈ lw_tbl := by
    rcases hlink with ⟨-, z⟩ | ⟨-, z, -⟩
    · exact z
    · rw [hst] at z; cases z
  obtain ⟨ob, hob, hkind⟩ := arecv_of hrv
  unfold acall at h
  rw [if_neg (show ¬ d0.st = true by rw [hst]; exact Bool.false_ne_true)] at h
  dsimp only at h
  split at h
  next hn =>
    obtain ⟨hn1, hn2⟩ := hn
    split at h
    next r mem' hc =>
      cases h
      have hN' := hN _ _ _ _ rfl
      have hroom : 2 * (F0 m pc la (st.map (tr ad sp))).monitorRoom + (((st.drop (d0.na + 1)).map (tr ad sp)).map fun v => v.category).sum ≤ 8 := lv_room (by rw [awd_tr hsp]; exact hn2)
      have htk : (st.take (d0.na + 1)).reverse = .ref ob :: (st.take d0.na).reverse := by
        rw [List.take_add_one, hob]
        simp
      have hob99 : ob < 99 := by
        rcases hkind with ⟨-, -, z⟩ | ⟨-, z⟩
        · omega
        · have := kd7 z; omega
      have hvs : ((st.take (d0.na + 1)).reverse).map (tr ad sp) = .ref (ad ob) :: ((st.take d0.na).reverse).map (tr ad sp) := by
        rw [htk, List.map_cons, tr_ref hob99]
      have hstk : st.map (tr ad sp) = (((st.take d0.na).reverse).map (tr ad sp)).reverse ++ .ref (ad ob) :: (st.drop (d0.na + 1)).map (tr ad sp) := by
        rw [take_drop_stack st (d0.na + 1), hvs, List.reverse_cons, List.append_assoc]
        rfl
      rcases hcall _ _ _ _ _ hc with ⟨hμ, d1, rm, g1, hM, g2, g3, g4, g5⟩ | ⟨hμ, ha, -⟩
      · have hd1 : d1 = d0 := Option.some.inj (g1.symm.trans hd)
        subst hd1
        have hrecv : ∃ cellB : Cell, H[ad ob]? = some cellB ∧ cellB.vm.isStatics = false ∧ s.vm.findClass d1.y.cls = some cellB.cls := by
          rcases hkind with ⟨z1, z2, z3⟩ | ⟨z1, z2⟩
          · have he := wd_at (ad := ad) (sp := sp) (cI := cI) (cO := cO) (mem := mem) z3
            rw [sh_o z2 z1] at he
            rw [f3]
            exact va_recv hKX.1 hP (vwCl_at z1) he
          · rw [f3, z1]
            obtain ⟨k1, k2⟩ := kd7 z2
            have := vk_recv (i := ob - 50) hKX.2.2.1 (by omega) hS
            rw [show 50 + (ob - 50) = ob by omega] at this
            exact this
        have hPV : PreV s H d1.y.cls (ad ob) (PC D ad sp cI cO S (st.take (d1.na + 1)).reverse mem) (((st.take d1.na).reverse).map (tr ad sp)) := ⟨PC_blind, hrecv, fun U hU hW => ⟨by rw [hvs], by rw [hU]; exact hP, hKX.go (U' := U) hW (by rw [hU]; exact hS.1) (fun q h1 h2 => by rw [hU]; exact hS.2.1 q h1 h2) hAD⟩⟩
        have hlen : (((st.take d1.na).reverse).map (tr ad sp)).length = d1.na := by simp; omega
        have hrR : rm.frames + 1 ≤ R.frames ∧ 8 + (d1.ml + 11) + rm.locals ≤ R.locals := ⟨g4, by omega⟩
        have hcs' : cells + 0 ≤ R.cells ∧ slots + 0 ≤ R.slots := hcs
        have fin : ∀ (H1 : Heap) (locs1 : List Loc), va_P D vwCl (wd ad sp cI cO mem') H1 → va_S A s.heap H1 locs1 → W p l e R s m args below meth c H1 locs1 cells slots Q (F0 m (pc + 3) la ((r.map (tr ad sp)).toList ++ (st.drop (d1.na + 1)).map (tr ad sp))) := by
          intro H1 locs1 q1 q2
          have := hN' H1 locs1 la q1 q2 hL
          rw [List.map_append] at this
          cases r <;> exact this
        exact ab_back (va_runV (own := cn own) (nL := nL) (Ts := BW) ⟨hx, hb, hml, hown, hts⟩ hM (cwV d1.na hts (goodIn_bw (fun w hw => by
            rcases List.mem_append.mp hw with z | z
            · simp only [List.mem_cons, List.not_mem_nil, or_false] at z
              rcases z with rfl | rfl | rfl | rfl
              · exact bw hl rfl
              · exact hin
              · exact hse
              · exact bw f2 rfl
            · exact goodIn_ws hfd w z)) rfl g2 g3 ⟨rfl, f5⟩ hrR) hPV rfl hlen hL.2.1 hstk hroom hdg hcs') hS hAD fin
      · exfalso
        rcases math_name hμ hd with ⟨-, rfl⟩ | ⟨-, rfl⟩ | ⟨-, rfl⟩ <;> cases hst
    next => cases h
  next => cases h
end SND2
end
section
section SND3A
theorem q7 {x i : Nat} (h : x < 44) (hi : i < 7) : x + 1 + i < 99 := by omega
theorem ajmp_of {pc t : Nat} {off : Int} (h : ajmp pc off = some t) : (pc : Int) + off = (t : Int) := by
  unfold ajmp at h
  by_cases hz : 0 ≤ (pc : Int) + off
  · rw [if_pos hz] at h
    cases h
    omega
  · rw [if_neg hz] at h
    cases h
def tyT : Nat → Nat → FieldType
  | 0 => tyX0
  | 1 => tyX1
  | 2 => tyX2
  | 3 => tyX3
  | _ => tyX4
theorem tyT_ok {ci : Nat} (h : ci < 5) : ∀ k, k < nfT ci → parseFieldDescriptor (TT ci k).2.2.1 = some (tyT ci k) := by
  rcases (by omega : ci = 0 ∨ ci = 1 ∨ ci = 2 ∨ ci = 3 ∨ ci = 4) with rfl | rfl | rfl | rfl | rfl
  · exact tyX0_ok
  · exact tyX1_ok
  · exact tyX2_ok
  · exact tyX3_ok
  · exact tyX4_ok
theorem nmT {ci : Nat} (h : ci < 5) : ∀ a, a < nfT ci → ∀ b, b < nfT ci → a ≠ b → (TT ci a).2.1 ≠ (TT ci b).2.1 := by
  rcases (by omega : ci = 0 ∨ ci = 1 ∨ ci = 2 ∨ ci = 3 ∨ ci = 4) with rfl | rfl | rfl | rfl | rfl
  · exact nmX0
  · exact nmX1
  · exact nmX2
  · exact nmX3
  · exact nmX4
/-- a field that holds an int is written: it isn't final, and the value fits -/
theorem tt_int {ci f o : Nat} {v : Int32} (h : ci < 5) (hf : f < nfT ci) (hr : rfT ci f o = none) (hv : pok ci f v) : (TT ci f).2.2.2 = false ∧ parseFieldDescriptor (TT ci f).2.2.1 = some (tyT ci f) ∧ narrow (tyT ci f) (.int v) = .int v ∧ fits (tyT ci f) (.int v) = true := by
  have hd := tyT_ok h f hf
  have key : (TT ci f).2.2.2 = false ∧ ((¬ ((ci = 3 ∧ f = 3) ∨ (ci = 4 ∧ f = 4)) ∧ tyT ci f = .int) ∨ (((ci = 3 ∧ f = 3) ∨ (ci = 4 ∧ f = 4)) ∧ tyT ci f = .boolean)) := by
    rcases (by omega : ci = 0 ∨ ci = 1 ∨ ci = 2 ∨ ci = 3 ∨ ci = 4) with rfl | rfl | rfl | rfl | rfl
    · have hf : f < 6 := hf
      rcases (by omega : f = 0 ∨ f = 1 ∨ f = 2 ∨ f = 3 ∨ f = 4 ∨ f = 5) with rfl | rfl | rfl | rfl | rfl | rfl <;> exact ⟨rfl, Or.inl ⟨by omega, rfl⟩⟩
    · have hf : f < 2 := hf
      rcases (by omega : f = 0 ∨ f = 1) with rfl | rfl
      · cases hr
      · exact ⟨rfl, Or.inl ⟨by omega, rfl⟩⟩
    · have hf : f < 7 := hf
      rcases (by omega : f = 0 ∨ f = 1 ∨ f = 2 ∨ f = 3 ∨ f = 4 ∨ f = 5 ∨ f = 6) with rfl | rfl | rfl | rfl | rfl | rfl | rfl <;> first | cases hr; done | exact ⟨rfl, Or.inl ⟨by omega, rfl⟩⟩
    · have hf : f < 8 := hf
      rcases (by omega : f = 0 ∨ f = 1 ∨ f = 2 ∨ f = 3 ∨ f = 4 ∨ f = 5 ∨ f = 6 ∨ f = 7) with rfl | rfl | rfl | rfl | rfl | rfl | rfl | rfl <;> first | cases hr; done | exact ⟨rfl, Or.inl ⟨by omega, rfl⟩⟩ | exact ⟨rfl, Or.inr ⟨by omega, rfl⟩⟩
    · have hf : f < 15 := hf
      rcases (by omega : f = 0 ∨ f = 1 ∨ f = 2 ∨ f = 3 ∨ f = 4 ∨ f = 5 ∨ f = 6 ∨ f = 7 ∨ f = 8 ∨ f = 9 ∨ f = 10 ∨ f = 11 ∨ f = 12 ∨ f = 13 ∨ f = 14) with rfl | rfl | rfl | rfl | rfl | rfl | rfl | rfl | rfl | rfl | rfl | rfl | rfl | rfl | rfl <;> first | cases hr; done | exact ⟨rfl, Or.inl ⟨by omega, rfl⟩⟩ | exact ⟨rfl, Or.inr ⟨by omega, rfl⟩⟩
  obtain ⟨k1, ⟨k2, k3⟩ | ⟨k2, k3⟩⟩ := key
  · exact ⟨k1, hd, by rw [k3]; rfl, by rw [k3]; rfl⟩
  · have hv := hv.resolve_left (fun q => q k2)
    refine ⟨k1, hd, ?_, ?_⟩ <;> rw [k3] <;> rcases hv with rfl | rfl <;> rfl
end SND3A
section SND3
variable {p : Program} {l : Launch} {e : Env} {R : Room} {s : State} {m : MethodId} {args : Array Value} {below : List Frame} {meth : Method} {c : Code} {cells slots : Nat} {Q : State → Prop}
variable {D : va_G} {ad : Nat → Nat} {sp : Value} {cI cO : ClassId} {S : Sc} {A : Nat → Prop} {call : Cf} {own : Nat} {cc : ByteArray} {rt : Option FieldType} {nL : Nat}
/-- what the walk of one method's body stands on -/
def BodyOk (p : Program) (l : Launch) (R : Room) (s : State) (m : MethodId) (args : Array Value) (c : Code) (cells slots : Nat) (D : va_G) (ad : Nat → Nat) (sp : Value) (cI cO : ClassId) (S : Sc) (A : Nat → Prop) (call : Cf) (own : Nat) (cc : ByteArray) (nL : Nat) : Prop :=
  ((sp = .null ∨ ∃ a, sp = .ref a) ∧ p.tables.exec = Jvm.exec ∧ c.code = cc ∧ c.maxLocals = nL) ∧ (s.vm.findClass (cn own) = some m.cls ∧ (∀ w ∈ BW, w.before args s = true) ∧ KX D ad sp cI cO S A s s.heap ∧ (∀ q, AD ad q → A q)) ∧ ((cells ≤ R.cells ∧ slots ≤ R.slots) ∧ CallOk l R D ad sp cI cO S call ∧ (∀ i j, i < 44 → j < 44 → ad i = ad j → i = j))
/-- a state of the small machine, as the walk has it -/
def Wat (p : Program) (l : Launch) (e : Env) (R : Room) (s : State) (m : MethodId) (args : Array Value) (below : List Frame) (meth : Method) (c : Code) (cells slots : Nat) (Q : State → Prop) (D : va_G) (ad : Nat → Nat) (sp : Value) (cI cO : ClassId) (A : Nat → Prop) (nL : Nat) (pc : Nat) (ls : Lo) (st : List Value) (mem : Mm) : Prop :=
  ∀ (H : Heap) (locs : List Loc) (la : Array Slot), va_P D vwCl (wd ad sp cI cO mem) H → va_S A s.heap H locs → lh ad sp nL ls la → W p l e R s m args below meth c H locs cells slots Q (F0 m pc la (st.map (tr ad sp)))
variable {pc : Nat} {ls : Lo} {st : List Value} {mem : Mm} {o : Rz ⊕ S5} {H : Heap} {locs : List Loc} {la : Array Slot}
theorem ajm_of {off : Int} {rest : List Value} (h : ajm pc off ls rest mem = some o) : ∃ t : Nat, (pc : Int) + off = (t : Int) ∧ o = .inr (t, ls, rest, mem) := by
  unfold ajm ajmp at h
  by_cases hz : 0 ≤ (pc : Int) + off
  · rw [if_pos hz] at h
    cases h
    exact ⟨_, by omega, rfl⟩
  · rw [if_neg hz] at h
    cases h

theorem ab_iload (hB : BodyOk p l R s m args c cells slots D ad sp cI cO S A call own cc nL) (hL : lh ad sp nL ls la) {i len : Nat} (h : aload1 ls i pc len st mem isI = some o) : ∃ x, la[i]? = some (.val (.int x)) ∧ o = .inr (pc + len, ls, .int x :: st, mem) := by
  unfold aload1 at h
  split at h
  next v hv =>
    split at h
    next hok =>
      obtain ⟨x, rfl⟩ := isI_of hok
      cases h
      exact ⟨x, lh_at hL hv, rfl⟩
    next => cases h
  next => cases h
theorem ab_lload (hB : BodyOk p l R s m args c cells slots D ad sp cI cO S A call own cc nL) (hL : lh ad sp nL ls la) {i len : Nat} (h : aload1 ls i pc len st mem isL = some o) : ∃ x, la[i]? = some (.val (.long x)) ∧ o = .inr (pc + len, ls, .long x :: st, mem) := by
  unfold aload1 at h
  split at h
  next v hv =>
    split at h
    next hok =>
      obtain ⟨x, rfl⟩ := isL_of hok
      cases h
      exact ⟨x, lh_at hL hv, rfl⟩
    next => cases h
  next => cases h
theorem ab_aload (hB : BodyOk p l R s m args c cells slots D ad sp cI cO S A call own cc nL) (hL : lh ad sp nL ls la) {i len : Nat} (h : aload1 ls i pc len st mem isR = some o) : ∃ x, la[i]? = some (.val (tr ad sp (.ref x))) ∧ o = .inr (pc + len, ls, .ref x :: st, mem) := by
  unfold aload1 at h
  split at h
  next v hv =>
    split at h
    next hok =>
      obtain ⟨x, rfl⟩ := isR_of hok
      cases h
      exact ⟨x, lh_at hL hv, rfl⟩
    next => cases h
  next => cases h
theorem ab_store {i len : Nat} {ok : Value → Bool} (h : astore1 ls i pc len st mem ok = some o) : ∃ v rest, st = v :: rest ∧ ok v = true ∧ i + v.category ≤ ls.length ∧ o = .inr (pc + len, aset ls i v, rest, mem) := by
  unfold astore1 at h
  split at h
  next v rest =>
    split at h
    next hok => cases h; exact ⟨_, _, rfl, hok.1, hok.2, rfl⟩
    next => cases h
  next => cases h
theorem abin_of {f : Int32 → Int32 → Int32} (h : abin f pc ls st mem = some o) : ∃ x y rest, st = .int y :: .int x :: rest ∧ o = .inr (pc + 1, ls, .int (f x y) :: rest, mem) := by
  unfold abin at h
  split at h
  next => cases h; exact ⟨_, _, _, rfl, rfl⟩
  next => cases h
theorem abinL_of {f : Int64 → Int64 → Int64} (h : abinL f pc ls st mem = some o) : ∃ x y rest, st = .long y :: .long x :: rest ∧ o = .inr (pc + 1, ls, .long (f x y) :: rest, mem) := by
  unfold abinL at h
  split at h
  next => cases h; exact ⟨_, _, _, rfl, rfl⟩
  next => cases h
theorem adiv_of {f : Int32 → Int32 → Int32} (h : adiv f pc ls st mem = some o) : ∃ x y rest, st = .int y :: .int x :: rest ∧ ¬ y = 0 ∧ o = .inr (pc + 1, ls, .int (f x y) :: rest, mem) := by
  unfold adiv at h
  split at h
  next =>
    split at h
    next => cases h
    next hy => cases h; exact ⟨_, _, _, rfl, hy, rfl⟩
  next => cases h
theorem adivL_of {f : Int64 → Int64 → Int64} (h : adivL f pc ls st mem = some o) : ∃ x y rest, st = .long y :: .long x :: rest ∧ ¬ y = 0 ∧ o = .inr (pc + 1, ls, .long (f x y) :: rest, mem) := by
  unfold adivL at h
  split at h
  next =>
    split at h
    next => cases h
    next hy => cases h; exact ⟨_, _, _, rfl, hy, rfl⟩
  next => cases h

set_option maxHeartbeats 16000000 in
theorem ab_one (hB : BodyOk p l R s m args c cells slots D ad sp cI cO S A call own cc nL) {i : Instr} {len : Nat} (hdg : decode cc pc = .ok (i, len)) (hlen : len = wlen i len) (h : aex call S own rt i len pc ls st mem = some o)
    (hP : va_P D vwCl (wd ad sp cI cO mem) H) (hS : va_S A s.heap H locs) (hL : lh ad sp nL ls la)
    (hN : ∀ pc' ls' st' mem', o = .inr (pc', ls', st', mem') → Wat p l e R s m args below meth c cells slots Q D ad sp cI cO A nL pc' ls' st' mem')
    (hR : ∀ r, arets i rt st = some r → o = .inl (r, mem) → W p l e R s m args below meth c H locs cells slots Q (F0 m pc la (st.map (tr ad sp)))) : W p l e R s m args below meth c H locs cells slots Q (F0 m pc la (st.map (tr ad sp))) := by
  obtain ⟨⟨hsp, hx, hb, hml⟩, ⟨hown, hts, hKX, hAD⟩, ⟨hcs, hcall, hinj⟩⟩ := id hB
  have hA : ∀ i, i < 44 → A (ad i) := fun i hi => hAD _ ⟨i, hi, rfl⟩
  have hD : va_D A (wd ad sp cI cO mem) := wd_D hinj hA mem
  have ty0 : (tyW cI cO)[0]? = some (cI, .int) := rfl
  have ty1 : (tyW cI cO)[1]? = some (cO, .object RX0) := rfl
  have lhm : la.size = nL := hL.2.1
  cases i with
  | iconst n =>
    have hl : len = _ := hlen
    simp only [wlen] at hl
    subst hl
    cases h
    exact lv_iconst hx hb hdg rfl (hN _ _ _ _ rfl H locs la hP hS hL)
  | bipush n =>
    have hl : len = _ := hlen
    simp only [wlen] at hl
    subst hl
    cases h
    exact lv_bipush hx hb hdg rfl (hN _ _ _ _ rfl H locs la hP hS hL)
  | sipush n =>
    have hl : len = _ := hlen
    simp only [wlen] at hl
    subst hl
    cases h
    exact lv_sipush hx hb hdg rfl (hN _ _ _ _ rfl H locs la hP hS hL)
  | lconst n =>
    have hl : len = _ := hlen
    simp only [wlen] at hl
    subst hl
    cases h
    exact lv_lconst hx hb hdg rfl (hN _ _ _ _ rfl H locs la hP hS hL)
  | iload_n k =>
    have hl : len = _ := hlen
    simp only [wlen] at hl
    subst hl
    obtain ⟨x, h1, rfl⟩ := ab_iload hB hL h
    exact lv_iload_n hx hb hdg rfl h1 (hN _ _ _ _ rfl H locs la hP hS hL)
  | iload k =>
    have hl : len = _ := hlen
    simp only [wlen] at hl
    subst hl
    obtain ⟨x, h1, rfl⟩ := ab_iload hB hL h
    exact lv_iload hx hb hdg h1 (hN _ _ _ _ rfl H locs la hP hS hL)
  | lload_n k =>
    have hl : len = _ := hlen
    simp only [wlen] at hl
    subst hl
    obtain ⟨x, h1, rfl⟩ := ab_lload hB hL h
    exact lv_lload_n hx hb hdg rfl h1 (hN _ _ _ _ rfl H locs la hP hS hL)
  | lload k =>
    have hl : len = _ := hlen
    simp only [wlen] at hl
    subst hl
    obtain ⟨x, h1, rfl⟩ := ab_lload hB hL h
    exact lv_lload hx hb hdg h1 (hN _ _ _ _ rfl H locs la hP hS hL)
  | aload_n k =>
    have hl : len = _ := hlen
    simp only [wlen] at hl
    subst hl
    obtain ⟨x, h1, rfl⟩ := ab_aload hB hL h
    have fin := hN _ _ _ _ rfl H locs la hP hS hL
    rw [List.map_cons] at fin
    generalize hz : tr ad sp (.ref x) = z at h1 fin
    have hz2 := tr_ref_or (ad := ad) hsp x
    rw [hz] at hz2
    rcases hz2 with rfl | ⟨q, rfl⟩
    · exact lv_aload_nN hx hb hdg rfl h1 fin
    · exact lv_aload_n hx hb hdg rfl h1 fin
  | istore_n k =>
    have hl : len = _ := hlen
    simp only [wlen] at hl
    subst hl
    obtain ⟨v, rest, rfl, hok, hle, rfl⟩ := ab_store h
    obtain ⟨x, rfl⟩ := isI_of hok
    have hle2 : (k : Nat) + 1 ≤ ls.length := hle
    exact lv_istore_n (lv := asl ad sp ls) hx hb hdg rfl hL.2 (by have := hL.1; omega) rfl (fun la' hl' => hN _ _ _ _ rfl H locs la' hP hS (lh_set1 hsp hL.1 hl'))
  | lstore_n k =>
    have hl : len = _ := hlen
    simp only [wlen] at hl
    subst hl
    obtain ⟨v, rest, rfl, hok, hle, rfl⟩ := ab_store h
    obtain ⟨x, rfl⟩ := isL_of hok
    have hle2 : (k : Nat) + 2 ≤ ls.length := hle
    exact lv_lstore_n (lv := asl ad sp ls) hx hb hdg rfl hL.2 (by have := hL.1; omega) rfl (fun la' hl' => hN _ _ _ _ rfl H locs la' hP hS (lh_set2 hsp rfl hL.1 hl'))
  | astore_n k =>
    have hl : len = _ := hlen
    simp only [wlen] at hl
    subst hl
    obtain ⟨v, rest, rfl, hok, hle, rfl⟩ := ab_store h
    obtain ⟨x, rfl⟩ := isR_of hok
    have hle2 : (k : Nat) + 1 ≤ ls.length := hle
    have fin : ∀ la', lv_has la' nL (((k : Nat), tr ad sp (.ref x)) :: (asl ad sp ls).filter (fun q => !(q.1 == (k : Nat)) && !(q.1 + 1 == (k : Nat) && q.2.category == 2))) → _ := fun la' hl' => hN _ _ _ _ rfl H locs la' hP hS (lh_set1 hsp hL.1 hl')
    rw [List.map_cons]
    generalize hz : tr ad sp (.ref x) = z at fin
    have hz2 := tr_ref_or (ad := ad) hsp x
    rw [hz] at hz2
    rcases hz2 with rfl | ⟨q, rfl⟩
    · exact lv_astore_nN (lv := asl ad sp ls) hx hb hdg rfl hL.2 (by have := hL.1; omega) rfl fin
    · exact lv_astore_n (lv := asl ad sp ls) hx hb hdg rfl hL.2 (by have := hL.1; omega) rfl fin
  | aload k =>
    have hl : len = _ := hlen
    simp only [wlen] at hl
    subst hl
    obtain ⟨x, h1, rfl⟩ := ab_aload hB hL h
    have fin := hN _ _ _ _ rfl H locs la hP hS hL
    rw [List.map_cons] at fin
    generalize hz : tr ad sp (.ref x) = z at h1 fin
    have hz2 := tr_ref_or (ad := ad) hsp x
    rw [hz] at hz2
    rcases hz2 with rfl | ⟨q, rfl⟩
    · exact lv_aloadN hx hb hdg h1 fin
    · exact lv_aload hx hb hdg h1 fin
  | istore k =>
    have hl : len = _ := hlen
    simp only [wlen] at hl
    subst hl
    obtain ⟨v, rest, rfl, hok, hle, rfl⟩ := ab_store h
    obtain ⟨x, rfl⟩ := isI_of hok
    have hle2 : (k : Nat) + 1 ≤ ls.length := hle
    exact lv_istore (lv := asl ad sp ls) hx hb hdg hL.2 (by have := hL.1; omega) rfl (fun la' hl' => hN _ _ _ _ rfl H locs la' hP hS (lh_set1 hsp hL.1 hl'))
  | lstore k =>
    have hl : len = _ := hlen
    simp only [wlen] at hl
    subst hl
    obtain ⟨v, rest, rfl, hok, hle, rfl⟩ := ab_store h
    obtain ⟨x, rfl⟩ := isL_of hok
    have hle2 : (k : Nat) + 2 ≤ ls.length := hle
    exact lv_lstore (lv := asl ad sp ls) hx hb hdg hL.2 (by have := hL.1; omega) rfl (fun la' hl' => hN _ _ _ _ rfl H locs la' hP hS (lh_set2 hsp rfl hL.1 hl'))
  | astore k =>
    have hl : len = _ := hlen
    simp only [wlen] at hl
    subst hl
    obtain ⟨v, rest, rfl, hok, hle, rfl⟩ := ab_store h
    obtain ⟨x, rfl⟩ := isR_of hok
    have hle2 : (k : Nat) + 1 ≤ ls.length := hle
    have fin : ∀ la', lv_has la' nL (((k : Nat), tr ad sp (.ref x)) :: (asl ad sp ls).filter (fun q => !(q.1 == (k : Nat)) && !(q.1 + 1 == (k : Nat) && q.2.category == 2))) → _ := fun la' hl' => hN _ _ _ _ rfl H locs la' hP hS (lh_set1 hsp hL.1 hl')
    rw [List.map_cons]
    generalize hz : tr ad sp (.ref x) = z at fin
    have hz2 := tr_ref_or (ad := ad) hsp x
    rw [hz] at hz2
    rcases hz2 with rfl | ⟨q, rfl⟩
    · exact lv_astoreN (lv := asl ad sp ls) hx hb hdg hL.2 (by have := hL.1; omega) rfl fin
    · exact lv_astore (lv := asl ad sp ls) hx hb hdg hL.2 (by have := hL.1; omega) rfl fin
  | iinc k n =>
    have hl : len = _ := hlen
    simp only [wlen] at hl
    subst hl
    simp only [aex] at h
    split at h
    next x hk =>
      cases h
      have h1 : ls[k]? = some (some (.int x)) := by
        unfold aget at hk
        split at hk
        next w hw => cases hk; exact hw
        next => cases hk
      obtain ⟨q, hq⟩ := List.getElem?_of_mem (asl_in (ad := ad) (sp := sp) h1)
      have hlt := (List.getElem?_eq_some_iff.mp h1).1
      exact lv_iinc (lv := asl ad sp ls) hx hb hdg hL.2 hq rfl (by have := hL.1; omega) rfl (fun la' hl' => hN _ _ _ _ rfl H locs la' hP hS (lh_set1 (v := .int (x + Int32.ofInt n)) hsp hL.1 hl'))
    next => cases h
  | iadd =>
    have hl : len = _ := hlen
    simp only [wlen] at hl
    subst hl
    obtain ⟨x, y, rest, rfl, rfl⟩ := abin_of h
    exact lv_iadd hx hb hdg (hN _ _ _ _ rfl H locs la hP hS hL)
  | isub =>
    have hl : len = _ := hlen
    simp only [wlen] at hl
    subst hl
    obtain ⟨x, y, rest, rfl, rfl⟩ := abin_of h
    exact lv_isub hx hb hdg (hN _ _ _ _ rfl H locs la hP hS hL)
  | imul =>
    have hl : len = _ := hlen
    simp only [wlen] at hl
    subst hl
    obtain ⟨x, y, rest, rfl, rfl⟩ := abin_of h
    exact lv_imul hx hb hdg (hN _ _ _ _ rfl H locs la hP hS hL)
  | iand =>
    have hl : len = _ := hlen
    simp only [wlen] at hl
    subst hl
    obtain ⟨x, y, rest, rfl, rfl⟩ := abin_of h
    exact lv_iand hx hb hdg (hN _ _ _ _ rfl H locs la hP hS hL)
  | ior =>
    have hl : len = _ := hlen
    simp only [wlen] at hl
    subst hl
    obtain ⟨x, y, rest, rfl, rfl⟩ := abin_of h
    exact lv_ior hx hb hdg (hN _ _ _ _ rfl H locs la hP hS hL)
  | ishl =>
    have hl : len = _ := hlen
    simp only [wlen] at hl
    subst hl
    obtain ⟨x, y, rest, rfl, rfl⟩ := abin_of h
    exact lv_ishl hx hb hdg (hN _ _ _ _ rfl H locs la hP hS hL)
  | ishr =>
    have hl : len = _ := hlen
    simp only [wlen] at hl
    subst hl
    obtain ⟨x, y, rest, rfl, rfl⟩ := abin_of h
    exact lv_ishr hx hb hdg (hN _ _ _ _ rfl H locs la hP hS hL)
  | iushr =>
    have hl : len = _ := hlen
    simp only [wlen] at hl
    subst hl
    obtain ⟨x, y, rest, rfl, rfl⟩ := abin_of h
    exact lv_iushr hx hb hdg rfl (hN _ _ _ _ rfl H locs la hP hS hL)
  | ladd =>
    have hl : len = _ := hlen
    simp only [wlen] at hl
    subst hl
    obtain ⟨x, y, rest, rfl, rfl⟩ := abinL_of h
    exact lv_ladd hx hb hdg (hN _ _ _ _ rfl H locs la hP hS hL)
  | lsub =>
    have hl : len = _ := hlen
    simp only [wlen] at hl
    subst hl
    obtain ⟨x, y, rest, rfl, rfl⟩ := abinL_of h
    exact lv_lsub hx hb hdg (hN _ _ _ _ rfl H locs la hP hS hL)
  | lmul =>
    have hl : len = _ := hlen
    simp only [wlen] at hl
    subst hl
    obtain ⟨x, y, rest, rfl, rfl⟩ := abinL_of h
    exact lv_lmul hx hb hdg (hN _ _ _ _ rfl H locs la hP hS hL)
  | idiv =>
    have hl : len = _ := hlen
    simp only [wlen] at hl
    subst hl
    obtain ⟨x, y, rest, rfl, hy, rfl⟩ := adiv_of h
    exact lv_idiv hx hb hdg hy (hN _ _ _ _ rfl H locs la hP hS hL)
  | irem =>
    have hl : len = _ := hlen
    simp only [wlen] at hl
    subst hl
    obtain ⟨x, y, rest, rfl, hy, rfl⟩ := adiv_of h
    exact lv_irem hx hb hdg hy (hN _ _ _ _ rfl H locs la hP hS hL)
  | ldiv =>
    have hl : len = _ := hlen
    simp only [wlen] at hl
    subst hl
    obtain ⟨x, y, rest, rfl, hy, rfl⟩ := adivL_of h
    exact lv_ldiv hx hb hdg hy (hN _ _ _ _ rfl H locs la hP hS hL)
  | lrem =>
    have hl : len = _ := hlen
    simp only [wlen] at hl
    subst hl
    obtain ⟨x, y, rest, rfl, hy, rfl⟩ := adivL_of h
    exact lv_lrem hx hb hdg hy (hN _ _ _ _ rfl H locs la hP hS hL)
  | ineg =>
    have hl : len = _ := hlen
    simp only [wlen] at hl
    subst hl
    simp only [aex] at h
    split at h
    next => cases h; exact lv_ineg hx hb hdg (hN _ _ _ _ rfl H locs la hP hS hL)
    next => cases h
  | i2l =>
    have hl : len = _ := hlen
    simp only [wlen] at hl
    subst hl
    simp only [aex] at h
    split at h
    next => cases h; exact lv_i2l hx hb hdg rfl (hN _ _ _ _ rfl H locs la hP hS hL)
    next => cases h
  | i2c =>
    have hl : len = _ := hlen
    simp only [wlen] at hl
    subst hl
    simp only [aex] at h
    split at h
    next => cases h; exact lv_i2c hx hb hdg rfl (hN _ _ _ _ rfl H locs la hP hS hL)
    next => cases h
  | i2b =>
    have hl : len = _ := hlen
    simp only [wlen] at hl
    subst hl
    simp only [aex] at h
    split at h
    next => cases h; exact lv_i2b hx hb hdg rfl (hN _ _ _ _ rfl H locs la hP hS hL)
    next => cases h
  | lcmp =>
    have hl : len = _ := hlen
    simp only [wlen] at hl
    subst hl
    simp only [aex] at h
    split at h
    next => cases h; exact W.lcmp hx hb hdg (hN _ _ _ _ rfl H locs la hP hS hL)
    next => cases h
  | dup =>
    have hl : len = _ := hlen
    simp only [wlen] at hl
    subst hl
    simp only [aex] at h
    split at h
    next =>
      split at h
      next hc => cases h; exact lv_dup hx hb hdg (by rw [tr_cat hsp]; exact hc) (hN _ _ _ _ rfl H locs la hP hS hL)
      next => cases h
    next => cases h
  | pop =>
    have hl : len = _ := hlen
    simp only [wlen] at hl
    subst hl
    simp only [aex] at h
    split at h
    next =>
      split at h
      next hc => cases h; exact lv_pop hx hb hdg (by rw [tr_cat hsp]; exact hc) (hN _ _ _ _ rfl H locs la hP hS hL)
      next => cases h
    next => cases h
  | dup2 =>
    have hl : len = _ := hlen
    simp only [wlen] at hl
    subst hl
    simp only [aex] at h
    split at h
    next =>
      split at h
      next hc => cases h; exact lv_dup2_11 hx hb hdg (by rw [tr_cat hsp]; exact hc.1) (by rw [tr_cat hsp]; exact hc.2) (hN _ _ _ _ rfl H locs la hP hS hL)
      next => cases h
    next => cases h
  | ifCond cnd off =>
    have hl : len = _ := hlen
    simp only [wlen] at hl
    subst hl
    simp only [aex] at h
    split at h
    next _ x rest =>
      split at h
      next t ht0 =>
        have ht := ajmp_of ht0
        cases cnd <;> simp only [acnd, decide_eq_true_eq] at h
        · split at h
          next hc => cases h; exact lv_if_eq hx hb hdg ht (fun _ => hN _ _ _ _ rfl H locs la hP hS hL) (fun q => absurd hc q)
          next hc => cases h; exact lv_if_eq hx hb hdg ht (fun q => absurd q hc) (fun _ => hN _ _ _ _ rfl H locs la hP hS hL)
        · split at h
          next hc => cases h; exact lv_if_ne hx hb hdg ht (fun _ => hN _ _ _ _ rfl H locs la hP hS hL) (fun q => absurd q hc)
          next hc => cases h; exact lv_if_ne hx hb hdg ht (fun q => absurd q hc) (fun _ => hN _ _ _ _ rfl H locs la hP hS hL)
        · split at h
          next hc => cases h; exact lv_if_lt hx hb hdg ht (fun _ => hN _ _ _ _ rfl H locs la hP hS hL) (fun q => absurd hc q)
          next hc => cases h; exact lv_if_lt hx hb hdg ht (fun q => absurd q hc) (fun _ => hN _ _ _ _ rfl H locs la hP hS hL)
        · split at h
          next hc => cases h; exact lv_if_ge hx hb hdg ht (fun _ => hN _ _ _ _ rfl H locs la hP hS hL) (fun q => absurd hc q)
          next hc => cases h; exact lv_if_ge hx hb hdg ht (fun q => absurd q hc) (fun _ => hN _ _ _ _ rfl H locs la hP hS hL)
        · split at h
          next hc => cases h; exact lv_if_gt hx hb hdg ht (fun _ => hN _ _ _ _ rfl H locs la hP hS hL) (fun q => absurd hc q)
          next hc => cases h; exact lv_if_gt hx hb hdg ht (fun q => absurd q hc) (fun _ => hN _ _ _ _ rfl H locs la hP hS hL)
        · split at h
          next hc => cases h; exact lv_if_le hx hb hdg ht (fun _ => hN _ _ _ _ rfl H locs la hP hS hL) (fun q => absurd hc q)
          next hc => cases h; exact lv_if_le hx hb hdg ht (fun q => absurd q hc) (fun _ => hN _ _ _ _ rfl H locs la hP hS hL)
      next => cases h
    next => cases h
  | if_icmp cnd off =>
    have hl : len = _ := hlen
    simp only [wlen] at hl
    subst hl
    simp only [aex] at h
    split at h
    next _ y x rest =>
      split at h
      next t ht0 =>
        have ht := ajmp_of ht0
        cases cnd <;> simp only [acnd, decide_eq_true_eq] at h
        · split at h
          next hc => cases h; exact lv_icmp_eq hx hb hdg ht (fun _ => hN _ _ _ _ rfl H locs la hP hS hL) (fun q => absurd hc q)
          next hc => cases h; exact lv_icmp_eq hx hb hdg ht (fun q => absurd q hc) (fun _ => hN _ _ _ _ rfl H locs la hP hS hL)
        · split at h
          next hc => cases h; exact lv_icmp_ne hx hb hdg ht (fun _ => hN _ _ _ _ rfl H locs la hP hS hL) (fun q => absurd q hc)
          next hc => cases h; exact lv_icmp_ne hx hb hdg ht (fun q => absurd q hc) (fun _ => hN _ _ _ _ rfl H locs la hP hS hL)
        · split at h
          next hc => cases h; exact lv_icmp_lt hx hb hdg ht (fun _ => hN _ _ _ _ rfl H locs la hP hS hL) (fun q => absurd hc q)
          next hc => cases h; exact lv_icmp_lt hx hb hdg ht (fun q => absurd q hc) (fun _ => hN _ _ _ _ rfl H locs la hP hS hL)
        · split at h
          next hc => cases h; exact lv_icmp_ge hx hb hdg ht (fun _ => hN _ _ _ _ rfl H locs la hP hS hL) (fun q => absurd hc q)
          next hc => cases h; exact lv_icmp_ge hx hb hdg ht (fun q => absurd q hc) (fun _ => hN _ _ _ _ rfl H locs la hP hS hL)
        · split at h
          next hc => cases h; exact lv_icmp_gt hx hb hdg ht (fun _ => hN _ _ _ _ rfl H locs la hP hS hL) (fun q => absurd hc q)
          next hc => cases h; exact lv_icmp_gt hx hb hdg ht (fun q => absurd q hc) (fun _ => hN _ _ _ _ rfl H locs la hP hS hL)
        · split at h
          next hc => cases h; exact lv_icmp_le hx hb hdg ht (fun _ => hN _ _ _ _ rfl H locs la hP hS hL) (fun q => absurd hc q)
          next hc => cases h; exact lv_icmp_le hx hb hdg ht (fun q => absurd q hc) (fun _ => hN _ _ _ _ rfl H locs la hP hS hL)
      next => cases h
    next => cases h
  | goto off =>
    have hl : len = _ := hlen
    simp only [wlen] at hl
    subst hl
    obtain ⟨t, ht, rfl⟩ := ajm_of h
    exact lv_goto hx hb hdg ht (hN _ _ _ _ rfl H locs la hP hS hL)
  | ifnonnull off =>
    have hl : len = _ := hlen
    simp only [wlen] at hl
    subst hl
    simp only [aex] at h
    split at h
    next _ x rest =>
      split at h
      next => cases h
      next h99 =>
        obtain ⟨t, ht, rfl⟩ := ajm_of h
        have hz : tr ad sp (.ref x) = .ref (ad x) := if_neg h99
        rw [List.map_cons, hz]
        exact lv_ifnonnull hx hb hdg ht (hN _ _ _ _ rfl H locs la hP hS hL)
    next => cases h
  | lookupswitch dflt ps =>
    simp only [aex] at h
    split at h
    next _ x rest =>
      split at h
      next hz =>
        obtain ⟨t, ht, rfl⟩ := ajm_of h
        exact lv_lookup hx hb hdg hz rfl ht (hN _ _ _ _ rfl H locs la hP hS hL)
      next => cases h
    next => cases h
  | tableswitch dflt lo hi offs =>
    simp only [aex] at h
    split at h
    next _ x rest =>
      split at h
      next hz =>
        obtain ⟨t, ht, rfl⟩ := ajm_of h
        exact lv_tableOut hx hb hdg hz ht (hN _ _ _ _ rfl H locs la hP hS hL)
      next hz =>
        split at h
        next off ho =>
          obtain ⟨t, ht, rfl⟩ := ajm_of h
          exact lv_tableIn hx hb hdg (fun q => hz (Or.inl q)) (fun q => hz (Or.inr q)) ho ht (hN _ _ _ _ rfl H locs la hP hS hL)
        next => cases h
    next => cases h
  | ldc k =>
    have hl : len = _ := hlen
    simp only [wlen] at hl
    subst hl
    simp only [aex] at h
    split at h
    next v hv => cases h; exact lv_ldc hx hb hown (hts _ (bw (iok _ (lk2_mem hv)) rfl)) hdg (hN _ _ _ _ rfl H locs la hP hS hL)
    next =>
      split at h
      next i hi =>
        cases h
        obtain ⟨x1, x2, x3⟩ := xok _ (lk2_mem hi)
        dsimp only at x1 x2 x3
        have fin := hN _ _ _ _ rfl H locs la hP hS hL
        rw [List.map_cons, tr_ref (show 50 + i < 99 by omega)] at fin
        subst x1
        subst x3
        exact va_ldcS hx hb hown (hKX.2.2.2.1 i x2) hdg fin
      next => cases h
  | ldc_w k =>
    have hl : len = _ := hlen
    simp only [wlen] at hl
    subst hl
    simp only [aex] at h
    split at h
    next v hv => cases h; exact lv_ldcw hx hb hown (hts _ (bw (iok _ (lk2_mem hv)) rfl)) hdg (hN _ _ _ _ rfl H locs la hP hS hL)
    next => cases h
  | ldc2_w k =>
    have hl : len = _ := hlen
    simp only [wlen] at hl
    subst hl
    simp only [aex] at h
    split at h
    next v hv => cases h; exact lv_ldc2 hx hb hown (hts _ (bw (lok _ (lk2_mem hv)) rfl)) hdg (hN _ _ _ _ rfl H locs la hP hS hL)
    next => cases h
  | getstatic k =>
    have hl : len = _ := hlen
    simp only [wlen] at hl
    subst hl
    simp only [aex] at h
    split at h
    next hz =>
      cases h
      obtain ⟨rfl, rfl⟩ := hz
      exact va_gets (ref := RJ0) hx hb hKX.2.2.2.2.1 hS hown (hts _ (bw wfS rfl)) (fun _ h => h) hdg (hN _ _ _ _ rfl H locs la hP hS hL)
    next =>
      split at h
      next hz =>
        cases h
        obtain ⟨rfl, rfl⟩ := hz
        exact va_gets (ref := RJ3) hx hb hKX.2.2.2.2.2.1 hS hown (hts _ (bw wfF rfl)) (fun _ h => h) hdg (hN _ _ _ _ rfl H locs la hP hS hL)
      next => cases h
  | getfield k =>
    have hl : len = _ := hlen
    simp only [wlen] at hl
    subst hl
    simp only [aex] at h
    split at h
    next _ x rest =>
      split at h
      next ci f hf =>
        split at h
        next hz =>
          cases h
          obtain ⟨z1, z2⟩ := hz
          obtain ⟨⟨g1, g2⟩, g3, g4⟩ := fok _ (lk2_mem hf)
          dsimp only at g1 g2 g3 g4
          have he := wd_at (ad := ad) (sp := sp) (cI := cI) (cO := cO) (mem := mem) z2
          rw [sh_o z1 g4] at he
          rw [List.map_cons, tr_ref (n44 z2)]
          exact va_get (ref := cn ci) hx hb hts (inTT g4) hown hKX.1 hP x he (vwCl_at g4) f g3 (hts _ (bw g1 rfl)) (fun y hy => by rw [g2] at hy; exact hy) (v := tr ad sp (fv ci f x mem)) (by rw [List.getElem?_map, List.getElem?_range g3]; rfl) hdg (hN _ _ _ _ rfl H locs la hP hS hL)
        next => cases h
      next =>
        split at h
        next hz =>
          obtain ⟨rfl, z2⟩ := hz
          have hs := ks_of hKX.2.2.1 z2
          rw [List.map_cons, tr_ref (k7_99 z2)]
          split at h
          next hk =>
            cases h
            subst hk
            have fin := hN _ _ _ _ rfl H locs la hP hS hL
            rw [List.map_cons, tr_ref (k7_v z2)] at fin
            exact vk_getf (ref := RJ0) hx hb hs.2 hS hown (hts _ (bw wfV rfl)) (fun _ h => h) hdg fin
          next =>
            split at h
            next hk =>
              cases h
              subst hk
              exact vk_getf (ref := RJ0) hx hb hs.1 hS hown (hts _ (bw wfC rfl)) (fun _ h => h) hdg (hN _ _ _ _ rfl H locs la hP hS hL)
            next => cases h
        next => cases h
    next => cases h
  | putfield k =>
    have hl : len = _ := hlen
    simp only [wlen] at hl
    subst hl
    simp only [aex] at h
    split at h
    next _ v x rest =>
      split at h
      next ci f hf =>
        split at h
        next hz =>
          cases h
          obtain ⟨⟨z1, z2⟩, z3, z4⟩ := hz
          obtain ⟨⟨g1, g2⟩, g3, g4⟩ := fok _ (lk2_mem hf)
          dsimp only at g1 g2 g3 g4
          have he := wd_at (ad := ad) (sp := sp) (cI := cI) (cO := cO) (mem := mem) z2
          rw [sh_o z1 g4] at he
          rw [List.map_cons, List.map_cons, tr_ref (n44 z2)]
          obtain ⟨t1, t2, t3, t4⟩ := tt_int g4 g3 z3 z4
          refine va_put (ref := cn ci) hx hb hts (inTT g4) (tyT ci) (tyT_ok g4) (nmT g4) hown hKX.1 hP hD hS x he (vwCl_at g4) f g3 (hts _ (bw g1 rfl)) (fun y hy => by rw [g2] at hy; exact hy) t1 t2 t3 t4 (by simpa using g3) hdg (fun H1 locs1 q1 q2 q3 => ?_)
          have hset : (wd ad sp cI cO mem).set x (ad x, .inr (ci, ((List.range (nfT ci)).map (fun k => tr ad sp (fv ci k x mem))).set f (.int v))) = wd ad sp cI cO (mset mem x f v) := by
            refine wd_set z2 ?_
            rw [sh_o z1 g4]
            refine congrArg (fun z => (Sum.inr (ci, z) : va_E)) ?_
            refine List.ext_getElem? fun i => ?_
            by_cases hi : i < nfT ci
            · rw [List.getElem?_map, List.getElem?_range hi]
              by_cases hif : i = f
              · subst hif
                rw [List.getElem?_set_self (by simpa using hi)]
                simp only [Option.map_some, fv, z3, mset_eq, upd, if_true]
                rfl
              · rw [List.getElem?_set_ne (fun q => hif q.symm), List.getElem?_map, List.getElem?_range hi]
                simp only [Option.map_some, fv, mset_eq, upd, if_neg hif]
            · rw [List.getElem?_eq_none (by simp; omega), List.getElem?_eq_none (by simp; omega)]
          rw [show tr ad sp (Value.int v) = Value.int v from rfl, hset] at q1
          exact hN _ _ _ _ rfl H1 locs1 la q1 q3 hL
        next => cases h
      next => cases h
    next => cases h
  | iaload =>
    have hl : len = _ := hlen
    simp only [wlen] at hl
    subst hl
    simp only [aex] at h
    split at h
    next _ i x rest =>
      split at h
      next hz =>
        cases h
        obtain ⟨⟨z1, z2⟩, z3⟩ := hz
        have he := wd_at (ad := ad) (sp := sp) (cI := cI) (cO := cO) (mem := mem) z2
        rw [sh_5 z1] at he
        rw [List.map_cons, List.map_cons, tr_ref (n44 z2)]
        exact va_iald hx hb hKX.1 hP x 0 he ty0 z3 hdg (hN _ _ _ _ rfl H locs la hP hS hL)
      next =>
        split at h
        next hz =>
          cases h
          obtain ⟨rfl, z3⟩ := hz
          obtain ⟨w1, w2, w3⟩ := hKX.2.2.2.2.2.2
          rw [List.map_cons, List.map_cons, tr_ref (by omega)]
          exact va_sld hx hb w1 w2 w3 hS z3 hdg (hN _ _ _ _ rfl H locs la hP hS hL)
        next => cases h
    next => cases h
  | iastore =>
    have hl : len = _ := hlen
    simp only [wlen] at hl
    subst hl
    simp only [aex] at h
    split at h
    next _ v i x rest =>
      split at h
      next hz =>
        cases h
        obtain ⟨⟨z1, z2⟩, z3⟩ := hz
        have he := wd_at (ad := ad) (sp := sp) (cI := cI) (cO := cO) (mem := mem) z2
        rw [sh_5 z1] at he
        rw [List.map_cons, List.map_cons, List.map_cons, tr_ref (n44 z2)]
        refine va_iast hx hb hKX.1 hP hD hS x 0 he ty0 z3 hdg (fun H1 locs1 q1 q2 q3 => ?_)
        rw [wd_set z2 (by rw [sh_5 z1, mset_eq])] at q1
        exact hN _ _ _ _ rfl H1 locs1 la q1 q3 hL
      next => cases h
    next => cases h
  | aaload =>
    have hl : len = _ := hlen
    simp only [wlen] at hl
    subst hl
    simp only [aex] at h
    split at h
    next _ i x rest =>
      split at h
      next hz =>
        cases h
        obtain ⟨⟨z1, z2⟩, z3⟩ := hz
        have he := wd_at (ad := ad) (sp := sp) (cI := cI) (cO := cO) (mem := mem) z2
        rw [sh_6 z1] at he
        have hlt : i.toNatClampNeg < 7 := Nat.not_le.mp fun q => z3 (Or.inr q)
        have fin := hN _ _ _ _ rfl H locs la hP hS hL
        rw [List.map_cons, tr_ref (q7 z2 hlt)] at fin
        rw [List.map_cons, List.map_cons, tr_ref (n44 z2)]
        exact va_aldq hx hb hKX.1 hP x 1 he ty1 z3 hdg fin
      next => cases h
    next => cases h
  | baload =>
    have hl : len = _ := hlen
    simp only [wlen] at hl
    subst hl
    simp only [aex] at h
    split at h
    next _ i x rest =>
      split at h
      next hz =>
        cases h
        obtain ⟨z1, z3⟩ := hz
        have hs := kb_of hKX.2.2.1 z1
        rw [List.map_cons, List.map_cons, tr_ref (k8_99 z1)]
        exact va_tb hx hb hs hS z3 rfl hdg (hN _ _ _ _ rfl H locs la hP hS hL)
      next => cases h
    next => cases h
  | arraylength =>
    have hl : len = _ := hlen
    simp only [wlen] at hl
    subst hl
    simp only [aex] at h
    split at h
    next _ x rest =>
      split at h
      next hz =>
        cases h
        obtain ⟨z1, z2⟩ := hz
        have he := wd_at (ad := ad) (sp := sp) (cI := cI) (cO := cO) (mem := mem) z2
        rw [sh_5 z1] at he
        rw [List.map_cons, tr_ref (n44 z2)]
        exact va_alen hx hb hKX.1 hP x 0 he ty0 rfl hdg (hN _ _ _ _ rfl H locs la hP hS hL)
      next =>
        split at h
        next hz =>
          cases h
          obtain ⟨z1, z2⟩ := hz
          have he := wd_at (ad := ad) (sp := sp) (cI := cI) (cO := cO) (mem := mem) z2
          rw [sh_6 z1] at he
          rw [List.map_cons, tr_ref (n44 z2)]
          exact va_alen hx hb hKX.1 hP x 1 he ty1 rfl hdg (hN _ _ _ _ rfl H locs la hP hS hL)
        next =>
          split at h
          next z1 =>
            cases h
            have hs := kb_of hKX.2.2.1 z1
            rw [List.map_cons, tr_ref (k8_99 z1)]
            exact va_tlen hx hb hs hS rfl hdg (hN _ _ _ _ rfl H locs la hP hS hL)
          next =>
            split at h
            next hz =>
              cases h
              subst hz
              obtain ⟨w1, w2, w3⟩ := hKX.2.2.2.2.2.2
              rw [List.map_cons, tr_ref (by omega)]
              exact va_slen hx hb w1 w2 w3 hS hdg (hN _ _ _ _ rfl H locs la hP hS hL)
            next => cases h
    next => cases h
  | invokestatic k =>
    have hl : len = _ := hlen
    simp only [wlen] at hl
    subst hl
    simp only [aex] at h
    split at h
    next nst μ hs =>
      split at h
      next d hd =>
        split at h
        next hst => exact ab_calls hsp hx hb hml hown hts hKX hAD hcs hcall hdg hs hd hst h hP hS hL (fun a b c' d' q => hN a b c' d' q)
        next => cases h
      next => cases h
    next => cases h
  | invokevirtual k =>
    have hl : len = _ := hlen
    simp only [wlen] at hl
    subst hl
    simp only [aex] at h
    split at h
    next nst μ hs =>
      split at h
      next d hd =>
        split at h
        next hst => exact ab_callv hsp hx hb hml hown hts hKX hAD hcs hcall hdg hs hd hst.1 hst.2 h hP hS hL (fun a b c' d' q => hN a b c' d' q)
        next => cases h
      next => cases h
    next => cases h
  | ireturn =>
    simp only [aex] at h
    split at h
    next r hr => cases h; exact hR r hr rfl
    next => cases h
  | lreturn =>
    simp only [aex] at h
    split at h
    next r hr => cases h; exact hR r hr rfl
    next => cases h
  | areturn =>
    simp only [aex] at h
    split at h
    next r hr => cases h; exact hR r hr rfl
    next => cases h
  | return_ =>
    simp only [aex] at h
    split at h
    next r hr => cases h; exact hR r hr rfl
    next => cases h
  | _ =>
    simp only [aex, arets] at h
    cases h
end SND3
end
section
section RUN
variable {p : Program} {l : Launch} {e : Env} {R : Room} {s : State} {m : MethodId} {args : Array Value} {below : List Frame} {meth : Method} {c : Code} {cells slots : Nat} {Q : State → Prop}
variable {D : va_G} {ad : Nat → Nat} {sp : Value} {cI cO : ClassId} {S : Sc} {A : Nat → Prop} {call : Cf} {own : Nat} {cc : ByteArray} {rt : Option FieldType} {nL : Nat}
/-- a whole run of a body: what it answers, the walk comes to -/
theorem ab_sound (hB : BodyOk p l R s m args c cells slots D ad sp cI cO S A call own cc nL) {r : Option Value} {mem' : Mm}
    (hR : ∀ (pc : Nat) (st : List Value) (i : Instr) (H : Heap) (locs : List Loc) (la : Array Slot), decode cc pc = .ok (i, 1) → arets i rt st = some r → va_P D vwCl (wd ad sp cI cO mem') H → va_S A s.heap H locs → W p l e R s m args below meth c H locs cells slots Q (F0 m pc la (st.map (tr ad sp)))) :
    ∀ (n pc : Nat) (ls : Lo) (st : List Value) (mem : Mm), aloop call S own cc rt n (pc, ls, st, mem) = some (r, mem') → Wat p l e R s m args below meth c cells slots Q D ad sp cI cO A nL pc ls st mem := by
  intro n
  induction n with
  | zero => intro pc ls st mem h; cases h
  | succ n ih =>
    intro pc ls st mem h H locs la hP hS hL
    unfold aloop at h
    have hst : ∃ o, astep call S own cc rt (pc, ls, st, mem) = some o := by
      cases hz : astep call S own cc rt (pc, ls, st, mem) with
      | none => rw [hz] at h; cases h
      | some o => exact ⟨o, rfl⟩
    obtain ⟨o, ho⟩ := hst
    rw [ho] at h
    unfold astep at ho
    dsimp only at ho
    split at ho
    next i len hdg =>
      split at ho
      next hlen =>
        refine ab_one hB hdg hlen ho hP hS hL (fun pc' ls' st' m' e1 => ?_) (fun r1 hr1 e1 => ?_)
        · subst e1
          exact ih pc' ls' st' m' h
        · subst e1
          have e2 : (r1, mem) = (r, mem') := by
            have : some (r1, mem) = some (r, mem') := h
            injection this
          injection e2 with e3 e4
          subst e3
          subst e4
          have hl1 : len = 1 := by
            rw [hlen]
            cases i <;> first | rfl | cases hr1
          subst hl1
          exact hR pc st i H locs la hdg hr1 hP hS
      next => cases ho
    next => cases ho
def rmD (d : Nat) : Room := { frames := d, cells := 0, slots := 0, locals := 34 * d }
theorem arets_ret {i : Instr} {st : List Value} {r : Option Value} (h : arets i rt st = some r) :
    (∃ v ty, i = .ireturn ∧ rt = some ty ∧ st = [.int v] ∧ r = some (.int v) ∧ narrow ty (.int v) = .int v ∧ (ty = .int ∨ ty = .boolean ∨ ty = .byte ∨ ty = .char)) ∨ (∃ v, i = .lreturn ∧ rt = some .long ∧ st = [.long v] ∧ r = some (.long v)) ∨ (∃ n o, i = .areturn ∧ rt = some (.object n) ∧ st = [.ref o] ∧ ¬ o = 99 ∧ r = some (.ref o)) ∨ (i = .return_ ∧ rt = none ∧ st = [] ∧ r = none) := by
  unfold arets at h
  split at h
  next =>
    refine Or.inl ?_
    unfold aret at h
    split at h
    next v => cases h; exact ⟨v, _, rfl, rfl, rfl, rfl, rfl, Or.inl rfl⟩
    next v =>
      split at h
      next hv =>
        cases h
        exact ⟨v, _, rfl, rfl, rfl, rfl, by rcases hv with rfl | rfl <;> rfl, Or.inr (Or.inl rfl)⟩
      next => cases h
    next v =>
      split at h
      next hv =>
        cases h
        exact ⟨v, _, rfl, rfl, rfl, rfl, by show Value.int v.toInt8.toInt32 = _; rw [hv], Or.inr (Or.inr (Or.inl rfl))⟩
      next => cases h
    next v =>
      split at h
      next hv =>
        cases h
        exact ⟨v, _, rfl, rfl, rfl, rfl, by show Value.int v.toUInt32.toUInt16.toUInt32.toInt32 = _; rw [hv], Or.inr (Or.inr (Or.inr rfl))⟩
      next => cases h
    next => cases h
  next v => cases h; exact Or.inr (Or.inl ⟨v, rfl, rfl, rfl, rfl⟩)
  next n o =>
    split at h
    next => cases h
    next hz => cases h; exact Or.inr (Or.inr (Or.inl ⟨n, o, rfl, rfl, rfl, hz, rfl⟩))
  next => cases h; exact Or.inr (Or.inr (Or.inr ⟨rfl, rfl, rfl, rfl⟩))
  next => cases h
set_option maxHeartbeats 4000000 in
/-- every call of the small machine is the machine's -/
theorem ab_met (l : Launch) (D : va_G) (ad : Nat → Nat) (sp : Value) (cI cO : ClassId) (S : Sc) (hsp : sp = .null ∨ ∃ a, sp = .ref a) (hinj : ∀ i j, i < 44 → j < 44 → ad i = ad j → i = j) :
    ∀ (d n : Nat) (R : Room), d ≤ R.frames → 34 * d ≤ R.locals → CallOk l R D ad sp cI cO S (arun S d n) := by
  intro d
  induction d with
  | zero => intro n R _ _ μ vs mem r mem' h; cases h
  | succ d ih =>
    intro n R hf hl μ vs mem r mem' h
    unfold arun at h
    by_cases hμ : μ < 3
    · rw [if_pos hμ] at h
      refine Or.inr ⟨hμ, ?_⟩
      split at h
      next r1 hr1 =>
        cases h
        exact ⟨hr1, rfl, by omega, by omega⟩
      next => cases h
    · rw [if_neg hμ] at h
      split at h
      next dd hd =>
        split at h
        next hw =>
          refine Or.inl ⟨by omega, dd, rmD d, hd, ?_, rfl, rfl, by show d + 1 ≤ _; exact hf, by show 34 + 34 * d ≤ _; omega⟩
          obtain ⟨⟨f1, f2⟩, ⟨f3, f4, f5⟩, f6, f7⟩ := mok dd (List.mem_of_getElem? hd)
          have hplain : plainName dd.y.cls = true := by
            rcases f4 with z | z
            · exfalso
              have key : ∀ k, k < 176 → 3 ≤ k → ∀ q, mTL[k]? = some q → ¬ q.own = 19 := by
                have h0 : ∀ q ∈ mTL.drop 3, ¬ q.own = 19 := by decide +kernel
                intro k _ hk q hq
                refine h0 q (List.mem_of_getElem? (i := k - 3) ?_)
                rw [List.getElem?_drop, show 3 + (k - 3) = k by omega]
                exact hq
              have hlt : μ < 176 := (List.getElem?_eq_some_iff.mp hd).1
              exact key μ hlt (by omega) dd hd z
            · exact z
          refine Met.ofW (cc := dd.c) (maxL := dd.ml) (ret := dd.rt) hplain rfl ?_
          intro p e s m args below meth c s₁ B hml hv
          obtain ⟨rfl, hP, hK⟩ := hv
          have hx := B.exec
          have hb := B.bytes
          have hr := B.returns
          have hts0 := atoms_spec (ws := wsM dd) B.pre
          have hts : ∀ w ∈ BW, w.before (vs.map (tr ad sp)).toArray s = true := fun w hw => hts0 w (List.mem_cons_of_mem _ hw)
          have hown : s.vm.findClass (cn dd.own) = some m.cls := by rw [← f3]; exact findClass_of_methodNamed B.named
          have hlocks := B.notSynchronized
          have hBO : BodyOk p l (rmD d) s m (vs.map (tr ad sp)).toArray c 0 0 D ad sp cI cO S (AD ad) (arun S d n) dd.own dd.c dd.ml := ⟨⟨hsp, hx, hb, hml⟩, ⟨hown, hts, hK, fun _ h => h⟩, ⟨Nat.zero_le _, Nat.zero_le _⟩, ih n (rmD d) (Nat.le_refl _) (Nat.le_refl _), hinj⟩
          have hle := lv_entry (vs.map (tr ad sp)) (n := dd.ml) (by rw [awd_sl hsp]; exact hw)
          rw [lg_entry_eq]
          generalize (lg_sl (vs.map (tr ad sp)) ++ List.replicate (dd.ml - (lg_sl (vs.map (tr ad sp))).length) Slot.unset).toArray = la at hle ⊢
          have hlh := lh_ent hsp hw hle
          refine ab_sound hBO (r := r) (mem' := mem') (rt := dd.rt) ?_ n 0 _ [] mem h s.heap [] la hP va_S.rf hlh
          intro pc st i H locs la' hdg hre hP' hS'
          have fin : ∀ t : State, t.heap = H → s.WarmedH t.vm → QC D ad sp cI cO r mem' (vs.map (tr ad sp)).toArray s (.returned (r.map (tr ad sp))) t := fun t ht _ => ⟨rfl, by rw [ht]; exact hP', hS'.F ht⟩
          rcases arets_ret hre with ⟨v, ty, rfl, e2, rfl, rfl, e5, e6⟩ | ⟨v, rfl, e2, rfl, rfl⟩ | ⟨nm, o, rfl, e2, rfl, e4, rfl⟩ | ⟨rfl, e2, rfl, rfl⟩
          · rcases e6 with rfl | rfl | rfl | rfl
            · exact W.iret hx hb (hr.trans e2) fin hS'.2.2 hdg
            · exact W.zret hx hb (hr.trans e2) e5 fin hS'.2.2 hdg
            · exact W.zret hx hb (hr.trans e2) e5 fin hS'.2.2 hdg
            · exact W.zret hx hb (hr.trans e2) e5 fin hS'.2.2 hdg
          · exact W.lret hx hb (hr.trans e2) fin hS'.2.2 hdg
          · exact W.aret hx hb (hr.trans e2) (Or.inl ⟨_, rfl⟩) (tr_ref_or hsp o) fin hS'.2.2 hdg
          · exact W.vret hx hb (hr.trans e2) fin hS'.2.2 hdg
        next => cases h
      next => cases h
end RUN
end
section
/-! runs of the small machine that end, told by what they end in -/
def cle (c1 c2 : Cf) : Prop := ∀ μ vs mem r, c1 μ vs mem = some r → c2 μ vs mem = some r
theorem acall_mono {c1 c2 : Cf} (h : cle c1 c2) {d : MD} {μ pc : Nat} {ls : Lo} {st : List Value} {mem : Mm} {o : Rz ⊕ S5} (q : acall c1 d μ pc ls st mem = some o) : acall c2 d μ pc ls st mem = some o := by
  unfold acall at q ⊢
  generalize (if d.st = true then d.na else d.na + 1) = n at q ⊢
  dsimp only at q ⊢
  split at q
  next hn =>
    rw [if_pos hn]
    split at q
    next r m' hc =>
      rw [h _ _ _ _ hc]
      exact q
    next => cases q
  next => cases q
theorem aex_mono {c1 c2 : Cf} (h : cle c1 c2) {S : Sc} {own : Nat} {rt : Option FieldType} {i : Instr} {len pc : Nat} {ls : Lo} {st : List Value} {mem : Mm} {o : Rz ⊕ S5} (q : aex c1 S own rt i len pc ls st mem = some o) : aex c2 S own rt i len pc ls st mem = some o := by
  cases i
  case invokestatic k =>
    simp only [aex] at q ⊢
    split at q
    next nst μ hs =>
      split at q
      next d hd =>
        split at q
        next hst => rw [if_pos hst]; exact acall_mono h q
        next => cases q
      next => cases q
    next => cases q
  case invokevirtual k =>
    simp only [aex] at q ⊢
    split at q
    next nst μ hs =>
      split at q
      next d hd =>
        split at q
        next hst => rw [if_pos hst]; exact acall_mono h q
        next => cases q
      next => cases q
    next => cases q
  all_goals exact q
theorem astep_mono {c1 c2 : Cf} (h : cle c1 c2) {S : Sc} {own : Nat} {cc : ByteArray} {rt : Option FieldType} {s : S5} {o : Rz ⊕ S5} (q : astep c1 S own cc rt s = some o) : astep c2 S own cc rt s = some o := by
  unfold astep at q ⊢
  split at q
  next i len hd =>
    split at q
    next hl => rw [if_pos hl]; exact aex_mono h q
    next => cases q
  next => cases q
theorem aloop_mono {c1 c2 : Cf} (h : cle c1 c2) {S : Sc} {own : Nat} {cc : ByteArray} {rt : Option FieldType} {r : Rz} : ∀ (n k : Nat) (s : S5), aloop c1 S own cc rt n s = some r → aloop c2 S own cc rt (n + k) s = some r := by
  intro n
  induction n with
  | zero => intro k s q; cases q
  | succ n ih =>
    intro k s q
    rw [show n + 1 + k = (n + k) + 1 by omega]
    unfold aloop at q ⊢
    cases hz : astep c1 S own cc rt s with
    | none => rw [hz] at q; cases q
    | some o =>
      rw [hz] at q
      rw [astep_mono h hz]
      cases o with
      | inl r1 => exact q
      | inr s1 => exact ih k s1 q
theorem arun_mono {S : Sc} (d n k : Nat) : cle (arun S d n) (arun S d (n + k)) := by
  induction d with
  | zero => intro μ vs mem r q; cases q
  | succ d ih =>
    intro μ vs mem r q
    unfold arun at q ⊢
    by_cases hμ : μ < 3
    · rw [if_pos hμ] at q ⊢; exact q
    · rw [if_neg hμ] at q ⊢
      split at q
      next D hD =>
        split at q
        next hw => rw [if_pos hw]; exact aloop_mono ih n k _ q
        next => cases q
      next => cases q
theorem cle_refl (c : Cf) : cle c c := fun _ _ _ _ h => h
def lsub (ls ls2 : Lo) : Prop := ls.length = ls2.length ∧ ∀ (k : Nat) (v : Value), ls[k]? = some (some v) → ls2[k]? = some (some v)
theorem lsub_refl (ls : Lo) : lsub ls ls := ⟨rfl, fun _ _ h => h⟩
theorem lsub_get {ls ls2 : Lo} (h : lsub ls ls2) {k : Nat} {v : Value} (hk : aget ls k = some v) : aget ls2 k = some v := by
  have h1 : ls[k]? = some (some v) := by
    unfold aget at hk
    split at hk
    next w hw => cases hk; exact hw
    next => cases hk
  unfold aget
  rw [h.2 k v h1]
theorem aset_get : ∀ (ls : Lo) (i k : Nat) (v w : Value), i < ls.length → ((k = i ∧ w = v) ∨ (k ≠ i ∧ ls[k]? = some (some w) ∧ ¬ (k + 1 = i ∧ w.category = 2) ∧ ¬ (v.category = 2 ∧ k = i + 1))) → (aset ls i v)[k]? = some (some w)
  | [], i, k, v, w, hi, h => by simp at hi
  | a :: t, 0, k, v, w, hi, h => by
    rw [aset_0]
    rcases h with ⟨rfl, rfl⟩ | ⟨h1, h2, h3, h4⟩
    · rfl
    · cases k with
      | zero => exact absurd rfl h1
      | succ k =>
        rw [List.getElem?_cons_succ] at h2 ⊢
        by_cases hc : v.category = 2
        · rw [if_pos hc]
          cases t with
          | nil => simp at h2
          | cons b t =>
            cases k with
            | zero => exact absurd ⟨hc, rfl⟩ h4
            | succ k => simpa using h2
        · rw [if_neg hc]; exact h2
  | a :: t, i + 1, k, v, w, hi, h => by
    rw [aset_s]
    cases k with
    | zero =>
      rw [List.getElem?_cons_zero]
      rcases h with ⟨h1, -⟩ | ⟨h1, h2, h3, h4⟩
      · cases h1
      · have ha : a = some w := by simpa using h2
        subst ha
        rw [if_neg]
        rintro ⟨q1, q2⟩
        have : w.category = 2 := by simpa [is2] using q2
        exact h3 ⟨by omega, this⟩
    | succ k =>
      rw [List.getElem?_cons_succ]
      refine aset_get t i k v w (by simpa using hi) ?_
      rcases h with ⟨h1, h2⟩ | ⟨h1, h2, h3, h4⟩
      · exact Or.inl ⟨by omega, h2⟩
      · exact Or.inr ⟨by omega, by simpa using h2, fun z => h3 ⟨by omega, z.2⟩, fun z => h4 ⟨z.1, by omega⟩⟩
theorem lsub_set {ls ls2 : Lo} (h : lsub ls ls2) {i : Nat} {v : Value} (hi : i < ls.length) : lsub (aset ls i v) (aset ls2 i v) := by
  refine ⟨by rw [aset_len, aset_len]; exact h.1, fun k w hk => ?_⟩
  refine aset_get ls2 i k v w (by rw [← h.1]; exact hi) ?_
  rcases aset_at ls i k v w hk with q | ⟨q1, q2, q3, q4⟩
  · exact Or.inl q
  · exact Or.inr ⟨q1, h.2 k w q2, q3, q4⟩
abbrev Po : Type := Option Value → Mm → Prop
/-- from here the body comes to an end, with Q -/
def Ev (S : Sc) (d own : Nat) (cc : ByteArray) (rt : Option FieldType) (pc : Nat) (ls : Lo) (st : List Value) (mem : Mm) (Q : Po) : Prop := ∀ ls2, lsub ls ls2 → ∃ n r, aloop (arun S d n) S own cc rt n (pc, ls2, st, mem) = some r ∧ Q r.1 r.2
/-- this call comes to an end, with Q -/
def Ca (S : Sc) (d μ : Nat) (vs : List Value) (mem : Mm) (Q : Po) : Prop := ∃ n r, arun S d n μ vs mem = some r ∧ Q r.1 r.2
section EV
variable {S : Sc} {d own : Nat} {cc : ByteArray} {rt : Option FieldType} {pc pc' : Nat} {ls ls' : Lo} {st rest : List Value} {mem mem' : Mm} {Q : Po}
theorem ev_sub {ls0 : Lo} (h : lsub ls0 ls) (k : Ev S d own cc rt pc ls0 st mem Q) : Ev S d own cc rt pc ls st mem Q := fun ls2 h2 => k ls2 ⟨h.1.trans h2.1, fun a b c => h2.2 a b (h.2 a b c)⟩
theorem ev_nx {i : Instr} {len : Nat} {st' : List Value} (hd : decode cc pc = .ok (i, len)) (hl : len = wlen i len) (h : ∀ (call : Cf) (ls2 : Lo), lsub ls ls2 → ∃ ls3, aex call S own rt i len pc ls2 st mem = some (.inr (pc', ls3, st', mem')) ∧ lsub ls' ls3) (k : Ev S d own cc rt pc' ls' st' mem' Q) : Ev S d own cc rt pc ls st mem Q := by
  intro ls2 h2
  obtain ⟨ls3, -, h4⟩ := h (fun _ _ _ => none) ls2 h2
  obtain ⟨ls3, h3, h4⟩ := h (fun _ _ _ => none) ls2 h2
  obtain ⟨n, r, h5, h6⟩ := k ls3 h4
  refine ⟨n + 1, r, ?_, h6⟩
  have h7 : aex (arun S d (n + 1)) S own rt i len pc ls2 st mem = some (.inr (pc', ls3, st', mem')) := aex_mono (fun _ _ _ _ q => by cases q) h3
  have h8 : astep (arun S d (n + 1)) S own cc rt (pc, ls2, st, mem) = some (.inr (pc', ls3, st', mem')) := by
    unfold astep
    dsimp only
    rw [hd]
    dsimp only
    rw [if_pos hl]
    exact h7
  unfold aloop
  rw [h8]
  exact aloop_mono (arun_mono d n 1) n 0 _ h5
theorem ev_rt {i : Instr} {r : Option Value} (hd : decode cc pc = .ok (i, 1)) (hl : 1 = wlen i 1) (h : ∀ (call : Cf) (ls2 : Lo), aex call S own rt i 1 pc ls2 st mem = some (.inl (r, mem))) (k : Q r mem) : Ev S d own cc rt pc ls st mem Q := by
  intro ls2 h2
  refine ⟨1, (r, mem), ?_, k⟩
  have h8 : astep (arun S d 1) S own cc rt (pc, ls2, st, mem) = some (.inl (r, mem)) := by
    unfold astep
    dsimp only
    rw [hd]
    dsimp only
    rw [if_pos hl]
    exact h _ _
  unfold aloop
  rw [h8]
/-- a call: from what the callee comes to -/
theorem ev_inv {i : Instr} {D : MD} {μ : Nat} {vs : List Value} (hd : decode cc pc = .ok (i, 3)) (hl : 3 = wlen i 3) (hi : ∀ (call : Cf) (ls2 : Lo), aex call S own rt i 3 pc ls2 st mem = acall call D μ pc ls2 st mem) (hn : ∃ n, n = (if D.st = true then D.na else D.na + 1) ∧ n ≤ st.length ∧ awd (st.drop n) ≤ 8 ∧ (st.take n).reverse = vs ∧ st.drop n = rest) (hp : pc + 3 = pc')
    (k : Ca S d μ vs mem (fun r m' => Ev S d own cc rt pc' ls (r.toList ++ rest) m' Q)) : Ev S d own cc rt pc ls st mem Q := by
  intro ls2 h2
  subst hp
  obtain ⟨n1, r1, h3, h4⟩ := k
  obtain ⟨n2, r2, h5, h6⟩ := h4 ls2 h2
  obtain ⟨n, hn0, hn1, hn2, hn3, hn4⟩ := hn
  refine ⟨n1 + n2 + 1, r2, ?_, h6⟩
  have h7 : arun S d (n1 + n2 + 1) μ vs mem = some r1 := by
    have := arun_mono (S := S) d n1 (n2 + 1) μ vs mem r1 h3
    rw [show n1 + (n2 + 1) = n1 + n2 + 1 by omega] at this
    exact this
  have h8 : astep (arun S d (n1 + n2 + 1)) S own cc rt (pc, ls2, st, mem) = some (.inr (pc + 3, ls2, r1.1.toList ++ rest, r1.2)) := by
    unfold astep
    dsimp only
    rw [hd]
    dsimp only
    rw [if_pos hl, hi]
    unfold acall
    rw [← hn0]
    dsimp only
    rw [if_pos ⟨hn1, hn2⟩, hn3, h7, hn4]
  unfold aloop
  rw [h8]
  have := aloop_mono (S := S) (own := own) (cc := cc) (rt := rt) (r := r2) (arun_mono (S := S) d n2 (n1 + 1)) n2 n1 _ h5
  rw [show n2 + (n1 + 1) = n1 + n2 + 1 by omega, show n2 + n1 = n1 + n2 by omega] at this
  exact this
theorem ca_in {D : MD} {μ : Nat} {vs : List Value} (hμ : 3 ≤ μ) (hD : mTL[μ]? = some D) (hw : awd vs ≤ D.ml) (k : Ev S d D.own D.c D.rt 0 (aent D.ml vs) [] mem Q) : Ca S (d + 1) μ vs mem Q := by
  obtain ⟨n, r, h1, h2⟩ := k _ (lsub_refl _)
  refine ⟨n, r, ?_, h2⟩
  unfold arun
  rw [if_neg (by omega), hD]
  dsimp only
  rw [if_pos hw]
  exact h1
theorem ca_math {μ : Nat} {vs : List Value} {r : Option Value} (hμ : μ < 3) (h : amath μ vs = some r) (k : Q r mem) : Ca S (d + 1) μ vs mem Q := by
  refine ⟨0, (r, mem), ?_, k⟩
  unfold arun
  rw [if_pos hμ, h]
theorem ca_mono {μ : Nat} {vs : List Value} {Q2 : Po} (h : Ca S d μ vs mem Q) (hq : ∀ r m, Q r m → Q2 r m) : Ca S d μ vs mem Q2 := by
  obtain ⟨n, r, h1, h2⟩ := h
  exact ⟨n, r, h1, hq _ _ h2⟩
theorem ev_topi {x : Int32} (k : ∀ y, y = x → Ev S d own cc rt pc ls (.int y :: rest) mem Q) : Ev S d own cc rt pc ls (.int x :: rest) mem Q := k x rfl
theorem ev_topl {x : Int64} (k : ∀ y, y = x → Ev S d own cc rt pc ls (.long y :: rest) mem Q) : Ev S d own cc rt pc ls (.long x :: rest) mem Q := k x rfl
theorem ev_topm (k : ∀ m, m = mem → Ev S d own cc rt pc ls st m Q) : Ev S d own cc rt pc ls st mem Q := k mem rfl
end EV
end
section
section EVR
variable {S : Sc} {d own : Nat} {cc : ByteArray} {rt : Option FieldType} {pc pc' : Nat} {ls ls' : Lo} {st rest : List Value} {mem mem' : Mm} {Q : Po}
theorem ev_iconst {n : Int} {v : Int32} (hd : decode cc pc = .ok (.iconst n, 1)) (hp : pc + 1 = pc') (hv : Int32.ofInt n = v) (k : Ev S d own cc rt pc' ls (.int v :: st) mem Q) : Ev S d own cc rt pc ls (st) mem Q := by
  subst hp
  exact ev_nx hd rfl (fun call ls2 q => ⟨ls2, by rw [← hv]; rfl, q⟩) k
theorem ev_bipush {n : Int} {v : Int32} (hd : decode cc pc = .ok (.bipush n, 2)) (hp : pc + 2 = pc') (hv : (Int8.ofInt n).toInt32 = v) (k : Ev S d own cc rt pc' ls (.int v :: st) mem Q) : Ev S d own cc rt pc ls (st) mem Q := by
  subst hp
  exact ev_nx hd rfl (fun call ls2 q => ⟨ls2, by rw [← hv]; rfl, q⟩) k
theorem ev_sipush {n : Int} {v : Int32} (hd : decode cc pc = .ok (.sipush n, 3)) (hp : pc + 3 = pc') (hv : (Int16.ofInt n).toInt32 = v) (k : Ev S d own cc rt pc' ls (.int v :: st) mem Q) : Ev S d own cc rt pc ls (st) mem Q := by
  subst hp
  exact ev_nx hd rfl (fun call ls2 q => ⟨ls2, by rw [← hv]; rfl, q⟩) k
theorem ev_lconst {n : Fin 2} {v : Int64} (hd : decode cc pc = .ok (.lconst n, 1)) (hp : pc + 1 = pc') (hv : Int64.ofNat (n : Nat) = v) (k : Ev S d own cc rt pc' ls (.long v :: st) mem Q) : Ev S d own cc rt pc ls (st) mem Q := by
  subst hp
  exact ev_nx hd rfl (fun call ls2 q => ⟨ls2, by rw [← hv]; rfl, q⟩) k
theorem ev_iload_n {i : Fin 4} {x : Int32} (hd : decode cc pc = .ok (.iload_n i, 1)) (hp : pc + 1 = pc') (hx : aget ls (i : Nat) = some (.int x)) (k : Ev S d own cc rt pc' ls (.int x :: st) mem Q) : Ev S d own cc rt pc ls (st) mem Q := by
  subst hp
  exact ev_nx hd rfl (fun call ls2 q => ⟨ls2, by show aload1 ls2 (i : Nat) pc 1 st mem isI = _; unfold aload1; rw [lsub_get q hx]; rfl, q⟩) k
theorem ev_istore_n {i : Fin 4} {x : Int32} (hd : decode cc pc = .ok (.istore_n i, 1)) (hp : pc + 1 = pc') (hi : (i : Nat) + 1 ≤ ls.length) (hl : aset ls (i : Nat) (.int x) = ls') (k : Ev S d own cc rt pc' ls' st mem Q) : Ev S d own cc rt pc ls (.int x :: st) mem Q := by
  subst hp
  subst hl
  refine ev_nx hd rfl (fun call ls2 q => ⟨aset ls2 (i : Nat) (.int x), ?_, lsub_set q (by omega)⟩) k
  show astore1 ls2 (i : Nat) pc 1 (.int x :: st) mem isI = _
  unfold astore1
  have hi2 : (i : Nat) + (Value.int x).category ≤ ls2.length := by rw [← q.1]; exact hi
  exact if_pos ⟨rfl, hi2⟩
theorem ev_iload {i : Nat} {x : Int32} (hd : decode cc pc = .ok (.iload i, 2)) (hp : pc + 2 = pc') (hx : aget ls (i : Nat) = some (.int x)) (k : Ev S d own cc rt pc' ls (.int x :: st) mem Q) : Ev S d own cc rt pc ls (st) mem Q := by
  subst hp
  exact ev_nx hd rfl (fun call ls2 q => ⟨ls2, by show aload1 ls2 (i : Nat) pc 2 st mem isI = _; unfold aload1; rw [lsub_get q hx]; rfl, q⟩) k
theorem ev_istore {i : Nat} {x : Int32} (hd : decode cc pc = .ok (.istore i, 2)) (hp : pc + 2 = pc') (hi : (i : Nat) + 1 ≤ ls.length) (hl : aset ls (i : Nat) (.int x) = ls') (k : Ev S d own cc rt pc' ls' st mem Q) : Ev S d own cc rt pc ls (.int x :: st) mem Q := by
  subst hp
  subst hl
  refine ev_nx hd rfl (fun call ls2 q => ⟨aset ls2 (i : Nat) (.int x), ?_, lsub_set q (by omega)⟩) k
  show astore1 ls2 (i : Nat) pc 2 (.int x :: st) mem isI = _
  unfold astore1
  have hi2 : (i : Nat) + (Value.int x).category ≤ ls2.length := by rw [← q.1]; exact hi
  exact if_pos ⟨rfl, hi2⟩
theorem ev_lload_n {i : Fin 4} {x : Int64} (hd : decode cc pc = .ok (.lload_n i, 1)) (hp : pc + 1 = pc') (hx : aget ls (i : Nat) = some (.long x)) (k : Ev S d own cc rt pc' ls (.long x :: st) mem Q) : Ev S d own cc rt pc ls (st) mem Q := by
  subst hp
  exact ev_nx hd rfl (fun call ls2 q => ⟨ls2, by show aload1 ls2 (i : Nat) pc 1 st mem isL = _; unfold aload1; rw [lsub_get q hx]; rfl, q⟩) k
theorem ev_lstore_n {i : Fin 4} {x : Int64} (hd : decode cc pc = .ok (.lstore_n i, 1)) (hp : pc + 1 = pc') (hi : (i : Nat) + 2 ≤ ls.length) (hl : aset ls (i : Nat) (.long x) = ls') (k : Ev S d own cc rt pc' ls' st mem Q) : Ev S d own cc rt pc ls (.long x :: st) mem Q := by
  subst hp
  subst hl
  refine ev_nx hd rfl (fun call ls2 q => ⟨aset ls2 (i : Nat) (.long x), ?_, lsub_set q (by omega)⟩) k
  show astore1 ls2 (i : Nat) pc 1 (.long x :: st) mem isL = _
  unfold astore1
  have hi2 : (i : Nat) + (Value.long x).category ≤ ls2.length := by rw [← q.1]; exact hi
  exact if_pos ⟨rfl, hi2⟩
theorem ev_lload {i : Nat} {x : Int64} (hd : decode cc pc = .ok (.lload i, 2)) (hp : pc + 2 = pc') (hx : aget ls (i : Nat) = some (.long x)) (k : Ev S d own cc rt pc' ls (.long x :: st) mem Q) : Ev S d own cc rt pc ls (st) mem Q := by
  subst hp
  exact ev_nx hd rfl (fun call ls2 q => ⟨ls2, by show aload1 ls2 (i : Nat) pc 2 st mem isL = _; unfold aload1; rw [lsub_get q hx]; rfl, q⟩) k
theorem ev_lstore {i : Nat} {x : Int64} (hd : decode cc pc = .ok (.lstore i, 2)) (hp : pc + 2 = pc') (hi : (i : Nat) + 2 ≤ ls.length) (hl : aset ls (i : Nat) (.long x) = ls') (k : Ev S d own cc rt pc' ls' st mem Q) : Ev S d own cc rt pc ls (.long x :: st) mem Q := by
  subst hp
  subst hl
  refine ev_nx hd rfl (fun call ls2 q => ⟨aset ls2 (i : Nat) (.long x), ?_, lsub_set q (by omega)⟩) k
  show astore1 ls2 (i : Nat) pc 2 (.long x :: st) mem isL = _
  unfold astore1
  have hi2 : (i : Nat) + (Value.long x).category ≤ ls2.length := by rw [← q.1]; exact hi
  exact if_pos ⟨rfl, hi2⟩
theorem ev_aload_n {i : Fin 4} {x : Nat} (hd : decode cc pc = .ok (.aload_n i, 1)) (hp : pc + 1 = pc') (hx : aget ls (i : Nat) = some (.ref x)) (k : Ev S d own cc rt pc' ls (.ref x :: st) mem Q) : Ev S d own cc rt pc ls (st) mem Q := by
  subst hp
  exact ev_nx hd rfl (fun call ls2 q => ⟨ls2, by show aload1 ls2 (i : Nat) pc 1 st mem isR = _; unfold aload1; rw [lsub_get q hx]; rfl, q⟩) k
theorem ev_astore_n {i : Fin 4} {x : Nat} (hd : decode cc pc = .ok (.astore_n i, 1)) (hp : pc + 1 = pc') (hi : (i : Nat) + 1 ≤ ls.length) (hl : aset ls (i : Nat) (.ref x) = ls') (k : Ev S d own cc rt pc' ls' st mem Q) : Ev S d own cc rt pc ls (.ref x :: st) mem Q := by
  subst hp
  subst hl
  refine ev_nx hd rfl (fun call ls2 q => ⟨aset ls2 (i : Nat) (.ref x), ?_, lsub_set q (by omega)⟩) k
  show astore1 ls2 (i : Nat) pc 1 (.ref x :: st) mem isR = _
  unfold astore1
  have hi2 : (i : Nat) + (Value.ref x).category ≤ ls2.length := by rw [← q.1]; exact hi
  exact if_pos ⟨rfl, hi2⟩
theorem ev_aload {i : Nat} {x : Nat} (hd : decode cc pc = .ok (.aload i, 2)) (hp : pc + 2 = pc') (hx : aget ls (i : Nat) = some (.ref x)) (k : Ev S d own cc rt pc' ls (.ref x :: st) mem Q) : Ev S d own cc rt pc ls (st) mem Q := by
  subst hp
  exact ev_nx hd rfl (fun call ls2 q => ⟨ls2, by show aload1 ls2 (i : Nat) pc 2 st mem isR = _; unfold aload1; rw [lsub_get q hx]; rfl, q⟩) k
theorem ev_astore {i : Nat} {x : Nat} (hd : decode cc pc = .ok (.astore i, 2)) (hp : pc + 2 = pc') (hi : (i : Nat) + 1 ≤ ls.length) (hl : aset ls (i : Nat) (.ref x) = ls') (k : Ev S d own cc rt pc' ls' st mem Q) : Ev S d own cc rt pc ls (.ref x :: st) mem Q := by
  subst hp
  subst hl
  refine ev_nx hd rfl (fun call ls2 q => ⟨aset ls2 (i : Nat) (.ref x), ?_, lsub_set q (by omega)⟩) k
  show astore1 ls2 (i : Nat) pc 2 (.ref x :: st) mem isR = _
  unfold astore1
  have hi2 : (i : Nat) + (Value.ref x).category ≤ ls2.length := by rw [← q.1]; exact hi
  exact if_pos ⟨rfl, hi2⟩
theorem ev_iinc {i : Nat} {n : Int} {x v : Int32} (hd : decode cc pc = .ok (.iinc i n, 3)) (hp : pc + 3 = pc') (hx : aget ls i = some (.int x)) (hv : x + Int32.ofInt n = v) (hi : i < ls.length) (hl : aset ls i (.int v) = ls') (k : Ev S d own cc rt pc' ls' st mem Q) : Ev S d own cc rt pc ls st mem Q := by
  subst hp
  subst hl
  subst hv
  refine ev_nx hd rfl (fun call ls2 q => ⟨aset ls2 i (.int (x + Int32.ofInt n)), ?_, lsub_set q hi⟩) k
  simp only [aex]
  rw [lsub_get q hx]
theorem ev_iadd {x y : Int32} (hd : decode cc pc = .ok (.iadd, 1)) (hp : pc + 1 = pc')  (k : Ev S d own cc rt pc' ls (.int (x + y) :: rest) mem Q) : Ev S d own cc rt pc ls (.int y :: .int x :: rest) mem Q := by
  subst hp
  exact ev_nx hd rfl (fun call ls2 q => ⟨ls2, rfl, q⟩) k
theorem ev_isub {x y : Int32} (hd : decode cc pc = .ok (.isub, 1)) (hp : pc + 1 = pc')  (k : Ev S d own cc rt pc' ls (.int (x - y) :: rest) mem Q) : Ev S d own cc rt pc ls (.int y :: .int x :: rest) mem Q := by
  subst hp
  exact ev_nx hd rfl (fun call ls2 q => ⟨ls2, rfl, q⟩) k
theorem ev_imul {x y : Int32} (hd : decode cc pc = .ok (.imul, 1)) (hp : pc + 1 = pc')  (k : Ev S d own cc rt pc' ls (.int (x * y) :: rest) mem Q) : Ev S d own cc rt pc ls (.int y :: .int x :: rest) mem Q := by
  subst hp
  exact ev_nx hd rfl (fun call ls2 q => ⟨ls2, rfl, q⟩) k
theorem ev_iand {x y : Int32} (hd : decode cc pc = .ok (.iand, 1)) (hp : pc + 1 = pc')  (k : Ev S d own cc rt pc' ls (.int (x &&& y) :: rest) mem Q) : Ev S d own cc rt pc ls (.int y :: .int x :: rest) mem Q := by
  subst hp
  exact ev_nx hd rfl (fun call ls2 q => ⟨ls2, rfl, q⟩) k
theorem ev_ior {x y : Int32} (hd : decode cc pc = .ok (.ior, 1)) (hp : pc + 1 = pc')  (k : Ev S d own cc rt pc' ls (.int (x ||| y) :: rest) mem Q) : Ev S d own cc rt pc ls (.int y :: .int x :: rest) mem Q := by
  subst hp
  exact ev_nx hd rfl (fun call ls2 q => ⟨ls2, rfl, q⟩) k
theorem ev_ishl {x y : Int32} (hd : decode cc pc = .ok (.ishl, 1)) (hp : pc + 1 = pc')  (k : Ev S d own cc rt pc' ls (.int (x <<< (y &&& 31)) :: rest) mem Q) : Ev S d own cc rt pc ls (.int y :: .int x :: rest) mem Q := by
  subst hp
  exact ev_nx hd rfl (fun call ls2 q => ⟨ls2, rfl, q⟩) k
theorem ev_ishr {x y : Int32} (hd : decode cc pc = .ok (.ishr, 1)) (hp : pc + 1 = pc')  (k : Ev S d own cc rt pc' ls (.int (x >>> (y &&& 31)) :: rest) mem Q) : Ev S d own cc rt pc ls (.int y :: .int x :: rest) mem Q := by
  subst hp
  exact ev_nx hd rfl (fun call ls2 q => ⟨ls2, rfl, q⟩) k
theorem ev_iushr {x y : Int32} (hd : decode cc pc = .ok (.iushr, 1)) (hp : pc + 1 = pc')  (k : Ev S d own cc rt pc' ls (.int (aiush x y) :: rest) mem Q) : Ev S d own cc rt pc ls (.int y :: .int x :: rest) mem Q := by
  subst hp
  exact ev_nx hd rfl (fun call ls2 q => ⟨ls2, rfl, q⟩) k
theorem ev_ladd {x y : Int64} (hd : decode cc pc = .ok (.ladd, 1)) (hp : pc + 1 = pc')  (k : Ev S d own cc rt pc' ls (.long (x + y) :: rest) mem Q) : Ev S d own cc rt pc ls (.long y :: .long x :: rest) mem Q := by
  subst hp
  exact ev_nx hd rfl (fun call ls2 q => ⟨ls2, rfl, q⟩) k
theorem ev_lsub {x y : Int64} (hd : decode cc pc = .ok (.lsub, 1)) (hp : pc + 1 = pc')  (k : Ev S d own cc rt pc' ls (.long (x - y) :: rest) mem Q) : Ev S d own cc rt pc ls (.long y :: .long x :: rest) mem Q := by
  subst hp
  exact ev_nx hd rfl (fun call ls2 q => ⟨ls2, rfl, q⟩) k
theorem ev_lmul {x y : Int64} (hd : decode cc pc = .ok (.lmul, 1)) (hp : pc + 1 = pc')  (k : Ev S d own cc rt pc' ls (.long (x * y) :: rest) mem Q) : Ev S d own cc rt pc ls (.long y :: .long x :: rest) mem Q := by
  subst hp
  exact ev_nx hd rfl (fun call ls2 q => ⟨ls2, rfl, q⟩) k
theorem ev_idiv {x y : Int32} (hd : decode cc pc = .ok (.idiv, 1)) (hp : pc + 1 = pc') (hy : ¬ y = 0) (k : Ev S d own cc rt pc' ls (.int (x / y) :: rest) mem Q) : Ev S d own cc rt pc ls (.int y :: .int x :: rest) mem Q := by
  subst hp
  exact ev_nx hd rfl (fun call ls2 q => ⟨ls2, if_neg hy, q⟩) k
theorem ev_irem {x y : Int32} (hd : decode cc pc = .ok (.irem, 1)) (hp : pc + 1 = pc') (hy : ¬ y = 0) (k : Ev S d own cc rt pc' ls (.int (airem x y) :: rest) mem Q) : Ev S d own cc rt pc ls (.int y :: .int x :: rest) mem Q := by
  subst hp
  exact ev_nx hd rfl (fun call ls2 q => ⟨ls2, if_neg hy, q⟩) k
theorem ev_ldiv {x y : Int64} (hd : decode cc pc = .ok (.ldiv, 1)) (hp : pc + 1 = pc') (hy : ¬ y = 0) (k : Ev S d own cc rt pc' ls (.long (x / y) :: rest) mem Q) : Ev S d own cc rt pc ls (.long y :: .long x :: rest) mem Q := by
  subst hp
  exact ev_nx hd rfl (fun call ls2 q => ⟨ls2, if_neg hy, q⟩) k
theorem ev_lrem {x y : Int64} (hd : decode cc pc = .ok (.lrem, 1)) (hp : pc + 1 = pc') (hy : ¬ y = 0) (k : Ev S d own cc rt pc' ls (.long (airemL x y) :: rest) mem Q) : Ev S d own cc rt pc ls (.long y :: .long x :: rest) mem Q := by
  subst hp
  exact ev_nx hd rfl (fun call ls2 q => ⟨ls2, if_neg hy, q⟩) k
theorem ev_ineg {x : Int32} (hd : decode cc pc = .ok (.ineg, 1)) (hp : pc + 1 = pc')  (k : Ev S d own cc rt pc' ls (.int (-x) :: rest) mem Q) : Ev S d own cc rt pc ls (.int x :: rest) mem Q := by
  subst hp
  exact ev_nx hd rfl (fun call ls2 q => ⟨ls2, rfl, q⟩) k
theorem ev_i2l {x : Int32} (hd : decode cc pc = .ok (.i2l, 1)) (hp : pc + 1 = pc')  (k : Ev S d own cc rt pc' ls (.long x.toInt64 :: rest) mem Q) : Ev S d own cc rt pc ls (.int x :: rest) mem Q := by
  subst hp
  exact ev_nx hd rfl (fun call ls2 q => ⟨ls2, rfl, q⟩) k
theorem ev_i2c {x : Int32} (hd : decode cc pc = .ok (.i2c, 1)) (hp : pc + 1 = pc')  (k : Ev S d own cc rt pc' ls (.int (x.toUInt32 % 65536).toInt32 :: rest) mem Q) : Ev S d own cc rt pc ls (.int x :: rest) mem Q := by
  subst hp
  exact ev_nx hd rfl (fun call ls2 q => ⟨ls2, rfl, q⟩) k
theorem ev_i2b {x : Int32} (hd : decode cc pc = .ok (.i2b, 1)) (hp : pc + 1 = pc')  (k : Ev S d own cc rt pc' ls (.int x.toInt8.toInt32 :: rest) mem Q) : Ev S d own cc rt pc ls (.int x :: rest) mem Q := by
  subst hp
  exact ev_nx hd rfl (fun call ls2 q => ⟨ls2, rfl, q⟩) k
theorem ev_lcmp {x y : Int64} (hd : decode cc pc = .ok (.lcmp, 1)) (hp : pc + 1 = pc')  (k : Ev S d own cc rt pc' ls (.int (lg_cmp x y) :: rest) mem Q) : Ev S d own cc rt pc ls (.long y :: .long x :: rest) mem Q := by
  subst hp
  exact ev_nx hd rfl (fun call ls2 q => ⟨ls2, rfl, q⟩) k
theorem ev_dup {v : Value} (hd : decode cc pc = .ok (.dup, 1)) (hp : pc + 1 = pc') (hv : v.category = 1) (k : Ev S d own cc rt pc' ls (v :: v :: rest) mem Q) : Ev S d own cc rt pc ls (v :: rest) mem Q := by
  subst hp
  exact ev_nx hd rfl (fun call ls2 q => ⟨ls2, if_pos hv, q⟩) k
theorem ev_pop {v : Value} (hd : decode cc pc = .ok (.pop, 1)) (hp : pc + 1 = pc') (hv : v.category = 1) (k : Ev S d own cc rt pc' ls (rest) mem Q) : Ev S d own cc rt pc ls (v :: rest) mem Q := by
  subst hp
  exact ev_nx hd rfl (fun call ls2 q => ⟨ls2, if_pos hv, q⟩) k
theorem ev_dup2 {a b : Value} (hd : decode cc pc = .ok (.dup2, 1)) (hp : pc + 1 = pc') (ha : a.category = 1) (hb : b.category = 1) (k : Ev S d own cc rt pc' ls (a :: b :: a :: b :: rest) mem Q) : Ev S d own cc rt pc ls (a :: b :: rest) mem Q := by
  subst hp
  exact ev_nx hd rfl (fun call ls2 q => ⟨ls2, if_pos ⟨ha, hb⟩, q⟩) k
theorem ev_if_eq {x : Int32} {off : Int} {t : Nat} (hd : decode cc pc = .ok (.ifCond .eq off, 3)) (hp : pc + 3 = pc') (ht : ajmp pc off = some t) (kt : x = 0 → Ev S d own cc rt t ls rest mem Q) (kf : ¬ (x = 0) → Ev S d own cc rt pc' ls rest mem Q) : Ev S d own cc rt pc ls (.int x :: rest) mem Q := by
  subst hp
  by_cases c : x = 0
  · refine ev_nx hd rfl (fun call ls2 q => ⟨ls2, ?_, q⟩) (kt c)
    simp only [aex, ht]
    exact if_pos (by simp only [acnd, decide_eq_true_eq]; exact c)
  · refine ev_nx hd rfl (fun call ls2 q => ⟨ls2, ?_, q⟩) (kf c)
    simp only [aex, ht]
    exact if_neg (by simp only [acnd, decide_eq_true_eq]; exact c)
theorem ev_if_ne {x : Int32} {off : Int} {t : Nat} (hd : decode cc pc = .ok (.ifCond .ne off, 3)) (hp : pc + 3 = pc') (ht : ajmp pc off = some t) (kt : ¬ x = 0 → Ev S d own cc rt t ls rest mem Q) (kf : x = 0 → Ev S d own cc rt pc' ls rest mem Q) : Ev S d own cc rt pc ls (.int x :: rest) mem Q := by
  subst hp
  by_cases c : ¬ x = 0
  · refine ev_nx hd rfl (fun call ls2 q => ⟨ls2, ?_, q⟩) (kt c)
    simp only [aex, ht]
    exact if_pos (by simp only [acnd, decide_eq_true_eq]; exact c)
  · refine ev_nx hd rfl (fun call ls2 q => ⟨ls2, ?_, q⟩) (kf (Decidable.not_not.mp c))
    simp only [aex, ht]
    exact if_neg (by simp only [acnd, decide_eq_true_eq]; exact c)
theorem ev_if_lt {x : Int32} {off : Int} {t : Nat} (hd : decode cc pc = .ok (.ifCond .lt off, 3)) (hp : pc + 3 = pc') (ht : ajmp pc off = some t) (kt : x < 0 → Ev S d own cc rt t ls rest mem Q) (kf : ¬ (x < 0) → Ev S d own cc rt pc' ls rest mem Q) : Ev S d own cc rt pc ls (.int x :: rest) mem Q := by
  subst hp
  by_cases c : x < 0
  · refine ev_nx hd rfl (fun call ls2 q => ⟨ls2, ?_, q⟩) (kt c)
    simp only [aex, ht]
    exact if_pos (by simp only [acnd, decide_eq_true_eq]; exact c)
  · refine ev_nx hd rfl (fun call ls2 q => ⟨ls2, ?_, q⟩) (kf c)
    simp only [aex, ht]
    exact if_neg (by simp only [acnd, decide_eq_true_eq]; exact c)
theorem ev_if_ge {x : Int32} {off : Int} {t : Nat} (hd : decode cc pc = .ok (.ifCond .ge off, 3)) (hp : pc + 3 = pc') (ht : ajmp pc off = some t) (kt : 0 ≤ x → Ev S d own cc rt t ls rest mem Q) (kf : ¬ (0 ≤ x) → Ev S d own cc rt pc' ls rest mem Q) : Ev S d own cc rt pc ls (.int x :: rest) mem Q := by
  subst hp
  by_cases c : 0 ≤ x
  · refine ev_nx hd rfl (fun call ls2 q => ⟨ls2, ?_, q⟩) (kt c)
    simp only [aex, ht]
    exact if_pos (by simp only [acnd, decide_eq_true_eq]; exact c)
  · refine ev_nx hd rfl (fun call ls2 q => ⟨ls2, ?_, q⟩) (kf c)
    simp only [aex, ht]
    exact if_neg (by simp only [acnd, decide_eq_true_eq]; exact c)
theorem ev_if_gt {x : Int32} {off : Int} {t : Nat} (hd : decode cc pc = .ok (.ifCond .gt off, 3)) (hp : pc + 3 = pc') (ht : ajmp pc off = some t) (kt : 0 < x → Ev S d own cc rt t ls rest mem Q) (kf : ¬ (0 < x) → Ev S d own cc rt pc' ls rest mem Q) : Ev S d own cc rt pc ls (.int x :: rest) mem Q := by
  subst hp
  by_cases c : 0 < x
  · refine ev_nx hd rfl (fun call ls2 q => ⟨ls2, ?_, q⟩) (kt c)
    simp only [aex, ht]
    exact if_pos (by simp only [acnd, decide_eq_true_eq]; exact c)
  · refine ev_nx hd rfl (fun call ls2 q => ⟨ls2, ?_, q⟩) (kf c)
    simp only [aex, ht]
    exact if_neg (by simp only [acnd, decide_eq_true_eq]; exact c)
theorem ev_if_le {x : Int32} {off : Int} {t : Nat} (hd : decode cc pc = .ok (.ifCond .le off, 3)) (hp : pc + 3 = pc') (ht : ajmp pc off = some t) (kt : x ≤ 0 → Ev S d own cc rt t ls rest mem Q) (kf : ¬ (x ≤ 0) → Ev S d own cc rt pc' ls rest mem Q) : Ev S d own cc rt pc ls (.int x :: rest) mem Q := by
  subst hp
  by_cases c : x ≤ 0
  · refine ev_nx hd rfl (fun call ls2 q => ⟨ls2, ?_, q⟩) (kt c)
    simp only [aex, ht]
    exact if_pos (by simp only [acnd, decide_eq_true_eq]; exact c)
  · refine ev_nx hd rfl (fun call ls2 q => ⟨ls2, ?_, q⟩) (kf c)
    simp only [aex, ht]
    exact if_neg (by simp only [acnd, decide_eq_true_eq]; exact c)
theorem ev_icmp_eq {x y : Int32} {off : Int} {t : Nat} (hd : decode cc pc = .ok (.if_icmp .eq off, 3)) (hp : pc + 3 = pc') (ht : ajmp pc off = some t) (kt : x = y → Ev S d own cc rt t ls rest mem Q) (kf : ¬ (x = y) → Ev S d own cc rt pc' ls rest mem Q) : Ev S d own cc rt pc ls (.int y :: .int x :: rest) mem Q := by
  subst hp
  by_cases c : x = y
  · refine ev_nx hd rfl (fun call ls2 q => ⟨ls2, ?_, q⟩) (kt c)
    simp only [aex, ht]
    exact if_pos (by simp only [acnd, decide_eq_true_eq]; exact c)
  · refine ev_nx hd rfl (fun call ls2 q => ⟨ls2, ?_, q⟩) (kf c)
    simp only [aex, ht]
    exact if_neg (by simp only [acnd, decide_eq_true_eq]; exact c)
theorem ev_icmp_ne {x y : Int32} {off : Int} {t : Nat} (hd : decode cc pc = .ok (.if_icmp .ne off, 3)) (hp : pc + 3 = pc') (ht : ajmp pc off = some t) (kt : ¬ x = y → Ev S d own cc rt t ls rest mem Q) (kf : x = y → Ev S d own cc rt pc' ls rest mem Q) : Ev S d own cc rt pc ls (.int y :: .int x :: rest) mem Q := by
  subst hp
  by_cases c : ¬ x = y
  · refine ev_nx hd rfl (fun call ls2 q => ⟨ls2, ?_, q⟩) (kt c)
    simp only [aex, ht]
    exact if_pos (by simp only [acnd, decide_eq_true_eq]; exact c)
  · refine ev_nx hd rfl (fun call ls2 q => ⟨ls2, ?_, q⟩) (kf (Decidable.not_not.mp c))
    simp only [aex, ht]
    exact if_neg (by simp only [acnd, decide_eq_true_eq]; exact c)
theorem ev_icmp_lt {x y : Int32} {off : Int} {t : Nat} (hd : decode cc pc = .ok (.if_icmp .lt off, 3)) (hp : pc + 3 = pc') (ht : ajmp pc off = some t) (kt : x < y → Ev S d own cc rt t ls rest mem Q) (kf : ¬ (x < y) → Ev S d own cc rt pc' ls rest mem Q) : Ev S d own cc rt pc ls (.int y :: .int x :: rest) mem Q := by
  subst hp
  by_cases c : x < y
  · refine ev_nx hd rfl (fun call ls2 q => ⟨ls2, ?_, q⟩) (kt c)
    simp only [aex, ht]
    exact if_pos (by simp only [acnd, decide_eq_true_eq]; exact c)
  · refine ev_nx hd rfl (fun call ls2 q => ⟨ls2, ?_, q⟩) (kf c)
    simp only [aex, ht]
    exact if_neg (by simp only [acnd, decide_eq_true_eq]; exact c)
theorem ev_icmp_ge {x y : Int32} {off : Int} {t : Nat} (hd : decode cc pc = .ok (.if_icmp .ge off, 3)) (hp : pc + 3 = pc') (ht : ajmp pc off = some t) (kt : y ≤ x → Ev S d own cc rt t ls rest mem Q) (kf : ¬ (y ≤ x) → Ev S d own cc rt pc' ls rest mem Q) : Ev S d own cc rt pc ls (.int y :: .int x :: rest) mem Q := by
  subst hp
  by_cases c : y ≤ x
  · refine ev_nx hd rfl (fun call ls2 q => ⟨ls2, ?_, q⟩) (kt c)
    simp only [aex, ht]
    exact if_pos (by simp only [acnd, decide_eq_true_eq]; exact c)
  · refine ev_nx hd rfl (fun call ls2 q => ⟨ls2, ?_, q⟩) (kf c)
    simp only [aex, ht]
    exact if_neg (by simp only [acnd, decide_eq_true_eq]; exact c)
theorem ev_icmp_gt {x y : Int32} {off : Int} {t : Nat} (hd : decode cc pc = .ok (.if_icmp .gt off, 3)) (hp : pc + 3 = pc') (ht : ajmp pc off = some t) (kt : y < x → Ev S d own cc rt t ls rest mem Q) (kf : ¬ (y < x) → Ev S d own cc rt pc' ls rest mem Q) : Ev S d own cc rt pc ls (.int y :: .int x :: rest) mem Q := by
  subst hp
  by_cases c : y < x
  · refine ev_nx hd rfl (fun call ls2 q => ⟨ls2, ?_, q⟩) (kt c)
    simp only [aex, ht]
    exact if_pos (by simp only [acnd, decide_eq_true_eq]; exact c)
  · refine ev_nx hd rfl (fun call ls2 q => ⟨ls2, ?_, q⟩) (kf c)
    simp only [aex, ht]
    exact if_neg (by simp only [acnd, decide_eq_true_eq]; exact c)
theorem ev_icmp_le {x y : Int32} {off : Int} {t : Nat} (hd : decode cc pc = .ok (.if_icmp .le off, 3)) (hp : pc + 3 = pc') (ht : ajmp pc off = some t) (kt : x ≤ y → Ev S d own cc rt t ls rest mem Q) (kf : ¬ (x ≤ y) → Ev S d own cc rt pc' ls rest mem Q) : Ev S d own cc rt pc ls (.int y :: .int x :: rest) mem Q := by
  subst hp
  by_cases c : x ≤ y
  · refine ev_nx hd rfl (fun call ls2 q => ⟨ls2, ?_, q⟩) (kt c)
    simp only [aex, ht]
    exact if_pos (by simp only [acnd, decide_eq_true_eq]; exact c)
  · refine ev_nx hd rfl (fun call ls2 q => ⟨ls2, ?_, q⟩) (kf c)
    simp only [aex, ht]
    exact if_neg (by simp only [acnd, decide_eq_true_eq]; exact c)
theorem ev_goto {off : Int} {t : Nat} (hd : decode cc pc = .ok (.goto off, 3)) (ht : ajmp pc off = some t) (k : Ev S d own cc rt t ls st mem Q) : Ev S d own cc rt pc ls st mem Q := ev_nx hd rfl (fun call ls2 q => ⟨ls2, by simp only [aex, ajm, ht], q⟩) k
theorem ev_ifnonnull {x : Nat} {off : Int} {t : Nat} (hd : decode cc pc = .ok (.ifnonnull off, 3)) (hx : x < 99) (ht : ajmp pc off = some t) (k : Ev S d own cc rt t ls rest mem Q) : Ev S d own cc rt pc ls (.ref x :: rest) mem Q := by
  have h9 : ¬ x = 99 := by omega
  refine ev_nx hd rfl (fun call ls2 q => ⟨ls2, ?_, q⟩) k
  simp only [aex, ajm, ht]
  exact if_neg h9
theorem ev_lookup {x : Int32} {dflt off : Int} {ps : Array (Int × Int)} {len t : Nat} (hd : decode cc pc = .ok (.lookupswitch dflt ps, len)) (hz : (ps.toList.zip (ps.toList.drop 1)).all (fun (a, next) => a.1 < next.1) = true) (ho : Op.lookupswitch.offset ps.toList dflt x.toInt = off) (ht : ajmp pc off = some t) (k : Ev S d own cc rt t ls rest mem Q) : Ev S d own cc rt pc ls (.int x :: rest) mem Q := by
  refine ev_nx hd rfl (fun call ls2 q => ⟨ls2, ?_, q⟩) k
  simp only [aex, ajm, ho, ht]
  exact if_pos hz
theorem ev_tableOut {x : Int32} {dflt lo hi : Int} {offs : Array Int} {len t : Nat} (hd : decode cc pc = .ok (.tableswitch dflt lo hi offs, len)) (h : x.toInt < lo ∨ hi < x.toInt) (ht : ajmp pc dflt = some t) (k : Ev S d own cc rt t ls rest mem Q) : Ev S d own cc rt pc ls (.int x :: rest) mem Q := by
  refine ev_nx hd rfl (fun call ls2 q => ⟨ls2, ?_, q⟩) k
  simp only [aex, ajm, ht]
  exact if_pos h
theorem ev_tableIn {x v : Int32} {dflt lo hi off : Int} {offs : Array Int} {len t : Nat} (hd : decode cc pc = .ok (.tableswitch dflt lo hi offs, len)) (hx : x = v) (h : ¬ (v.toInt < lo ∨ hi < v.toInt)) (ho : offs[(v.toInt - lo).toNat]? = some off) (ht : ajmp pc off = some t) (k : Ev S d own cc rt t ls rest mem Q) : Ev S d own cc rt pc ls (.int x :: rest) mem Q := by
  subst hx
  refine ev_nx hd rfl (fun call ls2 q => ⟨ls2, ?_, q⟩) k
  simp only [aex, ajm]
  rw [if_neg h, ho]
  dsimp only
  rw [ht]
theorem ev_ldc {i : Nat} {v : Int32} (hd : decode cc pc = .ok (.ldc i, 2)) (hp : pc + 2 = pc') (hv : lk2 iTL own i = some v) (k : Ev S d own cc rt pc' ls (.int v :: st) mem Q) : Ev S d own cc rt pc ls (st) mem Q := by
  subst hp
  exact ev_nx hd rfl (fun call ls2 q => ⟨ls2, by simp only [aex, hv], q⟩) k
theorem ev_ldcS {i v : Nat} (hd : decode cc pc = .ok (.ldc i, 2)) (hp : pc + 2 = pc') (hn : lk2 iTL own i = none) (hv : lk2 xTL own i = some v) (k : Ev S d own cc rt pc' ls (.ref (50 + v) :: st) mem Q) : Ev S d own cc rt pc ls (st) mem Q := by
  subst hp
  exact ev_nx hd rfl (fun call ls2 q => ⟨ls2, by simp only [aex, hn, hv], q⟩) k
theorem ev_ldc_w {i : Nat} {v : Int32} (hd : decode cc pc = .ok (.ldc_w i, 3)) (hp : pc + 3 = pc') (hv : lk2 iTL own i = some v) (k : Ev S d own cc rt pc' ls (.int v :: st) mem Q) : Ev S d own cc rt pc ls (st) mem Q := by
  subst hp
  exact ev_nx hd rfl (fun call ls2 q => ⟨ls2, by simp only [aex, hv], q⟩) k
theorem ev_ldc2 {i : Nat} {v : Int64} (hd : decode cc pc = .ok (.ldc2_w i, 3)) (hp : pc + 3 = pc') (hv : lk2 lTL own i = some v) (k : Ev S d own cc rt pc' ls (.long v :: st) mem Q) : Ev S d own cc rt pc ls (st) mem Q := by
  subst hp
  exact ev_nx hd rfl (fun call ls2 q => ⟨ls2, by simp only [aex, hv], q⟩) k
theorem ev_getsC  (hd : decode cc pc = .ok (.getstatic 38, 3)) (hp : pc + 3 = pc') (ho : own = 10) (k : Ev S d own cc rt pc' ls (.int 1 :: st) mem Q) : Ev S d own cc rt pc ls (st) mem Q := by
  subst hp
  exact ev_nx hd rfl (fun call ls2 q => ⟨ls2, by subst ho; rfl, q⟩) k
theorem ev_getsF  (hd : decode cc pc = .ok (.getstatic 1053, 3)) (hp : pc + 3 = pc') (ho : own = 10) (k : Ev S d own cc rt pc' ls (.ref 99 :: st) mem Q) : Ev S d own cc rt pc ls (st) mem Q := by
  subst hp
  exact ev_nx hd rfl (fun call ls2 q => ⟨ls2, by subst ho; rfl, q⟩) k
theorem ev_get {i x ci f : Nat} (hd : decode cc pc = .ok (.getfield i, 3)) (hp : pc + 3 = pc') (hf : lk2 fTL own i = some (ci, f)) (hk : kdp x ci) (hr : rfT ci f x = none) (k : Ev S d own cc rt pc' ls (.int (mem x f) :: rest) mem Q) : Ev S d own cc rt pc ls (.ref x :: rest) mem Q := by
  subst hp
  exact ev_nx hd rfl (fun call ls2 q => ⟨ls2, by simp only [aex, hf]; rw [if_pos hk]; simp only [fv, hr], q⟩) k
theorem ev_getR {i x y ci f : Nat} (hd : decode cc pc = .ok (.getfield i, 3)) (hp : pc + 3 = pc') (hf : lk2 fTL own i = some (ci, f)) (hk : kdp x ci) (hr : rfT ci f x = some y) (k : Ev S d own cc rt pc' ls (.ref y :: rest) mem Q) : Ev S d own cc rt pc ls (.ref x :: rest) mem Q := by
  subst hp
  exact ev_nx hd rfl (fun call ls2 q => ⟨ls2, by simp only [aex, hf]; rw [if_pos hk]; simp only [fv, hr], q⟩) k
theorem ev_getV {x : Nat} (hd : decode cc pc = .ok (.getfield 9, 3)) (hp : pc + 3 = pc') (ho : own = 10) (hk : kd x = 7) (k : Ev S d own cc rt pc' ls (.ref (x + 10) :: rest) mem Q) : Ev S d own cc rt pc ls (.ref x :: rest) mem Q := by
  subst hp
  exact ev_nx hd rfl (fun call ls2 q => ⟨ls2, by subst ho; simp only [aex, show lk2 fTL 10 9 = none from by decide +kernel]; rw [if_pos ⟨trivial, hk⟩, if_pos trivial], q⟩) k
theorem ev_getC {x : Nat} (hd : decode cc pc = .ok (.getfield 15, 3)) (hp : pc + 3 = pc') (ho : own = 10) (hk : kd x = 7) (k : Ev S d own cc rt pc' ls (.int 0 :: rest) mem Q) : Ev S d own cc rt pc ls (.ref x :: rest) mem Q := by
  subst hp
  exact ev_nx hd rfl (fun call ls2 q => ⟨ls2, by subst ho; simp only [aex, show lk2 fTL 10 15 = none from by decide +kernel]; rw [if_pos ⟨trivial, hk⟩, if_neg (by decide), if_pos trivial], q⟩) k
theorem ev_put {i x ci f : Nat} {v : Int32} (hd : decode cc pc = .ok (.putfield i, 3)) (hp : pc + 3 = pc') (hf : lk2 fTL own i = some (ci, f)) (hk : kdp x ci) (hr : rfT ci f x = none) (hv : pok ci f v) (k : Ev S d own cc rt pc' ls (rest) (mset mem x f v) Q) : Ev S d own cc rt pc ls (.int v :: .ref x :: rest) mem Q := by
  subst hp
  exact ev_nx hd rfl (fun call ls2 q => ⟨ls2, by simp only [aex, hf]; exact if_pos ⟨hk, hr, hv⟩, q⟩) k
theorem ev_iald {x : Nat} {i : Int32} (hd : decode cc pc = .ok (.iaload, 1)) (hp : pc + 1 = pc') (hk : kdp x 5) (hi : vin i (ln x)) (k : Ev S d own cc rt pc' ls (.int (mem x i.toNatClampNeg) :: rest) mem Q) : Ev S d own cc rt pc ls (.int i :: .ref x :: rest) mem Q := by
  subst hp
  exact ev_nx hd rfl (fun call ls2 q => ⟨ls2, if_pos ⟨hk, hi⟩, q⟩) k
theorem ev_sald {i : Int32} (hd : decode cc pc = .ok (.iaload, 1)) (hp : pc + 1 = pc') (hi : vin i S.1) (k : Ev S d own cc rt pc' ls (.int (S.2 i.toNatClampNeg) :: rest) mem Q) : Ev S d own cc rt pc ls (.int i :: .ref 90 :: rest) mem Q := by
  subst hp
  exact ev_nx hd rfl (fun call ls2 q => ⟨ls2, by simp only [aex]; rw [if_neg (by rintro ⟨⟨-, z⟩, -⟩; omega)]; exact if_pos ⟨trivial, hi⟩, q⟩) k
theorem ev_iast {x : Nat} {i v : Int32} (hd : decode cc pc = .ok (.iastore, 1)) (hp : pc + 1 = pc') (hk : kdp x 5) (hi : vin i (ln x)) (k : Ev S d own cc rt pc' ls (rest) (mset mem x i.toNatClampNeg v) Q) : Ev S d own cc rt pc ls (.int v :: .int i :: .ref x :: rest) mem Q := by
  subst hp
  exact ev_nx hd rfl (fun call ls2 q => ⟨ls2, if_pos ⟨hk, hi⟩, q⟩) k
theorem ev_aald {x : Nat} {i : Int32} (hd : decode cc pc = .ok (.aaload, 1)) (hp : pc + 1 = pc') (hk : kdp x 6) (hi : vin i 7) (k : Ev S d own cc rt pc' ls (.ref (x + 1 + i.toNatClampNeg) :: rest) mem Q) : Ev S d own cc rt pc ls (.int i :: .ref x :: rest) mem Q := by
  subst hp
  exact ev_nx hd rfl (fun call ls2 q => ⟨ls2, if_pos ⟨hk, hi⟩, q⟩) k
theorem ev_bald {x : Nat} {i : Int32} (hd : decode cc pc = .ok (.baload, 1)) (hp : pc + 1 = pc') (hk : kd x = 8) (hi : vin i (ablen x)) (k : Ev S d own cc rt pc' ls (.int (abyt x i.toNatClampNeg) :: rest) mem Q) : Ev S d own cc rt pc ls (.int i :: .ref x :: rest) mem Q := by
  subst hp
  exact ev_nx hd rfl (fun call ls2 q => ⟨ls2, if_pos ⟨hk, hi⟩, q⟩) k
theorem ev_alen {x : Nat} {n : Int32} (hd : decode cc pc = .ok (.arraylength, 1)) (hp : pc + 1 = pc') (hk : kdp x 5) (hn : Int32.ofNat (ln x) = n) (k : Ev S d own cc rt pc' ls (.int n :: rest) mem Q) : Ev S d own cc rt pc ls (.ref x :: rest) mem Q := by
  subst hp
  exact ev_nx hd rfl (fun call ls2 q => ⟨ls2, by rw [← hn]; exact if_pos hk, q⟩) k
theorem ev_alenC {x : Nat} (hd : decode cc pc = .ok (.arraylength, 1)) (hp : pc + 1 = pc') (hk : kdp x 6) (k : Ev S d own cc rt pc' ls (.int 7 :: rest) mem Q) : Ev S d own cc rt pc ls (.ref x :: rest) mem Q := by
  subst hp
  exact ev_nx hd rfl (fun call ls2 q => ⟨ls2, by simp only [aex]; rw [if_neg (by rintro ⟨z, -⟩; rw [hk.1] at z; cases z)]; exact if_pos hk, q⟩) k
theorem ev_alenB {x : Nat} (hd : decode cc pc = .ok (.arraylength, 1)) (hp : pc + 1 = pc') (hk : kd x = 8) (k : Ev S d own cc rt pc' ls (.int (Int32.ofNat (ablen x)) :: rest) mem Q) : Ev S d own cc rt pc ls (.ref x :: rest) mem Q := by
  subst hp
  exact ev_nx hd rfl (fun call ls2 q => ⟨ls2, by simp only [aex]; rw [if_neg (by rintro ⟨z, -⟩; rw [hk] at z; cases z), if_neg (by rintro ⟨z, -⟩; rw [hk] at z; cases z)]; exact if_pos hk, q⟩) k
theorem ev_alenS  (hd : decode cc pc = .ok (.arraylength, 1)) (hp : pc + 1 = pc')  (k : Ev S d own cc rt pc' ls (.int (Int32.ofNat S.1) :: rest) mem Q) : Ev S d own cc rt pc ls (.ref 90 :: rest) mem Q := by
  subst hp
  exact ev_nx hd rfl (fun call ls2 q => ⟨ls2, rfl, q⟩) k
theorem ev_invS {i μ : Nat} {b : Bool} {D : MD} {vs : List Value} (hd : decode cc pc = .ok (.invokestatic i, 3)) (hp : pc + 3 = pc') (hs : lk2 sTL own i = some (b, μ)) (hD : mTL[μ]? = some D) (hst : D.st = true) (hn : ∃ n, n = (if D.st = true then D.na else D.na + 1) ∧ n ≤ st.length ∧ awd (st.drop n) ≤ 8 ∧ (st.take n).reverse = vs ∧ st.drop n = rest) (k : Ca S d μ vs mem (fun r m' => Ev S d own cc rt pc' ls (r.toList ++ rest) m' Q)) : Ev S d own cc rt pc ls st mem Q := ev_inv hd rfl (fun call ls2 => by simp only [aex, hs, hD]; exact if_pos hst) hn hp k
theorem ev_invV {i μ : Nat} {b : Bool} {D : MD} {vs : List Value} (hd : decode cc pc = .ok (.invokevirtual i, 3)) (hp : pc + 3 = pc') (hs : lk2 sTL own i = some (b, μ)) (hD : mTL[μ]? = some D) (hst : D.st = false) (hr : arecv D st = true) (hn : ∃ n, n = (if D.st = true then D.na else D.na + 1) ∧ n ≤ st.length ∧ awd (st.drop n) ≤ 8 ∧ (st.take n).reverse = vs ∧ st.drop n = rest) (k : Ca S d μ vs mem (fun r m' => Ev S d own cc rt pc' ls (r.toList ++ rest) m' Q)) : Ev S d own cc rt pc ls st mem Q := ev_inv hd rfl (fun call ls2 => by simp only [aex, hs, hD]; exact if_pos ⟨hst, hr⟩) hn hp k
theorem arecv_ob {D : MD} {st : List Value} {x ci : Nat} (h1 : st[D.na]? = some (.ref x)) (h2 : D.own = ci) (h5 : ci < 5) (hk : kdp x ci) : arecv D st = true := by
  subst h2
  unfold arecv
  rw [h1]
  dsimp only
  rw [if_pos h5]
  exact decide_eq_true hk
theorem arecv_tx {D : MD} {st : List Value} {x : Nat} (h1 : st[D.na]? = some (.ref x)) (h2 : D.own = 10) (hk : kd x = 7) : arecv D st = true := by
  unfold arecv
  rw [h1]
  dsimp only
  rw [if_neg (by omega)]
  exact decide_eq_true ⟨h2, hk⟩
theorem ev_ireturn {v : Int32} (hd : decode cc pc = .ok (.ireturn, 1)) (hr : aret rt [.int v] = some (some (.int v))) (k : Q (some (.int v)) mem) : Ev S d own cc rt pc ls [.int v] mem Q := ev_rt hd rfl (fun call ls2 => by simp only [aex, arets, hr]) k
theorem aret_i {v : Int32} : aret (some .int) [.int v] = some (some (.int v)) := rfl
theorem aret_z {v : Int32} (h : v = 0 ∨ v = 1) : aret (some .boolean) [.int v] = some (some (.int v)) := if_pos h
theorem aret_b {v : Int32} (h : v.toInt8.toInt32 = v) : aret (some .byte) [.int v] = some (some (.int v)) := if_pos h
theorem aret_c {v : Int32} (h : v.toUInt32.toUInt16.toUInt32.toInt32 = v) : aret (some .char) [.int v] = some (some (.int v)) := if_pos h
theorem ev_lreturn {v : Int64} (hd : decode cc pc = .ok (.lreturn, 1)) (hr : rt = some .long) (k : Q (some (.long v)) mem) : Ev S d own cc rt pc ls [.long v] mem Q := by
  subst hr
  exact ev_rt hd rfl (fun call ls2 => rfl) k
theorem ev_areturn {x : Nat} {n : String} (hd : decode cc pc = .ok (.areturn, 1)) (hr : rt = some (.object n)) (hx : x < 99) (k : Q (some (.ref x)) mem) : Ev S d own cc rt pc ls [.ref x] mem Q := by
  subst hr
  have h9 : ¬ x = 99 := by omega
  exact ev_rt hd rfl (fun call ls2 => by simp only [aex, arets]; rw [if_neg h9]) k
theorem ev_return (hd : decode cc pc = .ok (.return_, 1)) (hr : rt = none) (k : Q none mem) : Ev S d own cc rt pc ls [] mem Q := by
  subst hr
  exact ev_rt hd rfl (fun call ls2 => rfl) k
end EVR
/-- the words of the pure functions: a call that may fail, a guard, a name -/
def ob {α β : Type} (x : Option α) (k : α → Option β) : Option β := match x with
  | some y => k y
  | none => none
theorem ob_of {α β : Type} {x : Option α} {k : α → Option β} {r : β} (h : ob x k = some r) : ∃ y, x = some y ∧ k y = some r := by
  unfold ob at h
  split at h
  next y => exact ⟨y, rfl, h⟩
  next => cases h
def nm {α β : Type} (x : α) (k : α → β) : β := k x
theorem nm_at {α β : Type} {x y : α} {k : α → β} {r : β} (e : y = x) (h : nm x k = r) : k y = r := by subst e; exact h
def gd {β : Type} (c : Prop) [Decidable c] (k : Option β) : Option β := if c then k else none
theorem gd_of {β : Type} {c : Prop} [Decidable c] {k : Option β} {r : β} (h : gd c k = some r) : c ∧ k = some r := by
  unfold gd at h
  split at h
  next hc => exact ⟨hc, h⟩
  next => cases h
theorem it_t {α : Sort _} {c : Prop} [Decidable c] {a b r : α} (hc : c) (h : (if c then a else b) = r) : a = r := (if_pos hc).symm.trans h
theorem it_f {α : Sort _} {c : Prop} [Decidable c] {a b r : α} (hc : ¬ c) (h : (if c then a else b) = r) : b = r := (if_neg hc).symm.trans h
theorem kd_town {o : Nat} (h : kdp o 2) : kdp (o + 1) 6 ∧ kdp (o + 9) 0 ∧ ∀ i, i < 7 → kdp (o + 1 + 1 + i) 0 := by
  have key : ∀ k, k < 44 → kdp k 2 → kdp (k + 1) 6 ∧ kdp (k + 9) 0 ∧ ∀ i, i < 7 → kdp (k + 1 + 1 + i) 0 := by decide +kernel
  exact key o h.2 h
theorem kd_lett {o : Nat} (h : kdp o 1) : kdp (o + 1) 5 ∧ ln (o + 1) = 96 := by
  have key : ∀ k, k < 44 → kdp k 1 → kdp (k + 1) 5 ∧ ln (k + 1) = 96 := by decide +kernel
  exact key o h.2 h
def LF : Nat := 4000
end
