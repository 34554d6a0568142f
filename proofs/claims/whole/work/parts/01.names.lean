-- ===== PART A: goes FIRST, ahead of the names: the tables' words, and 'selects' of the private methods out of them =====
/-- a private method of a class that the tables say can be made, by its rows of tables_1 -/
def lw_okq (q : MethodName × Nat) : Prop := (q.1.cls ≠ "java/lang/invoke/MethodHandle" ∧ q.1.cls ≠ "java/lang/invoke/VarHandle") ∧ Cond.instantiable q.1.cls q.2 ∈ tables_1 ∧ Cond.privateMethod q.1 ∈ tables_1 ∧ Cond.instanceMethod q.1 ∈ tables_1
theorem lw_p0 : lw_okq (⟨"TheAngelsWantMore", "refuse", "(I)I"⟩, 8) := ⟨⟨by decide +kernel, by decide +kernel⟩, List.mem_of_getElem? (i := 14) (by decide +kernel), List.mem_of_getElem? (i := 148) (by decide +kernel), List.mem_of_getElem? (i := 149) (by decide +kernel)⟩
theorem lw_p1 : lw_okq (⟨"TheAngelsWantMore", "readLetters", "()I"⟩, 8) := ⟨⟨by decide +kernel, by decide +kernel⟩, List.mem_of_getElem? (i := 14) (by decide +kernel), List.mem_of_getElem? (i := 156) (by decide +kernel), List.mem_of_getElem? (i := 157) (by decide +kernel)⟩
theorem lw_p2 : lw_okq (⟨"TheAngelsWantMore$Letters", "fits", "(IC)Z"⟩, 2) := ⟨⟨by decide +kernel, by decide +kernel⟩, List.mem_of_getElem? (i := 93) (by decide +kernel), List.mem_of_getElem? (i := 226) (by decide +kernel), List.mem_of_getElem? (i := 227) (by decide +kernel)⟩
theorem lw_p3 : lw_okq (⟨"TheAngelsWantMore", "statementFault", "(I)I"⟩, 8) := ⟨⟨by decide +kernel, by decide +kernel⟩, List.mem_of_getElem? (i := 14) (by decide +kernel), List.mem_of_getElem? (i := 307) (by decide +kernel), List.mem_of_getElem? (i := 308) (by decide +kernel)⟩
theorem lw_p4 : lw_okq (⟨"TheAngelsWantMore", "caskComes", "(I)I"⟩, 8) := ⟨⟨by decide +kernel, by decide +kernel⟩, List.mem_of_getElem? (i := 14) (by decide +kernel), List.mem_of_getElem? (i := 311) (by decide +kernel), List.mem_of_getElem? (i := 312) (by decide +kernel)⟩
theorem lw_p5 : lw_okq (⟨"TheAngelsWantMore", "pourComes", "(I)I"⟩, 8) := ⟨⟨by decide +kernel, by decide +kernel⟩, List.mem_of_getElem? (i := 14) (by decide +kernel), List.mem_of_getElem? (i := 341) (by decide +kernel), List.mem_of_getElem? (i := 342) (by decide +kernel)⟩
theorem lw_p6 : lw_okq (⟨"TheAngelsWantMore", "thinkOn", "(I)V"⟩, 8) := ⟨⟨by decide +kernel, by decide +kernel⟩, List.mem_of_getElem? (i := 14) (by decide +kernel), List.mem_of_getElem? (i := 437) (by decide +kernel), List.mem_of_getElem? (i := 438) (by decide +kernel)⟩
theorem lw_p7 : lw_okq (⟨"TheAngelsWantMore", "caskOrAllFault", "(I)I"⟩, 8) := ⟨⟨by decide +kernel, by decide +kernel⟩, List.mem_of_getElem? (i := 14) (by decide +kernel), List.mem_of_getElem? (i := 462) (by decide +kernel), List.mem_of_getElem? (i := 463) (by decide +kernel)⟩
theorem lw_p8 : lw_okq (⟨"TheAngelsWantMore", "refuseLong", "(I)J"⟩, 8) := ⟨⟨by decide +kernel, by decide +kernel⟩, List.mem_of_getElem? (i := 14) (by decide +kernel), List.mem_of_getElem? (i := 466) (by decide +kernel), List.mem_of_getElem? (i := 467) (by decide +kernel)⟩
theorem lw_p9 : lw_okq (⟨"TheAngelsWantMore", "keepsLess", "(II)Z"⟩, 8) := ⟨⟨by decide +kernel, by decide +kernel⟩, List.mem_of_getElem? (i := 14) (by decide +kernel), List.mem_of_getElem? (i := 546) (by decide +kernel), List.mem_of_getElem? (i := 547) (by decide +kernel)⟩
theorem lw_p10 : lw_okq (⟨"TheAngelsWantMore", "bothKeep", "(III)Z"⟩, 8) := ⟨⟨by decide +kernel, by decide +kernel⟩, List.mem_of_getElem? (i := 14) (by decide +kernel), List.mem_of_getElem? (i := 554) (by decide +kernel), List.mem_of_getElem? (i := 555) (by decide +kernel)⟩
theorem lw_p11 : lw_okq (⟨"TheAngelsWantMore", "thinkTreaty", "(III)V"⟩, 8) := ⟨⟨by decide +kernel, by decide +kernel⟩, List.mem_of_getElem? (i := 14) (by decide +kernel), List.mem_of_getElem? (i := 558) (by decide +kernel), List.mem_of_getElem? (i := 559) (by decide +kernel)⟩
theorem lw_p12 : lw_okq (⟨"TheAngelsWantMore", "kindsByRow", "(I)I"⟩, 8) := ⟨⟨by decide +kernel, by decide +kernel⟩, List.mem_of_getElem? (i := 14) (by decide +kernel), List.mem_of_getElem? (i := 580) (by decide +kernel), List.mem_of_getElem? (i := 581) (by decide +kernel)⟩
theorem lw_p13 : lw_okq (⟨"TheAngelsWantMore", "firstNotSo", "(I)I"⟩, 8) := ⟨⟨by decide +kernel, by decide +kernel⟩, List.mem_of_getElem? (i := 14) (by decide +kernel), List.mem_of_getElem? (i := 584) (by decide +kernel), List.mem_of_getElem? (i := 585) (by decide +kernel)⟩
theorem lw_p14 : lw_okq (⟨"TheAngelsWantMore", "ratesByRow", "(I)I"⟩, 8) := ⟨⟨by decide +kernel, by decide +kernel⟩, List.mem_of_getElem? (i := 14) (by decide +kernel), List.mem_of_getElem? (i := 588) (by decide +kernel), List.mem_of_getElem? (i := 589) (by decide +kernel)⟩
theorem lw_p15 : lw_okq (⟨"TheAngelsWantMore", "amountByLents", "(III)I"⟩, 8) := ⟨⟨by decide +kernel, by decide +kernel⟩, List.mem_of_getElem? (i := 14) (by decide +kernel), List.mem_of_getElem? (i := 603) (by decide +kernel), List.mem_of_getElem? (i := 604) (by decide +kernel)⟩
def lw_privs_1 : List (MethodName × Nat) := [(⟨"TheAngelsWantMore", "refuse", "(I)I"⟩, 8), (⟨"TheAngelsWantMore", "readLetters", "()I"⟩, 8), (⟨"TheAngelsWantMore$Letters", "fits", "(IC)Z"⟩, 2), (⟨"TheAngelsWantMore", "statementFault", "(I)I"⟩, 8), (⟨"TheAngelsWantMore", "caskComes", "(I)I"⟩, 8), (⟨"TheAngelsWantMore", "pourComes", "(I)I"⟩, 8), (⟨"TheAngelsWantMore", "thinkOn", "(I)V"⟩, 8), (⟨"TheAngelsWantMore", "caskOrAllFault", "(I)I"⟩, 8), (⟨"TheAngelsWantMore", "refuseLong", "(I)J"⟩, 8), (⟨"TheAngelsWantMore", "keepsLess", "(II)Z"⟩, 8), (⟨"TheAngelsWantMore", "bothKeep", "(III)Z"⟩, 8), (⟨"TheAngelsWantMore", "thinkTreaty", "(III)V"⟩, 8), (⟨"TheAngelsWantMore", "kindsByRow", "(I)I"⟩, 8), (⟨"TheAngelsWantMore", "firstNotSo", "(I)I"⟩, 8), (⟨"TheAngelsWantMore", "ratesByRow", "(I)I"⟩, 8), (⟨"TheAngelsWantMore", "amountByLents", "(III)I"⟩, 8)]
theorem lw_r1 : ∀ q ∈ lw_privs_1, lw_okq q := List.forall_mem_cons.mpr ⟨lw_p0, List.forall_mem_cons.mpr ⟨lw_p1, List.forall_mem_cons.mpr ⟨lw_p2, List.forall_mem_cons.mpr ⟨lw_p3, List.forall_mem_cons.mpr ⟨lw_p4, List.forall_mem_cons.mpr ⟨lw_p5, List.forall_mem_cons.mpr ⟨lw_p6, List.forall_mem_cons.mpr ⟨lw_p7, List.forall_mem_cons.mpr ⟨lw_p8, List.forall_mem_cons.mpr ⟨lw_p9, List.forall_mem_cons.mpr ⟨lw_p10, List.forall_mem_cons.mpr ⟨lw_p11, List.forall_mem_cons.mpr ⟨lw_p12, List.forall_mem_cons.mpr ⟨lw_p13, List.forall_mem_cons.mpr ⟨lw_p14, List.forall_mem_cons.mpr ⟨lw_p15, fun _ h => absurd h List.not_mem_nil⟩⟩⟩⟩⟩⟩⟩⟩⟩⟩⟩⟩⟩⟩⟩⟩
theorem lw_p16 : lw_okq (⟨"TheAngelsWantMore", "refused", "(I)I"⟩, 8) := ⟨⟨by decide +kernel, by decide +kernel⟩, List.mem_of_getElem? (i := 14) (by decide +kernel), List.mem_of_getElem? (i := 644) (by decide +kernel), List.mem_of_getElem? (i := 645) (by decide +kernel)⟩
theorem lw_p17 : lw_okq (⟨"TheAngelsWantMoreModel", "no", "(I)I"⟩, 15) := ⟨⟨by decide +kernel, by decide +kernel⟩, List.mem_of_getElem? (i := 648) (by decide +kernel), List.mem_of_getElem? (i := 704) (by decide +kernel), List.mem_of_getElem? (i := 705) (by decide +kernel)⟩
theorem lw_p18 : lw_okq (⟨"TheAngelsWantMoreModel", "readsStatement", "()Z"⟩, 15) := ⟨⟨by decide +kernel, by decide +kernel⟩, List.mem_of_getElem? (i := 648) (by decide +kernel), List.mem_of_getElem? (i := 712) (by decide +kernel), List.mem_of_getElem? (i := 713) (by decide +kernel)⟩
theorem lw_p19 : lw_okq (⟨"TheAngelsWantMoreModel", "here", "()I"⟩, 15) := ⟨⟨by decide +kernel, by decide +kernel⟩, List.mem_of_getElem? (i := 648) (by decide +kernel), List.mem_of_getElem? (i := 716) (by decide +kernel), List.mem_of_getElem? (i := 717) (by decide +kernel)⟩
theorem lw_p20 : lw_okq (⟨"TheAngelsWantMoreModel", "readsKind", "()Z"⟩, 15) := ⟨⟨by decide +kernel, by decide +kernel⟩, List.mem_of_getElem? (i := 648) (by decide +kernel), List.mem_of_getElem? (i := 720) (by decide +kernel), List.mem_of_getElem? (i := 721) (by decide +kernel)⟩
theorem lw_p21 : lw_okq (⟨"TheAngelsWantMoreModel", "readsNumber", "(II)Z"⟩, 15) := ⟨⟨by decide +kernel, by decide +kernel⟩, List.mem_of_getElem? (i := 648) (by decide +kernel), List.mem_of_getElem? (i := 727) (by decide +kernel), List.mem_of_getElem? (i := 728) (by decide +kernel)⟩
theorem lw_p22 : lw_okq (⟨"TheAngelsWantMoreModel", "isDone", "(I)Z"⟩, 15) := ⟨⟨by decide +kernel, by decide +kernel⟩, List.mem_of_getElem? (i := 648) (by decide +kernel), List.mem_of_getElem? (i := 737) (by decide +kernel), List.mem_of_getElem? (i := 738) (by decide +kernel)⟩
theorem lw_p23 : lw_okq (⟨"TheAngelsWantMoreModel", "isCask", "(I)Z"⟩, 15) := ⟨⟨by decide +kernel, by decide +kernel⟩, List.mem_of_getElem? (i := 648) (by decide +kernel), List.mem_of_getElem? (i := 744) (by decide +kernel), List.mem_of_getElem? (i := 745) (by decide +kernel)⟩
theorem lw_p24 : lw_okq (⟨"TheAngelsWantMoreModel", "canPour", "(III)Z"⟩, 15) := ⟨⟨by decide +kernel, by decide +kernel⟩, List.mem_of_getElem? (i := 648) (by decide +kernel), List.mem_of_getElem? (i := 748) (by decide +kernel), List.mem_of_getElem? (i := 749) (by decide +kernel)⟩
theorem lw_p25 : lw_okq (⟨"TheAngelsWantMoreModel", "pours", "(III)V"⟩, 15) := ⟨⟨by decide +kernel, by decide +kernel⟩, List.mem_of_getElem? (i := 648) (by decide +kernel), List.mem_of_getElem? (i := 752) (by decide +kernel), List.mem_of_getElem? (i := 753) (by decide +kernel)⟩
theorem lw_p26 : lw_okq (⟨"TheAngelsWantMoreModel", "mixed", "(III)I"⟩, 15) := ⟨⟨by decide +kernel, by decide +kernel⟩, List.mem_of_getElem? (i := 648) (by decide +kernel), List.mem_of_getElem? (i := 756) (by decide +kernel), List.mem_of_getElem? (i := 757) (by decide +kernel)⟩
theorem lw_p27 : lw_okq (⟨"TheAngelsWantMoreModel", "yearsOn", "([II)V"⟩, 15) := ⟨⟨by decide +kernel, by decide +kernel⟩, List.mem_of_getElem? (i := 648) (by decide +kernel), List.mem_of_getElem? (i := 760) (by decide +kernel), List.mem_of_getElem? (i := 761) (by decide +kernel)⟩
theorem lw_p28 : lw_okq (⟨"TheAngelsWantMoreModel", "year", "([I)V"⟩, 15) := ⟨⟨by decide +kernel, by decide +kernel⟩, List.mem_of_getElem? (i := 648) (by decide +kernel), List.mem_of_getElem? (i := 764) (by decide +kernel), List.mem_of_getElem? (i := 765) (by decide +kernel)⟩
theorem lw_p29 : lw_okq (⟨"TheAngelsWantMoreModel", "yearBy", "([IZ)V"⟩, 15) := ⟨⟨by decide +kernel, by decide +kernel⟩, List.mem_of_getElem? (i := 648) (by decide +kernel), List.mem_of_getElem? (i := 768) (by decide +kernel), List.mem_of_getElem? (i := 769) (by decide +kernel)⟩
theorem lw_p30 : lw_okq (⟨"TheAngelsWantMoreModel", "inMind", "(I)V"⟩, 15) := ⟨⟨by decide +kernel, by decide +kernel⟩, List.mem_of_getElem? (i := 648) (by decide +kernel), List.mem_of_getElem? (i := 815) (by decide +kernel), List.mem_of_getElem? (i := 816) (by decide +kernel)⟩
theorem lw_p31 : lw_okq (⟨"TheAngelsWantMoreModel", "noWide", "(I)J"⟩, 15) := ⟨⟨by decide +kernel, by decide +kernel⟩, List.mem_of_getElem? (i := 648) (by decide +kernel), List.mem_of_getElem? (i := 830) (by decide +kernel), List.mem_of_getElem? (i := 831) (by decide +kernel)⟩
def lw_privs_2 : List (MethodName × Nat) := [(⟨"TheAngelsWantMore", "refused", "(I)I"⟩, 8), (⟨"TheAngelsWantMoreModel", "no", "(I)I"⟩, 15), (⟨"TheAngelsWantMoreModel", "readsStatement", "()Z"⟩, 15), (⟨"TheAngelsWantMoreModel", "here", "()I"⟩, 15), (⟨"TheAngelsWantMoreModel", "readsKind", "()Z"⟩, 15), (⟨"TheAngelsWantMoreModel", "readsNumber", "(II)Z"⟩, 15), (⟨"TheAngelsWantMoreModel", "isDone", "(I)Z"⟩, 15), (⟨"TheAngelsWantMoreModel", "isCask", "(I)Z"⟩, 15), (⟨"TheAngelsWantMoreModel", "canPour", "(III)Z"⟩, 15), (⟨"TheAngelsWantMoreModel", "pours", "(III)V"⟩, 15), (⟨"TheAngelsWantMoreModel", "mixed", "(III)I"⟩, 15), (⟨"TheAngelsWantMoreModel", "yearsOn", "([II)V"⟩, 15), (⟨"TheAngelsWantMoreModel", "year", "([I)V"⟩, 15), (⟨"TheAngelsWantMoreModel", "yearBy", "([IZ)V"⟩, 15), (⟨"TheAngelsWantMoreModel", "inMind", "(I)V"⟩, 15), (⟨"TheAngelsWantMoreModel", "noWide", "(I)J"⟩, 15)]
theorem lw_r2 : ∀ q ∈ lw_privs_2, lw_okq q := List.forall_mem_cons.mpr ⟨lw_p16, List.forall_mem_cons.mpr ⟨lw_p17, List.forall_mem_cons.mpr ⟨lw_p18, List.forall_mem_cons.mpr ⟨lw_p19, List.forall_mem_cons.mpr ⟨lw_p20, List.forall_mem_cons.mpr ⟨lw_p21, List.forall_mem_cons.mpr ⟨lw_p22, List.forall_mem_cons.mpr ⟨lw_p23, List.forall_mem_cons.mpr ⟨lw_p24, List.forall_mem_cons.mpr ⟨lw_p25, List.forall_mem_cons.mpr ⟨lw_p26, List.forall_mem_cons.mpr ⟨lw_p27, List.forall_mem_cons.mpr ⟨lw_p28, List.forall_mem_cons.mpr ⟨lw_p29, List.forall_mem_cons.mpr ⟨lw_p30, List.forall_mem_cons.mpr ⟨lw_p31, fun _ h => absurd h List.not_mem_nil⟩⟩⟩⟩⟩⟩⟩⟩⟩⟩⟩⟩⟩⟩⟩⟩
theorem lw_p32 : lw_okq (⟨"TheAngelsWantMoreModel", "byTreaty", "(IIII)I"⟩, 15) := ⟨⟨by decide +kernel, by decide +kernel⟩, List.mem_of_getElem? (i := 648) (by decide +kernel), List.mem_of_getElem? (i := 898) (by decide +kernel), List.mem_of_getElem? (i := 899) (by decide +kernel)⟩
theorem lw_p33 : lw_okq (⟨"TheAngelsWantMoreModel", "firstWrong", "(II)I"⟩, 15) := ⟨⟨by decide +kernel, by decide +kernel⟩, List.mem_of_getElem? (i := 648) (by decide +kernel), List.mem_of_getElem? (i := 919) (by decide +kernel), List.mem_of_getElem? (i := 920) (by decide +kernel)⟩
theorem lw_p34 : lw_okq (⟨"TheAngelsWantMoreModel", "drawn", "(I)I"⟩, 15) := ⟨⟨by decide +kernel, by decide +kernel⟩, List.mem_of_getElem? (i := 648) (by decide +kernel), List.mem_of_getElem? (i := 935) (by decide +kernel), List.mem_of_getElem? (i := 936) (by decide +kernel)⟩
def lw_privs_3 : List (MethodName × Nat) := [(⟨"TheAngelsWantMoreModel", "byTreaty", "(IIII)I"⟩, 15), (⟨"TheAngelsWantMoreModel", "firstWrong", "(II)I"⟩, 15), (⟨"TheAngelsWantMoreModel", "drawn", "(I)I"⟩, 15)]
theorem lw_r3 : ∀ q ∈ lw_privs_3, lw_okq q := List.forall_mem_cons.mpr ⟨lw_p32, List.forall_mem_cons.mpr ⟨lw_p33, List.forall_mem_cons.mpr ⟨lw_p34, fun _ h => absurd h List.not_mem_nil⟩⟩⟩
def lw_privs : List (MethodName × Nat) := lw_privs_1 ++ (lw_privs_2 ++ (lw_privs_3))
def lw_tbl : List Cond := k2_sels lw_privs ++ tables_1
theorem lw_privs_ok : ∀ q ∈ lw_privs, lw_okq q := by
  show ∀ q ∈ lw_privs_1 ++ (lw_privs_2 ++ (lw_privs_3)), lw_okq q
  exact List.forall_mem_append.mpr ⟨lw_r1, List.forall_mem_append.mpr ⟨lw_r2, lw_r3⟩⟩

def RX0 : String := "TheAngelsWantMore$Cask"
def TX0 : u_T := fun k => match k with
  | 0 => ("TheAngelsWantMore$Cask", "kind", "I", false)
  | 1 => ("TheAngelsWantMore$Cask", "size", "I", false)
  | 2 => ("TheAngelsWantMore$Cask", "amount", "I", false)
  | 3 => ("TheAngelsWantMore$Cask", "strength", "I", false)
  | 4 => ("TheAngelsWantMore$Cask", "figure", "I", false)
  | _ => ("TheAngelsWantMore$Cask", "taken", "I", false)
def tyX0 : Nat → FieldType := fun k => match k with
  | 0 => .int
  | 1 => .int
  | 2 => .int
  | 3 => .int
  | 4 => .int
  | _ => .int
theorem nmX0 : ∀ a, a < 6 → ∀ b, b < 6 → a ≠ b → (TX0 a).2.1 ≠ (TX0 b).2.1 := by decide +kernel
theorem tyX0_ok : ∀ k, k < 6 → parseFieldDescriptor (TX0 k).2.2.1 = some (tyX0 k) := by decide +kernel
abbrev cX0_init : ByteArray := prog_2_method_1_code
def yX0_init : MethodName := ⟨RX0, "<init>", "()V"⟩
abbrev cX0_become : ByteArray := prog_2_method_2_code
def yX0_become : MethodName := ⟨RX0, "become", "(LTheAngelsWantMore$Cask;)V"⟩
abbrev cX0_angelsPart : ByteArray := prog_2_method_3_code
def yX0_angelsPart : MethodName := ⟨RX0, "angelsPart", "(II)I"⟩
abbrev cX0_strengthIn : ByteArray := prog_2_method_4_code
def yX0_strengthIn : MethodName := ⟨RX0, "strengthIn", "(I)I"⟩
abbrev cX0_sentBackIn : ByteArray := prog_2_method_5_code
def yX0_sentBackIn : MethodName := ⟨RX0, "sentBackIn", "(I)I"⟩
abbrev cX0_goOn : ByteArray := prog_2_method_6_code
def yX0_goOn : MethodName := ⟨RX0, "goOn", "(II)V"⟩
abbrev cX0_isHalfTheirs : ByteArray := prog_2_method_7_code
def yX0_isHalfTheirs : MethodName := ⟨RX0, "isHalfTheirs", "()Z"⟩
abbrev cX0_worth : ByteArray := prog_2_method_8_code
def yX0_worth : MethodName := ⟨RX0, "worth", "()I"⟩
def RX1 : String := "TheAngelsWantMore$Letters"
def TX1 : u_T := fun k => match k with
  | 0 => ("TheAngelsWantMore$Letters", "signs", "[I", true)
  | _ => ("TheAngelsWantMore$Letters", "length", "I", false)
def tyX1 : Nat → FieldType := fun k => match k with
  | 0 => .array .int
  | _ => .int
theorem nmX1 : ∀ a, a < 2 → ∀ b, b < 2 → a ≠ b → (TX1 a).2.1 ≠ (TX1 b).2.1 := by decide +kernel
theorem tyX1_ok : ∀ k, k < 2 → parseFieldDescriptor (TX1 k).2.2.1 = some (tyX1 k) := by decide +kernel
abbrev cX1_init : ByteArray := prog_3_method_1_code
def yX1_init : MethodName := ⟨RX1, "<init>", "()V"⟩
abbrev cX1_isFull : ByteArray := prog_3_method_2_code
def yX1_isFull : MethodName := ⟨RX1, "isFull", "()Z"⟩
abbrev cX1_add : ByteArray := prog_3_method_3_code
def yX1_add : MethodName := ⟨RX1, "add", "(I)I"⟩
abbrev cX1_forget : ByteArray := prog_3_method_4_code
def yX1_forget : MethodName := ⟨RX1, "forget", "()V"⟩
abbrev cX1_at : ByteArray := prog_3_method_5_code
def yX1_at : MethodName := ⟨RX1, "at", "(I)I"⟩
abbrev cX1_kind : ByteArray := prog_3_method_6_code
def yX1_kind : MethodName := ⟨RX1, "kind", "(I)I"⟩
abbrev cX1_number : ByteArray := prog_3_method_7_code
def yX1_number : MethodName := ⟨RX1, "number", "(II)I"⟩
abbrev cX1_firstWrong : ByteArray := prog_3_method_8_code
def yX1_firstWrong : MethodName := ⟨RX1, "firstWrong", "()I"⟩
abbrev cX1_fits : ByteArray := prog_3_method_9_code
def yX1_fits : MethodName := ⟨RX1, "fits", "(IC)Z"⟩
abbrev cX1_shapeOf : ByteArray := prog_3_method_10_code
def yX1_shapeOf : MethodName := ⟨RX1, "shapeOf", "(I)Ljava/lang/String;"⟩
def RX2 : String := "TheAngelsWantMore$Town"
def TX2 : u_T := fun k => match k with
  | 0 => ("TheAngelsWantMore$Town", "casks", "[LTheAngelsWantMore$Cask;", true)
  | 1 => ("TheAngelsWantMore$Town", "nobody", "LTheAngelsWantMore$Cask;", true)
  | 2 => ("TheAngelsWantMore$Town", "count", "I", false)
  | 3 => ("TheAngelsWantMore$Town", "rate", "I", false)
  | 4 => ("TheAngelsWantMore$Town", "lent", "I", false)
  | 5 => ("TheAngelsWantMore$Town", "excise", "I", false)
  | _ => ("TheAngelsWantMore$Town", "year", "I", false)
def tyX2 : Nat → FieldType := fun k => match k with
  | 0 => .array (.object "TheAngelsWantMore$Cask")
  | 1 => .object "TheAngelsWantMore$Cask"
  | 2 => .int
  | 3 => .int
  | 4 => .int
  | 5 => .int
  | _ => .int
theorem nmX2 : ∀ a, a < 7 → ∀ b, b < 7 → a ≠ b → (TX2 a).2.1 ≠ (TX2 b).2.1 := by decide +kernel
theorem tyX2_ok : ∀ k, k < 7 → parseFieldDescriptor (TX2 k).2.2.1 = some (tyX2 k) := by decide +kernel
abbrev cX2_init : ByteArray := prog_4_method_1_code
def yX2_init : MethodName := ⟨RX2, "<init>", "()V"⟩
abbrev cX2_at : ByteArray := prog_4_method_2_code
def yX2_at : MethodName := ⟨RX2, "at", "(I)LTheAngelsWantMore$Cask;"⟩
abbrev cX2_become : ByteArray := prog_4_method_3_code
def yX2_become : MethodName := ⟨RX2, "become", "(LTheAngelsWantMore$Town;)V"⟩
abbrev cX2_caskFault : ByteArray := prog_4_method_4_code
def yX2_caskFault : MethodName := ⟨RX2, "caskFault", "(I)I"⟩
abbrev cX2_addCask : ByteArray := prog_4_method_5_code
def yX2_addCask : MethodName := ⟨RX2, "addCask", "(IIIII)I"⟩
abbrev cX2_chosen : ByteArray := prog_4_method_6_code
def yX2_chosen : MethodName := ⟨RX2, "chosen", "(I)I"⟩
abbrev cX2_choose : ByteArray := prog_4_method_7_code
def yX2_choose : MethodName := ⟨RX2, "choose", "(II)I"⟩
abbrev cX2_pourFault : ByteArray := prog_4_method_8_code
def yX2_pourFault : MethodName := ⟨RX2, "pourFault", "(III)I"⟩
abbrev cX2_pouredStrength : ByteArray := prog_4_method_9_code
def yX2_pouredStrength : MethodName := ⟨RX2, "pouredStrength", "(III)I"⟩
abbrev cX2_pourOver : ByteArray := prog_4_method_10_code
def yX2_pourOver : MethodName := ⟨RX2, "pourOver", "(III)I"⟩
abbrev cX2_blended : ByteArray := prog_4_method_11_code
def yX2_blended : MethodName := ⟨RX2, "blended", "(II)I"⟩
abbrev cX2_rateBy : ByteArray := prog_4_method_12_code
def yX2_rateBy : MethodName := ⟨RX2, "rateBy", "(Z)I"⟩
abbrev cX2_goOn : ByteArray := prog_4_method_13_code
def yX2_goOn : MethodName := ⟨RX2, "goOn", "(I)V"⟩
abbrev cX2_liveOn : ByteArray := prog_4_method_14_code
def yX2_liveOn : MethodName := ⟨RX2, "liveOn", "(I)I"⟩
abbrev cX2_allAmounts : ByteArray := prog_4_method_15_code
def yX2_allAmounts : MethodName := ⟨RX2, "allAmounts", "()I"⟩
abbrev cX2_allTaken : ByteArray := prog_4_method_16_code
def yX2_allTaken : MethodName := ⟨RX2, "allTaken", "()I"⟩
abbrev cX2_fullest : ByteArray := prog_4_method_17_code
def yX2_fullest : MethodName := ⟨RX2, "fullest", "()I"⟩
abbrev cX2_dutyOf : ByteArray := prog_4_method_18_code
def yX2_dutyOf : MethodName := ⟨RX2, "dutyOf", "(I)I"⟩
abbrev cX2_dutyOfAll : ByteArray := prog_4_method_19_code
def yX2_dutyOfAll : MethodName := ⟨RX2, "dutyOfAll", "()I"⟩
def RX3 : String := "TheAngelsWantMore"
def TX3 : u_T := fun k => match k with
  | 0 => ("TheAngelsWantMore", "now", "LTheAngelsWantMore$Town;", true)
  | 1 => ("TheAngelsWantMore", "mind", "LTheAngelsWantMore$Town;", true)
  | 2 => ("TheAngelsWantMore", "kept", "LTheAngelsWantMore$Town;", true)
  | 3 => ("TheAngelsWantMore", "imaged", "Z", false)
  | 4 => ("TheAngelsWantMore", "letters", "LTheAngelsWantMore$Letters;", true)
  | 5 => ("TheAngelsWantMore", "told", "[I", true)
  | 6 => ("TheAngelsWantMore", "toldCount", "I", false)
  | _ => ("TheAngelsWantMore", "refusals", "[I", true)
def tyX3 : Nat → FieldType := fun k => match k with
  | 0 => .object "TheAngelsWantMore$Town"
  | 1 => .object "TheAngelsWantMore$Town"
  | 2 => .object "TheAngelsWantMore$Town"
  | 3 => .boolean
  | 4 => .object "TheAngelsWantMore$Letters"
  | 5 => .array .int
  | 6 => .int
  | _ => .array .int
theorem nmX3 : ∀ a, a < 8 → ∀ b, b < 8 → a ≠ b → (TX3 a).2.1 ≠ (TX3 b).2.1 := by decide +kernel
theorem tyX3_ok : ∀ k, k < 8 → parseFieldDescriptor (TX3 k).2.2.1 = some (tyX3 k) := by decide +kernel
abbrev cX3_init : ByteArray := prog_1_method_1_code
def yX3_init : MethodName := ⟨RX3, "<init>", "()V"⟩
abbrev cX3_letter : ByteArray := prog_1_method_2_code
def yX3_letter : MethodName := ⟨RX3, "letter", "(I)I"⟩
abbrev cX3_town : ByteArray := prog_1_method_3_code
def yX3_town : MethodName := ⟨RX3, "town", "()I"⟩
abbrev cX3_cask : ByteArray := prog_1_method_4_code
def yX3_cask : MethodName := ⟨RX3, "cask", "(II)I"⟩
abbrev cX3_set : ByteArray := prog_1_method_5_code
def yX3_set : MethodName := ⟨RX3, "set", "(II)I"⟩
abbrev cX3_fill : ByteArray := prog_1_method_6_code
def yX3_fill : MethodName := ⟨RX3, "fill", "(II)I"⟩
abbrev cX3_takes : ByteArray := prog_1_method_7_code
def yX3_takes : MethodName := ⟨RX3, "takes", "(III)I"⟩
abbrev cX3_pour : ByteArray := prog_1_method_8_code
def yX3_pour : MethodName := ⟨RX3, "pour", "(III)I"⟩
abbrev cX3_years : ByteArray := prog_1_method_9_code
def yX3_years : MethodName := ⟨RX3, "years", "(I)I"⟩
abbrev cX3_behind : ByteArray := prog_1_method_10_code
def yX3_behind : MethodName := ⟨RX3, "behind", "(III)I"⟩
abbrev cX3_allBehind : ByteArray := prog_1_method_11_code
def yX3_allBehind : MethodName := ⟨RX3, "allBehind", "(II)I"⟩
abbrev cX3_theirs : ByteArray := prog_1_method_12_code
def yX3_theirs : MethodName := ⟨RX3, "theirs", "(III)J"⟩
abbrev cX3_excise : ByteArray := prog_1_method_13_code
def yX3_excise : MethodName := ⟨RX3, "excise", "(I)I"⟩
abbrev cX3_exciseIn : ByteArray := prog_1_method_14_code
def yX3_exciseIn : MethodName := ⟨RX3, "exciseIn", "(I)I"⟩
abbrev cX3_low : ByteArray := prog_1_method_15_code
def yX3_low : MethodName := ⟨RX3, "low", "(II)I"⟩
abbrev cX3_turns : ByteArray := prog_1_method_16_code
def yX3_turns : MethodName := ⟨RX3, "turns", "()I"⟩
abbrev cX3_hum : ByteArray := prog_1_method_17_code
def yX3_hum : MethodName := ⟨RX3, "hum", "(I)I"⟩
abbrev cX3_pourFor : ByteArray := prog_1_method_18_code
def yX3_pourFor : MethodName := ⟨RX3, "pourFor", "(II)I"⟩
abbrev cX3_blend : ByteArray := prog_1_method_19_code
def yX3_blend : MethodName := ⟨RX3, "blend", "(I)I"⟩
abbrev cX3_spread : ByteArray := prog_1_method_20_code
def yX3_spread : MethodName := ⟨RX3, "spread", "()I"⟩
abbrev cX3_layDown : ByteArray := prog_1_method_21_code
def yX3_layDown : MethodName := ⟨RX3, "layDown", "(I)I"⟩
abbrev cX3_sell : ByteArray := prog_1_method_22_code
def yX3_sell : MethodName := ⟨RX3, "sell", "(I)I"⟩
abbrev cX3_treaty : ByteArray := prog_1_method_23_code
def yX3_treaty : MethodName := ⟨RX3, "treaty", "(I)I"⟩
abbrev cX3_bestSet : ByteArray := prog_1_method_24_code
def yX3_bestSet : MethodName := ⟨RX3, "bestSet", "(II)I"⟩
abbrev cX3_iron : ByteArray := prog_1_method_25_code
def yX3_iron : MethodName := ⟨RX3, "iron", "(I)I"⟩
abbrev cX3_row : ByteArray := prog_1_method_26_code
def yX3_row : MethodName := ⟨RX3, "row", "(I)I"⟩
abbrev cX3_which : ByteArray := prog_1_method_27_code
def yX3_which : MethodName := ⟨RX3, "which", "(II)I"⟩
abbrev cX3_judge : ByteArray := prog_1_method_28_code
def yX3_judge : MethodName := ⟨RX3, "judge", "(I)I"⟩
abbrev cX3_chance : ByteArray := prog_1_method_29_code
def yX3_chance : MethodName := ⟨RX3, "chance", "(IIIII)J"⟩
abbrev cX3_lots : ByteArray := prog_1_method_30_code
def yX3_lots : MethodName := ⟨RX3, "lots", "(III)I"⟩
abbrev cX3_image : ByteArray := prog_1_method_31_code
def yX3_image : MethodName := ⟨RX3, "image", "()I"⟩
abbrev cX3_on : ByteArray := prog_1_method_32_code
def yX3_on : MethodName := ⟨RX3, "on", "()I"⟩
abbrev cX3_count : ByteArray := prog_1_method_33_code
def yX3_count : MethodName := ⟨RX3, "count", "(I)I"⟩
abbrev cX3_refuse : ByteArray := prog_1_method_34_code
def yX3_refuse : MethodName := ⟨RX3, "refuse", "(I)I"⟩
abbrev cX3_refuseLong : ByteArray := prog_1_method_35_code
def yX3_refuseLong : MethodName := ⟨RX3, "refuseLong", "(I)J"⟩
abbrev cX3_refused : ByteArray := prog_1_method_36_code
def yX3_refused : MethodName := ⟨RX3, "refused", "(I)I"⟩
abbrev cX3_firstOf : ByteArray := prog_1_method_37_code
def yX3_firstOf : MethodName := ⟨RX3, "firstOf", "(III)I"⟩
abbrev cX3_rangeFault : ByteArray := prog_1_method_38_code
def yX3_rangeFault : MethodName := ⟨RX3, "rangeFault", "(III)I"⟩
abbrev cX3_whatFault : ByteArray := prog_1_method_39_code
def yX3_whatFault : MethodName := ⟨RX3, "whatFault", "(II)I"⟩
abbrev cX3_yearsFault : ByteArray := prog_1_method_40_code
def yX3_yearsFault : MethodName := ⟨RX3, "yearsFault", "(I)I"⟩
abbrev cX3_caskOrAllFault : ByteArray := prog_1_method_41_code
def yX3_caskOrAllFault : MethodName := ⟨RX3, "caskOrAllFault", "(I)I"⟩
abbrev cX3_chanceFault : ByteArray := prog_1_method_42_code
def yX3_chanceFault : MethodName := ⟨RX3, "chanceFault", "(III)I"⟩
abbrev cX3_leastChoice : ByteArray := prog_1_method_43_code
def yX3_leastChoice : MethodName := ⟨RX3, "leastChoice", "(I)I"⟩
abbrev cX3_mostChoice : ByteArray := prog_1_method_44_code
def yX3_mostChoice : MethodName := ⟨RX3, "mostChoice", "(I)I"⟩
abbrev cX3_readLetters : ByteArray := prog_1_method_45_code
def yX3_readLetters : MethodName := ⟨RX3, "readLetters", "()I"⟩
abbrev cX3_statementFault : ByteArray := prog_1_method_46_code
def yX3_statementFault : MethodName := ⟨RX3, "statementFault", "(I)I"⟩
abbrev cX3_caskComes : ByteArray := prog_1_method_47_code
def yX3_caskComes : MethodName := ⟨RX3, "caskComes", "(I)I"⟩
abbrev cX3_pourComes : ByteArray := prog_1_method_48_code
def yX3_pourComes : MethodName := ⟨RX3, "pourComes", "(I)I"⟩
abbrev cX3_thinkOn : ByteArray := prog_1_method_49_code
def yX3_thinkOn : MethodName := ⟨RX3, "thinkOn", "(I)V"⟩
abbrev cX3_keepsLess : ByteArray := prog_1_method_50_code
def yX3_keepsLess : MethodName := ⟨RX3, "keepsLess", "(II)Z"⟩
abbrev cX3_thinkTreaty : ByteArray := prog_1_method_51_code
def yX3_thinkTreaty : MethodName := ⟨RX3, "thinkTreaty", "(III)V"⟩
abbrev cX3_bothKeep : ByteArray := prog_1_method_52_code
def yX3_bothKeep : MethodName := ⟨RX3, "bothKeep", "(III)Z"⟩
abbrev cX3_firstNotSo : ByteArray := prog_1_method_53_code
def yX3_firstNotSo : MethodName := ⟨RX3, "firstNotSo", "(I)I"⟩
abbrev cX3_kindsByRow : ByteArray := prog_1_method_54_code
def yX3_kindsByRow : MethodName := ⟨RX3, "kindsByRow", "(I)I"⟩
abbrev cX3_ratesByRow : ByteArray := prog_1_method_55_code
def yX3_ratesByRow : MethodName := ⟨RX3, "ratesByRow", "(I)I"⟩
abbrev cX3_amountByLents : ByteArray := prog_1_method_56_code
def yX3_amountByLents : MethodName := ⟨RX3, "amountByLents", "(III)I"⟩
abbrev cX3_nextSeed : ByteArray := prog_1_method_57_code
def yX3_nextSeed : MethodName := ⟨RX3, "nextSeed", "(I)I"⟩
abbrev cX3_drawn : ByteArray := prog_1_method_58_code
def yX3_drawn : MethodName := ⟨RX3, "drawn", "(II)I"⟩
abbrev cX3_power : ByteArray := prog_1_method_59_code
def yX3_power : MethodName := ⟨RX3, "power", "(JI)J"⟩
abbrev cX3_partOf : ByteArray := prog_1_method_60_code
def yX3_partOf : MethodName := ⟨RX3, "partOf", "(JJI)J"⟩
abbrev cX3_commonDivisor : ByteArray := prog_1_method_61_code
def yX3_commonDivisor : MethodName := ⟨RX3, "commonDivisor", "(JJ)J"⟩
def RX4 : String := "TheAngelsWantMoreModel"
def TX4 : u_T := fun k => match k with
  | 0 => ("TheAngelsWantMoreModel", "s", "[I", true)
  | 1 => ("TheAngelsWantMoreModel", "m", "[I", true)
  | 2 => ("TheAngelsWantMoreModel", "image", "[I", true)
  | 3 => ("TheAngelsWantMoreModel", "was", "[I", true)
  | 4 => ("TheAngelsWantMoreModel", "hasImage", "Z", false)
  | 5 => ("TheAngelsWantMoreModel", "letters", "[I", true)
  | 6 => ("TheAngelsWantMoreModel", "row", "[I", true)
  | 7 => ("TheAngelsWantMoreModel", "refused", "[I", true)
  | 8 => ("TheAngelsWantMoreModel", "letterMany", "I", false)
  | 9 => ("TheAngelsWantMoreModel", "rowMany", "I", false)
  | 10 => ("TheAngelsWantMoreModel", "takenThen", "I", false)
  | 11 => ("TheAngelsWantMoreModel", "backThen", "I", false)
  | 12 => ("TheAngelsWantMoreModel", "place", "I", false)
  | 13 => ("TheAngelsWantMoreModel", "numbers", "[I", true)
  | _ => ("TheAngelsWantMoreModel", "seed", "I", false)
def tyX4 : Nat → FieldType := fun k => match k with
  | 0 => .array .int
  | 1 => .array .int
  | 2 => .array .int
  | 3 => .array .int
  | 4 => .boolean
  | 5 => .array .int
  | 6 => .array .int
  | 7 => .array .int
  | 8 => .int
  | 9 => .int
  | 10 => .int
  | 11 => .int
  | 12 => .int
  | 13 => .array .int
  | _ => .int
theorem nmX4 : ∀ a, a < 15 → ∀ b, b < 15 → a ≠ b → (TX4 a).2.1 ≠ (TX4 b).2.1 := by decide +kernel
theorem tyX4_ok : ∀ k, k < 15 → parseFieldDescriptor (TX4 k).2.2.1 = some (tyX4 k) := by decide +kernel
abbrev cX4_init : ByteArray := prog_6_method_1_code
def yX4_init : MethodName := ⟨RX4, "<init>", "()V"⟩
abbrev cX4_isIn : ByteArray := prog_6_method_2_code
def yX4_isIn : MethodName := ⟨RX4, "isIn", "(III)Z"⟩
abbrev cX4_least : ByteArray := prog_6_method_3_code
def yX4_least : MethodName := ⟨RX4, "least", "(II)I"⟩
abbrev cX4_size : ByteArray := prog_6_method_4_code
def yX4_size : MethodName := ⟨RX4, "size", "(I)I"⟩
abbrev cX4_lays : ByteArray := prog_6_method_5_code
def yX4_lays : MethodName := ⟨RX4, "lays", "([I[I)V"⟩
abbrev cX4_no : ByteArray := prog_6_method_6_code
def yX4_no : MethodName := ⟨RX4, "no", "(I)I"⟩
abbrev cX4_noWide : ByteArray := prog_6_method_7_code
def yX4_noWide : MethodName := ⟨RX4, "noWide", "(I)J"⟩
abbrev cX4_isCask : ByteArray := prog_6_method_8_code
def yX4_isCask : MethodName := ⟨RX4, "isCask", "(I)Z"⟩
abbrev cX4_at : ByteArray := prog_6_method_9_code
def yX4_at : MethodName := ⟨RX4, "at", "(II)I"⟩
abbrev cX4_takesOf : ByteArray := prog_6_method_10_code
def yX4_takesOf : MethodName := ⟨RX4, "takesOf", "([IIII)I"⟩
abbrev cX4_strengthOf : ByteArray := prog_6_method_11_code
def yX4_strengthOf : MethodName := ⟨RX4, "strengthOf", "([III)I"⟩
abbrev cX4_backOf : ByteArray := prog_6_method_12_code
def yX4_backOf : MethodName := ⟨RX4, "backOf", "([II)I"⟩
abbrev cX4_yearBy : ByteArray := prog_6_method_13_code
def yX4_yearBy : MethodName := ⟨RX4, "yearBy", "([IZ)V"⟩
abbrev cX4_year : ByteArray := prog_6_method_14_code
def yX4_year : MethodName := ⟨RX4, "year", "([I)V"⟩
abbrev cX4_yearsOn : ByteArray := prog_6_method_15_code
def yX4_yearsOn : MethodName := ⟨RX4, "yearsOn", "([II)V"⟩
abbrev cX4_inMind : ByteArray := prog_6_method_16_code
def yX4_inMind : MethodName := ⟨RX4, "inMind", "(I)V"⟩
abbrev cX4_sumOf : ByteArray := prog_6_method_17_code
def yX4_sumOf : MethodName := ⟨RX4, "sumOf", "([II)I"⟩
abbrev cX4_letter : ByteArray := prog_6_method_18_code
def yX4_letter : MethodName := ⟨RX4, "letter", "(I)I"⟩
abbrev cX4_here : ByteArray := prog_6_method_19_code
def yX4_here : MethodName := ⟨RX4, "here", "()I"⟩
abbrev cX4_readsNumber : ByteArray := prog_6_method_20_code
def yX4_readsNumber : MethodName := ⟨RX4, "readsNumber", "(II)Z"⟩
abbrev cX4_kindOf : ByteArray := prog_6_method_21_code
def yX4_kindOf : MethodName := ⟨RX4, "kindOf", "(I)I"⟩
abbrev cX4_readsKind : ByteArray := prog_6_method_22_code
def yX4_readsKind : MethodName := ⟨RX4, "readsKind", "()Z"⟩
abbrev cX4_readsStatement : ByteArray := prog_6_method_23_code
def yX4_readsStatement : MethodName := ⟨RX4, "readsStatement", "()Z"⟩
abbrev cX4_canPour : ByteArray := prog_6_method_24_code
def yX4_canPour : MethodName := ⟨RX4, "canPour", "(III)Z"⟩
abbrev cX4_mixed : ByteArray := prog_6_method_25_code
def yX4_mixed : MethodName := ⟨RX4, "mixed", "(III)I"⟩
abbrev cX4_pours : ByteArray := prog_6_method_26_code
def yX4_pours : MethodName := ⟨RX4, "pours", "(III)V"⟩
abbrev cX4_isDone : ByteArray := prog_6_method_27_code
def yX4_isDone : MethodName := ⟨RX4, "isDone", "(I)Z"⟩
abbrev cX4_town : ByteArray := prog_6_method_28_code
def yX4_town : MethodName := ⟨RX4, "town", "()I"⟩
abbrev cX4_cask : ByteArray := prog_6_method_29_code
def yX4_cask : MethodName := ⟨RX4, "cask", "(II)I"⟩
abbrev cX4_set : ByteArray := prog_6_method_30_code
def yX4_set : MethodName := ⟨RX4, "set", "(II)I"⟩
abbrev cX4_fill : ByteArray := prog_6_method_31_code
def yX4_fill : MethodName := ⟨RX4, "fill", "(II)I"⟩
abbrev cX4_takes : ByteArray := prog_6_method_32_code
def yX4_takes : MethodName := ⟨RX4, "takes", "(III)I"⟩
abbrev cX4_pour : ByteArray := prog_6_method_33_code
def yX4_pour : MethodName := ⟨RX4, "pour", "(III)I"⟩
abbrev cX4_years : ByteArray := prog_6_method_34_code
def yX4_years : MethodName := ⟨RX4, "years", "(I)I"⟩
abbrev cX4_wrongYears : ByteArray := prog_6_method_35_code
def yX4_wrongYears : MethodName := ⟨RX4, "wrongYears", "(I)I"⟩
abbrev cX4_behind : ByteArray := prog_6_method_36_code
def yX4_behind : MethodName := ⟨RX4, "behind", "(III)I"⟩
abbrev cX4_allBehind : ByteArray := prog_6_method_37_code
def yX4_allBehind : MethodName := ⟨RX4, "allBehind", "(II)I"⟩
abbrev cX4_gcd : ByteArray := prog_6_method_38_code
def yX4_gcd : MethodName := ⟨RX4, "gcd", "(JJ)J"⟩
abbrev cX4_partOf : ByteArray := prog_6_method_39_code
def yX4_partOf : MethodName := ⟨RX4, "partOf", "(JJI)J"⟩
abbrev cX4_theirs : ByteArray := prog_6_method_40_code
def yX4_theirs : MethodName := ⟨RX4, "theirs", "(III)J"⟩
abbrev cX4_exciseOf : ByteArray := prog_6_method_41_code
def yX4_exciseOf : MethodName := ⟨RX4, "exciseOf", "([II)I"⟩
abbrev cX4_exciseAll : ByteArray := prog_6_method_42_code
def yX4_exciseAll : MethodName := ⟨RX4, "exciseAll", "([I)I"⟩
abbrev cX4_excise : ByteArray := prog_6_method_43_code
def yX4_excise : MethodName := ⟨RX4, "excise", "(I)I"⟩
abbrev cX4_exciseIn : ByteArray := prog_6_method_44_code
def yX4_exciseIn : MethodName := ⟨RX4, "exciseIn", "(I)I"⟩
abbrev cX4_low : ByteArray := prog_6_method_45_code
def yX4_low : MethodName := ⟨RX4, "low", "(II)I"⟩
abbrev cX4_turns : ByteArray := prog_6_method_46_code
def yX4_turns : MethodName := ⟨RX4, "turns", "()I"⟩
abbrev cX4_hum : ByteArray := prog_6_method_47_code
def yX4_hum : MethodName := ⟨RX4, "hum", "(I)I"⟩
abbrev cX4_pourFor : ByteArray := prog_6_method_48_code
def yX4_pourFor : MethodName := ⟨RX4, "pourFor", "(II)I"⟩
abbrev cX4_blend : ByteArray := prog_6_method_49_code
def yX4_blend : MethodName := ⟨RX4, "blend", "(I)I"⟩
abbrev cX4_spread : ByteArray := prog_6_method_50_code
def yX4_spread : MethodName := ⟨RX4, "spread", "()I"⟩
abbrev cX4_worthOf : ByteArray := prog_6_method_51_code
def yX4_worthOf : MethodName := ⟨RX4, "worthOf", "([II)I"⟩
abbrev cX4_layDown : ByteArray := prog_6_method_52_code
def yX4_layDown : MethodName := ⟨RX4, "layDown", "(I)I"⟩
abbrev cX4_sell : ByteArray := prog_6_method_53_code
def yX4_sell : MethodName := ⟨RX4, "sell", "(I)I"⟩
abbrev cX4_byTreaty : ByteArray := prog_6_method_54_code
def yX4_byTreaty : MethodName := ⟨RX4, "byTreaty", "(IIII)I"⟩
abbrev cX4_treaty : ByteArray := prog_6_method_55_code
def yX4_treaty : MethodName := ⟨RX4, "treaty", "(I)I"⟩
abbrev cX4_bestSet : ByteArray := prog_6_method_56_code
def yX4_bestSet : MethodName := ⟨RX4, "bestSet", "(II)I"⟩
abbrev cX4_iron : ByteArray := prog_6_method_57_code
def yX4_iron : MethodName := ⟨RX4, "iron", "(I)I"⟩
abbrev cX4_row : ByteArray := prog_6_method_58_code
def yX4_row : MethodName := ⟨RX4, "row", "(I)I"⟩
abbrev cX4_firstWrong : ByteArray := prog_6_method_59_code
def yX4_firstWrong : MethodName := ⟨RX4, "firstWrong", "(II)I"⟩
abbrev cX4_which : ByteArray := prog_6_method_60_code
def yX4_which : MethodName := ⟨RX4, "which", "(II)I"⟩
abbrev cX4_judge : ByteArray := prog_6_method_61_code
def yX4_judge : MethodName := ⟨RX4, "judge", "(I)I"⟩
abbrev cX4_chance : ByteArray := prog_6_method_62_code
def yX4_chance : MethodName := ⟨RX4, "chance", "(IIIII)J"⟩
abbrev cX4_drawn : ByteArray := prog_6_method_63_code
def yX4_drawn : MethodName := ⟨RX4, "drawn", "(I)I"⟩
abbrev cX4_lots : ByteArray := prog_6_method_64_code
def yX4_lots : MethodName := ⟨RX4, "lots", "(III)I"⟩
abbrev cX4_image : ByteArray := prog_6_method_65_code
def yX4_image : MethodName := ⟨RX4, "image", "()I"⟩
abbrev cX4_on : ByteArray := prog_6_method_66_code
def yX4_on : MethodName := ⟨RX4, "on", "()I"⟩
abbrev cX4_count : ByteArray := prog_6_method_67_code
def yX4_count : MethodName := ⟨RX4, "count", "(I)I"⟩
def RJ11 : String := "java/lang/Character"
abbrev cJ11_isValidCodePoint_9a6ad : ByteArray := prog_7_method_11_code
def yJ11_isValidCodePoint_9a6ad : MethodName := ⟨RJ11, "isValidCodePoint", "(I)Z"⟩
abbrev cJ11_highSurrogate_5068e : ByteArray := prog_7_method_28_code
def yJ11_highSurrogate_5068e : MethodName := ⟨RJ11, "highSurrogate", "(I)C"⟩
abbrev cJ11_lowSurrogate_5068e : ByteArray := prog_7_method_29_code
def yJ11_lowSurrogate_5068e : MethodName := ⟨RJ11, "lowSurrogate", "(I)C"⟩
def RJ6 : String := "java/lang/Integer"
abbrev cJ6_bitCount_0f7a4 : ByteArray := prog_8_method_49_code
def yJ6_bitCount_0f7a4 : MethodName := ⟨RJ6, "bitCount", "(I)I"⟩
def RJ9 : String := "java/lang/Math"
abbrev cJ9_abs_0f7a4 : ByteArray := prog_9_method_59_code
def yJ9_abs_0f7a4 : MethodName := ⟨RJ9, "abs", "(I)I"⟩
abbrev cJ9_max_7cf53 : ByteArray := prog_9_method_65_code
def yJ9_max_7cf53 : MethodName := ⟨RJ9, "max", "(II)I"⟩
abbrev cJ9_min_7cf53 : ByteArray := prog_9_method_69_code
def yJ9_min_7cf53 : MethodName := ⟨RJ9, "min", "(II)I"⟩
def RJ0 : String := "java/lang/String"
abbrev cJ0_length_8abf5 : ByteArray := prog_10_method_54_code
def yJ0_length_8abf5 : MethodName := ⟨RJ0, "length", "()I"⟩
abbrev cJ0_charAt_5068e : ByteArray := prog_10_method_56_code
def yJ0_charAt_5068e : MethodName := ⟨RJ0, "charAt", "(I)C"⟩
abbrev cJ0_indexOf_0f7a4 : ByteArray := prog_10_method_79_code
def yJ0_indexOf_0f7a4 : MethodName := ⟨RJ0, "indexOf", "(I)I"⟩
abbrev cJ0_indexOf_7cf53 : ByteArray := prog_10_method_80_code
def yJ0_indexOf_7cf53 : MethodName := ⟨RJ0, "indexOf", "(II)I"⟩
abbrev cJ0_coder_7d493 : ByteArray := prog_10_method_152_code
def yJ0_coder_7d493 : MethodName := ⟨RJ0, "coder", "()B"⟩
abbrev cJ0_isLatin1_aae02 : ByteArray := prog_10_method_154_code
def yJ0_isLatin1_aae02 : MethodName := ⟨RJ0, "isLatin1", "()Z"⟩
abbrev cJ0_checkIndex_df160 : ByteArray := prog_10_method_155_code
def yJ0_checkIndex_df160 : MethodName := ⟨RJ0, "checkIndex", "(II)V"⟩
abbrev cJ0_checkBoundsBeginEnd_23922 : ByteArray := prog_10_method_158_code
def yJ0_checkBoundsBeginEnd_23922 : MethodName := ⟨RJ0, "checkBoundsBeginEnd", "(III)V"⟩
def RJ1 : String := "java/lang/StringLatin1"
abbrev cJ1_charAt_3b067 : ByteArray := prog_11_method_2_code
def yJ1_charAt_3b067 : MethodName := ⟨RJ1, "charAt", "([BI)C"⟩
abbrev cJ1_canEncode_9a6ad : ByteArray := prog_11_method_4_code
def yJ1_canEncode_9a6ad : MethodName := ⟨RJ1, "canEncode", "(I)Z"⟩
abbrev cJ1_indexOf_4cfef : ByteArray := prog_11_method_22_code
def yJ1_indexOf_4cfef : MethodName := ⟨RJ1, "indexOf", "([BIII)I"⟩
abbrev cJ1_indexOfChar_4cfef : ByteArray := prog_11_method_23_code
def yJ1_indexOfChar_4cfef : MethodName := ⟨RJ1, "indexOfChar", "([BIII)I"⟩
def RJ2 : String := "java/lang/StringUTF16"
abbrev cJ2_getChar_3b067 : ByteArray := prog_12_method_5_code
def yJ2_getChar_3b067 : MethodName := ⟨RJ2, "getChar", "([BI)C"⟩
abbrev cJ2_length_9d52b : ByteArray := prog_12_method_6_code
def yJ2_length_9d52b : MethodName := ⟨RJ2, "length", "([B)I"⟩
abbrev cJ2_indexOf_4cfef : ByteArray := prog_12_method_40_code
def yJ2_indexOf_4cfef : MethodName := ⟨RJ2, "indexOf", "([BIII)I"⟩
abbrev cJ2_indexOfChar_4cfef : ByteArray := prog_12_method_47_code
def yJ2_indexOfChar_4cfef : MethodName := ⟨RJ2, "indexOfChar", "([BIII)I"⟩
abbrev cJ2_indexOfCharUnsafe_4cfef : ByteArray := prog_12_method_48_code
def yJ2_indexOfCharUnsafe_4cfef : MethodName := ⟨RJ2, "indexOfCharUnsafe", "([BIII)I"⟩
abbrev cJ2_indexOfSupplementary_4cfef : ByteArray := prog_12_method_49_code
def yJ2_indexOfSupplementary_4cfef : MethodName := ⟨RJ2, "indexOfSupplementary", "([BIII)I"⟩
abbrev cJ2_charAt_3b067 : ByteArray := prog_12_method_83_code
def yJ2_charAt_3b067 : MethodName := ⟨RJ2, "charAt", "([BI)C"⟩
abbrev cJ2_checkIndex_2214a : ByteArray := prog_12_method_91_code
def yJ2_checkIndex_2214a : MethodName := ⟨RJ2, "checkIndex", "(I[B)V"⟩
abbrev cJ2_checkBoundsBeginEnd_d044e : ByteArray := prog_12_method_93_code
def yJ2_checkBoundsBeginEnd_d044e : MethodName := ⟨RJ2, "checkBoundsBeginEnd", "(II[B)V"⟩
def RJ3 : String := "jdk/internal/util/Preconditions"
abbrev cJ3_checkIndex_8e157 : ByteArray := prog_13_method_11_code
def yJ3_checkIndex_8e157 : MethodName := ⟨RJ3, "checkIndex", "(IILjava/util/function/BiFunction;)I"⟩
abbrev cJ3_checkFromToIndex_8c36e : ByteArray := prog_13_method_12_code
def yJ3_checkFromToIndex_8c36e : MethodName := ⟨RJ3, "checkFromToIndex", "(IIILjava/util/function/BiFunction;)I"⟩
def RL : String := "TheAngelsWantMoreLaw"
abbrev cL_law : ByteArray := code
def yL_law : MethodName := ⟨RL, "law", "([I)Z"⟩
abbrev vwCl : List vw_C := [(RX0, TX0, 6), (RX1, TX1, 2), (RX2, TX2, 7), (RX3, TX3, 8), (RX4, TX4, 15)]
theorem ti1 : ∀ w ∈ tables_1_1, w ∈ lw_tbl := fun w h => List.mem_append_right _ (show w ∈ tables_1_1 ++ (tables_1_2 ++ (tables_1_3 ++ tables_1_4)) from List.mem_append_left _ h)
theorem tm1 (k : Nat) {w : Jvm.Cond} (h : tables_1_1[k]? = some w) : w ∈ lw_tbl := ti1 _ (List.mem_of_getElem? h)
theorem ti2 : ∀ w ∈ tables_1_2, w ∈ lw_tbl := fun w h => List.mem_append_right _ (show w ∈ tables_1_1 ++ (tables_1_2 ++ (tables_1_3 ++ tables_1_4)) from List.mem_append_right _ (List.mem_append_left _ h))
theorem tm2 (k : Nat) {w : Jvm.Cond} (h : tables_1_2[k]? = some w) : w ∈ lw_tbl := ti2 _ (List.mem_of_getElem? h)
theorem ti3 : ∀ w ∈ tables_1_3, w ∈ lw_tbl := fun w h => List.mem_append_right _ (show w ∈ tables_1_1 ++ (tables_1_2 ++ (tables_1_3 ++ tables_1_4)) from List.mem_append_right _ (List.mem_append_right _ (List.mem_append_left _ h)))
theorem tm3 (k : Nat) {w : Jvm.Cond} (h : tables_1_3[k]? = some w) : w ∈ lw_tbl := ti3 _ (List.mem_of_getElem? h)
theorem ti4 : ∀ w ∈ tables_1_4, w ∈ lw_tbl := fun w h => List.mem_append_right _ (show w ∈ tables_1_1 ++ (tables_1_2 ++ (tables_1_3 ++ tables_1_4)) from List.mem_append_right _ (List.mem_append_right _ (List.mem_append_right _ h)))
theorem tm4 (k : Nat) {w : Jvm.Cond} (h : tables_1_4[k]? = some w) : w ∈ lw_tbl := ti4 _ (List.mem_of_getElem? h)
theorem ps1 (k : Nat) {q : MethodName × Nat} (h : lw_privs_1[k]? = some q) : Jvm.Cond.selects q.1.cls q.1 q.1 ∈ lw_tbl := List.mem_append_left _ (List.mem_map.mpr ⟨q, (show q ∈ lw_privs_1 ++ (lw_privs_2 ++ (lw_privs_3)) from (fun (h : q ∈ lw_privs_1) => List.mem_append_left _ h) (List.mem_of_getElem? h)), rfl⟩)
theorem ps2 (k : Nat) {q : MethodName × Nat} (h : lw_privs_2[k]? = some q) : Jvm.Cond.selects q.1.cls q.1 q.1 ∈ lw_tbl := List.mem_append_left _ (List.mem_map.mpr ⟨q, (show q ∈ lw_privs_1 ++ (lw_privs_2 ++ (lw_privs_3)) from (fun (h : q ∈ lw_privs_2) => List.mem_append_right _ (List.mem_append_left _ h)) (List.mem_of_getElem? h)), rfl⟩)
theorem ps3 (k : Nat) {q : MethodName × Nat} (h : lw_privs_3[k]? = some q) : Jvm.Cond.selects q.1.cls q.1 q.1 ∈ lw_tbl := List.mem_append_left _ (List.mem_map.mpr ⟨q, (show q ∈ lw_privs_1 ++ (lw_privs_2 ++ (lw_privs_3)) from (fun (h : q ∈ lw_privs_3) => List.mem_append_right _ (List.mem_append_right _ (h))) (List.mem_of_getElem? h)), rfl⟩)
set_option maxRecDepth 100000 in
theorem inX0 : ∀ w ∈ u_ws RX0 TX0 6, w ∈ lw_tbl := (show ∀ w ∈ [u_lay RX0 TX0 0, u_lay RX0 TX0 1, u_lay RX0 TX0 2, u_lay RX0 TX0 3, u_lay RX0 TX0 4, u_lay RX0 TX0 5], w ∈ lw_tbl from List.forall_mem_cons.mpr ⟨(tm1 52 rfl), List.forall_mem_cons.mpr ⟨(tm1 54 rfl), List.forall_mem_cons.mpr ⟨(tm1 56 rfl), List.forall_mem_cons.mpr ⟨(tm1 58 rfl), List.forall_mem_cons.mpr ⟨(tm1 60 rfl), List.forall_mem_cons.mpr ⟨(tm1 62 rfl), fun _ h => absurd h List.not_mem_nil⟩⟩⟩⟩⟩⟩)
set_option maxRecDepth 100000 in
theorem inX1 : ∀ w ∈ u_ws RX1 TX1 2, w ∈ lw_tbl := (show ∀ w ∈ [u_lay RX1 TX1 0, u_lay RX1 TX1 1], w ∈ lw_tbl from List.forall_mem_cons.mpr ⟨(tm1 101 rfl), List.forall_mem_cons.mpr ⟨(tm1 103 rfl), fun _ h => absurd h List.not_mem_nil⟩⟩)
set_option maxRecDepth 100000 in
theorem inX2 : ∀ w ∈ u_ws RX2 TX2 7, w ∈ lw_tbl := (show ∀ w ∈ [u_lay RX2 TX2 0, u_lay RX2 TX2 1, u_lay RX2 TX2 2, u_lay RX2 TX2 3, u_lay RX2 TX2 4, u_lay RX2 TX2 5, u_lay RX2 TX2 6], w ∈ lw_tbl from List.forall_mem_cons.mpr ⟨(tm1 77 rfl), List.forall_mem_cons.mpr ⟨(tm1 79 rfl), List.forall_mem_cons.mpr ⟨(tm1 81 rfl), List.forall_mem_cons.mpr ⟨(tm1 83 rfl), List.forall_mem_cons.mpr ⟨(tm1 85 rfl), List.forall_mem_cons.mpr ⟨(tm1 87 rfl), List.forall_mem_cons.mpr ⟨(tm1 89 rfl), fun _ h => absurd h List.not_mem_nil⟩⟩⟩⟩⟩⟩⟩)
set_option maxRecDepth 100000 in
theorem inX3 : ∀ w ∈ u_ws RX3 TX3 8, w ∈ lw_tbl := (show ∀ w ∈ [u_lay RX3 TX3 0, u_lay RX3 TX3 1, u_lay RX3 TX3 2, u_lay RX3 TX3 3, u_lay RX3 TX3 4, u_lay RX3 TX3 5, u_lay RX3 TX3 6, u_lay RX3 TX3 7], w ∈ lw_tbl from List.forall_mem_cons.mpr ⟨(tm1 115 rfl), List.forall_mem_cons.mpr ⟨(tm1 117 rfl), List.forall_mem_cons.mpr ⟨(tm1 119 rfl), List.forall_mem_cons.mpr ⟨(tm1 121 rfl), List.forall_mem_cons.mpr ⟨(tm1 123 rfl), List.forall_mem_cons.mpr ⟨(tm1 125 rfl), List.forall_mem_cons.mpr ⟨(tm1 127 rfl), List.forall_mem_cons.mpr ⟨(tm1 129 rfl), fun _ h => absurd h List.not_mem_nil⟩⟩⟩⟩⟩⟩⟩⟩)
set_option maxRecDepth 100000 in
theorem inX4 : ∀ w ∈ u_ws RX4 TX4 15, w ∈ lw_tbl := (show ∀ w ∈ [u_lay RX4 TX4 0, u_lay RX4 TX4 1, u_lay RX4 TX4 2, u_lay RX4 TX4 3, u_lay RX4 TX4 4, u_lay RX4 TX4 5, u_lay RX4 TX4 6, u_lay RX4 TX4 7, u_lay RX4 TX4 8, u_lay RX4 TX4 9, u_lay RX4 TX4 10, u_lay RX4 TX4 11, u_lay RX4 TX4 12, u_lay RX4 TX4 13, u_lay RX4 TX4 14], w ∈ lw_tbl from List.forall_mem_cons.mpr ⟨(tm3 188 rfl), List.forall_mem_cons.mpr ⟨(tm3 190 rfl), List.forall_mem_cons.mpr ⟨(tm3 192 rfl), List.forall_mem_cons.mpr ⟨(tm3 194 rfl), List.forall_mem_cons.mpr ⟨(tm3 196 rfl), List.forall_mem_cons.mpr ⟨(tm3 198 rfl), List.forall_mem_cons.mpr ⟨(tm3 200 rfl), List.forall_mem_cons.mpr ⟨(tm3 202 rfl), List.forall_mem_cons.mpr ⟨(tm3 204 rfl), List.forall_mem_cons.mpr ⟨(tm3 206 rfl), List.forall_mem_cons.mpr ⟨(tm3 208 rfl), List.forall_mem_cons.mpr ⟨(tm3 210 rfl), List.forall_mem_cons.mpr ⟨(tm3 212 rfl), List.forall_mem_cons.mpr ⟨(tm3 214 rfl), List.forall_mem_cons.mpr ⟨(tm3 216 rfl), fun _ h => absurd h List.not_mem_nil⟩⟩⟩⟩⟩⟩⟩⟩⟩⟩⟩⟩⟩⟩⟩)
/-- the words that every method carries -/
def BW : List Jvm.Cond := lw_tbl.filter goodWord
theorem bw {w : Jvm.Cond} (h : w ∈ lw_tbl) (g : goodWord w = true) : w ∈ BW := List.mem_filter.mpr ⟨h, g⟩
